section GI
variable {d : Nat} {ls st : List Value} {h : AH} {Q : Option Value → AH → Prop}
theorem g155_0 : G d 155 0 ls st h Q ↔ GN d 155 0 ls h (ldR ls 0 fun a => nx 1 ls (.ref a :: st) h) Q := G_unf rfl rfl
theorem g155_1 : G d 155 1 ls st h Q ↔ GN d 155 1 ls h (pR st fun _ r => ck (r.length ≤ 4) (nx 4 ls r h)) Q := G_unf rfl rfl
theorem g155_4 : G d 155 4 ls st h Q ↔ GN d 155 4 ls h (ldR ls 0 fun a => nx 5 ls (.ref a :: st) h) Q := G_unf rfl rfl
theorem g155_5 : G d 155 5 ls st h Q ↔ GN d 155 5 ls h (nx 8 ls (.int (nI 1800) :: st) h) Q := G_unf rfl rfl
theorem g155_8 : G d 155 8 ls st h Q ↔ GN d 155 8 ls h (pI st fun z r => ck (0 ≤ z.toInt ∧ z.toInt ≤ 1000000 ∧ lay (hN h) = 10) (nx 10 ls (.ref (hN h) :: r) (alc h z.toNatClampNeg z.toNatClampNeg))) Q := G_unf rfl rfl
theorem g155_10 : G d 155 10 ls st h Q ↔ GN d 155 10 ls h (pRR st fun a x r => ck (arr h a 9) (nx 13 ls r (sR h a 0 (some x)))) Q := G_unf rfl rfl
theorem g155_13 : G d 155 13 ls st h Q ↔ GN d 155 13 ls h (ldR ls 0 fun a => nx 14 ls (.ref a :: st) h) Q := G_unf rfl rfl
theorem g155_14 : G d 155 14 ls st h Q ↔ GN d 155 14 ls h (nx 15 ls (.int (nI 0) :: st) h) Q := G_unf rfl rfl
theorem g155_15 : G d 155 15 ls st h Q ↔ GN d 155 15 ls h (pRI st fun a x r => ck (arr h a 9) (nx 18 ls r (sI h a 1 x))) Q := G_unf rfl rfl
theorem g155_18 : G d 155 18 ls st h Q ↔ GN d 155 18 ls h (ldR ls 0 fun a => nx 19 ls (.ref a :: st) h) Q := G_unf rfl rfl
theorem g155_19 : G d 155 19 ls st h Q ↔ GN d 155 19 ls h (nx 20 ls (.int (nI 0) :: st) h) Q := G_unf rfl rfl
theorem g155_20 : G d 155 20 ls st h Q ↔ GN d 155 20 ls h (pRI st fun a x r => ck (arr h a 9) (nx 23 ls r (sI h a 2 x))) Q := G_unf rfl rfl
theorem g155_23 : G d 155 23 ls st h Q ↔ GN d 155 23 ls h (ldR ls 0 fun a => nx 24 ls (.ref a :: st) h) Q := G_unf rfl rfl
theorem g155_24 : G d 155 24 ls st h Q ↔ GN d 155 24 ls h (nx 25 ls (.int (nI 0) :: st) h) Q := G_unf rfl rfl
theorem g155_25 : G d 155 25 ls st h Q ↔ GN d 155 25 ls h (pRI st fun a x r => ck (arr h a 9) (nx 28 ls r (sI h a 3 x))) Q := G_unf rfl rfl
theorem g155_28 : G d 155 28 ls st h Q ↔ GN d 155 28 ls h (ldR ls 0 fun a => nx 29 ls (.ref a :: st) h) Q := G_unf rfl rfl
theorem g155_29 : G d 155 29 ls st h Q ↔ GN d 155 29 ls h (nx 30 ls (.int (nI 0) :: st) h) Q := G_unf rfl rfl
theorem g155_30 : G d 155 30 ls st h Q ↔ GN d 155 30 ls h (pRI st fun a x r => ck (arr h a 9) (nx 33 ls r (sI h a 4 x))) Q := G_unf rfl rfl
theorem g155_33 : G d 155 33 ls st h Q ↔ GN d 155 33 ls h (ldR ls 0 fun a => nx 34 ls (.ref a :: st) h) Q := G_unf rfl rfl
theorem g155_34 : G d 155 34 ls st h Q ↔ GN d 155 34 ls h (nx 35 ls (.int (nI 0) :: st) h) Q := G_unf rfl rfl
theorem g155_35 : G d 155 35 ls st h Q ↔ GN d 155 35 ls h (pRI st fun a x r => ck (arr h a 9) (nx 38 ls r (sI h a 5 x))) Q := G_unf rfl rfl
theorem g155_38 : G d 155 38 ls st h Q ↔ GN d 155 38 ls h (ldR ls 0 fun a => nx 39 ls (.ref a :: st) h) Q := G_unf rfl rfl
theorem g155_39 : G d 155 39 ls st h Q ↔ GN d 155 39 ls h (nx 40 ls (.int (nI 0) :: st) h) Q := G_unf rfl rfl
theorem g155_40 : G d 155 40 ls st h Q ↔ GN d 155 40 ls h (pRI st fun a x r => ck (arr h a 9) (nx 43 ls r (sI h a 6 x))) Q := G_unf rfl rfl
theorem g155_43 : G d 155 43 ls st h Q ↔ GN d 155 43 ls h (ldR ls 0 fun a => nx 44 ls (.ref a :: st) h) Q := G_unf rfl rfl
theorem g155_44 : G d 155 44 ls st h Q ↔ GN d 155 44 ls h (nx 45 ls (.long (lN 0) :: st) h) Q := G_unf rfl rfl
theorem g155_45 : G d 155 45 ls st h Q ↔ GN d 155 45 ls h (pRJ st fun a x r => ck (arr h a 9) (nx 48 ls r (sL h a 7 x))) Q := G_unf rfl rfl
theorem g155_48 : G d 155 48 ls st h Q ↔ GN d 155 48 ls h (ldR ls 0 fun a => nx 49 ls (.ref a :: st) h) Q := G_unf rfl rfl
theorem g155_49 : G d 155 49 ls st h Q ↔ GN d 155 49 ls h (nx 50 ls (.int (nI 0) :: st) h) Q := G_unf rfl rfl
theorem g155_50 : G d 155 50 ls st h Q ↔ GN d 155 50 ls h (pRI st fun a x r => ck (arr h a 9) (nx 53 ls r (sI h a 8 x))) Q := G_unf rfl rfl
theorem g155_53 : G d 155 53 ls st h Q ↔ GN d 155 53 ls h (ldR ls 0 fun a => nx 54 ls (.ref a :: st) h) Q := G_unf rfl rfl
theorem g155_54 : G d 155 54 ls st h Q ↔ GN d 155 54 ls h (nx 55 ls (.int (-1) :: st) h) Q := G_unf rfl rfl
theorem g155_55 : G d 155 55 ls st h Q ↔ GN d 155 55 ls h (pRI st fun a x r => ck (arr h a 9) (nx 58 ls r (sI h a 9 x))) Q := G_unf rfl rfl
theorem g155_58 : G d 155 58 ls st h Q ↔ GN d 155 58 ls h (ldR ls 0 fun a => nx 59 ls (.ref a :: st) h) Q := G_unf rfl rfl
theorem g155_59 : G d 155 59 ls st h Q ↔ GN d 155 59 ls h (nx 60 ls (.int (nI 0) :: st) h) Q := G_unf rfl rfl
theorem g155_60 : G d 155 60 ls st h Q ↔ GN d 155 60 ls h (pRI st fun a x r => ck (arr h a 9) (nx 63 ls r (sI h a 10 x))) Q := G_unf rfl rfl
theorem g155_63 : G d 155 63 ls st h Q ↔ GN d 155 63 ls h (ldR ls 0 fun a => nx 64 ls (.ref a :: st) h) Q := G_unf rfl rfl
theorem g155_64 : G d 155 64 ls st h Q ↔ GN d 155 64 ls h (nx 65 ls (.int (-1) :: st) h) Q := G_unf rfl rfl
theorem g155_65 : G d 155 65 ls st h Q ↔ GN d 155 65 ls h (pRI st fun a x r => ck (arr h a 9) (nx 68 ls r (sI h a 11 x))) Q := G_unf rfl rfl
theorem g155_68 : G d 155 68 ls st h Q ↔ GN d 155 68 ls h (ldR ls 0 fun a => nx 69 ls (.ref a :: st) h) Q := G_unf rfl rfl
theorem g155_69 : G d 155 69 ls st h Q ↔ GN d 155 69 ls h (nx 70 ls (.int (-1) :: st) h) Q := G_unf rfl rfl
theorem g155_70 : G d 155 70 ls st h Q ↔ GN d 155 70 ls h (pRI st fun a x r => ck (arr h a 9) (nx 73 ls r (sI h a 12 x))) Q := G_unf rfl rfl
theorem g155_73 : G d 155 73 ls st h Q ↔ GN d 155 73 ls h (ldR ls 0 fun a => nx 74 ls (.ref a :: st) h) Q := G_unf rfl rfl
theorem g155_74 : G d 155 74 ls st h Q ↔ GN d 155 74 ls h (nx 75 ls (.int (nI 0) :: st) h) Q := G_unf rfl rfl
theorem g155_75 : G d 155 75 ls st h Q ↔ GN d 155 75 ls h (pRI st fun a x r => ck (arr h a 9) (nx 78 ls r (sI h a 13 x))) Q := G_unf rfl rfl
theorem g155_78 : G d 155 78 ls st h Q ↔ GN d 155 78 ls h (ldR ls 0 fun a => nx 79 ls (.ref a :: st) h) Q := G_unf rfl rfl
theorem g155_79 : G d 155 79 ls st h Q ↔ GN d 155 79 ls h (nx 80 ls (.int (nI 2) :: st) h) Q := G_unf rfl rfl
theorem g155_80 : G d 155 80 ls st h Q ↔ GN d 155 80 ls h (pI st fun z r => ck (0 ≤ z.toInt ∧ z.toInt ≤ 1000000 ∧ lay (hN h) = 10) (nx 82 ls (.ref (hN h) :: r) (alc h z.toNatClampNeg z.toNatClampNeg))) Q := G_unf rfl rfl
theorem g155_82 : G d 155 82 ls st h Q ↔ GN d 155 82 ls h (pRR st fun a x r => ck (arr h a 9) (nx 85 ls r (sR h a 14 (some x)))) Q := G_unf rfl rfl
theorem g155_85 : G d 155 85 ls st h Q ↔ GN d 155 85 ls h (ldR ls 0 fun a => nx 86 ls (.ref a :: st) h) Q := G_unf rfl rfl
theorem g155_86 : G d 155 86 ls st h Q ↔ GN d 155 86 ls h (nx 88 ls (.int (nI 24) :: st) h) Q := G_unf rfl rfl
theorem g155_88 : G d 155 88 ls st h Q ↔ GN d 155 88 ls h (pI st fun z r => ck (0 ≤ z.toInt ∧ z.toInt ≤ 1000000 ∧ lay (hN h) = 10) (nx 90 ls (.ref (hN h) :: r) (alc h z.toNatClampNeg z.toNatClampNeg))) Q := G_unf rfl rfl
theorem g155_90 : G d 155 90 ls st h Q ↔ GN d 155 90 ls h (pRR st fun a x r => ck (arr h a 9) (nx 93 ls r (sR h a 15 (some x)))) Q := G_unf rfl rfl
theorem g155_93 : G d 155 93 ls st h Q ↔ GN d 155 93 ls h (ldR ls 0 fun a => nx 94 ls (.ref a :: st) h) Q := G_unf rfl rfl
theorem g155_94 : G d 155 94 ls st h Q ↔ GN d 155 94 ls h (nx 96 ls (.int (nI 24) :: st) h) Q := G_unf rfl rfl
theorem g155_96 : G d 155 96 ls st h Q ↔ GN d 155 96 ls h (pI st fun z r => ck (0 ≤ z.toInt ∧ z.toInt ≤ 1000000 ∧ lay (hN h) = 10) (nx 98 ls (.ref (hN h) :: r) (alc h z.toNatClampNeg z.toNatClampNeg))) Q := G_unf rfl rfl
theorem g155_98 : G d 155 98 ls st h Q ↔ GN d 155 98 ls h (pRR st fun a x r => ck (arr h a 9) (nx 101 ls r (sR h a 16 (some x)))) Q := G_unf rfl rfl
theorem g155_101 : G d 155 101 ls st h Q ↔ GN d 155 101 ls h (ldR ls 0 fun a => nx 102 ls (.ref a :: st) h) Q := G_unf rfl rfl
theorem g155_102 : G d 155 102 ls st h Q ↔ GN d 155 102 ls h (nx 103 ls (.int (nI 2) :: st) h) Q := G_unf rfl rfl
theorem g155_103 : G d 155 103 ls st h Q ↔ GN d 155 103 ls h (pI st fun z r => ck (0 ≤ z.toInt ∧ z.toInt ≤ 1000000 ∧ lay (hN h) = 10) (nx 105 ls (.ref (hN h) :: r) (alc h z.toNatClampNeg z.toNatClampNeg))) Q := G_unf rfl rfl
theorem g155_105 : G d 155 105 ls st h Q ↔ GN d 155 105 ls h (pRR st fun a x r => ck (arr h a 9) (nx 108 ls r (sR h a 17 (some x)))) Q := G_unf rfl rfl
theorem g155_108 : G d 155 108 ls st h Q ↔ GN d 155 108 ls h (ldR ls 0 fun a => nx 109 ls (.ref a :: st) h) Q := G_unf rfl rfl
theorem g155_109 : G d 155 109 ls st h Q ↔ GN d 155 109 ls h (nx 111 ls (.int (nI 32) :: st) h) Q := G_unf rfl rfl
theorem g155_111 : G d 155 111 ls st h Q ↔ GN d 155 111 ls h (pI st fun z r => ck (0 ≤ z.toInt ∧ z.toInt ≤ 1000000 ∧ lay (hN h) = 10) (nx 113 ls (.ref (hN h) :: r) (alc h z.toNatClampNeg z.toNatClampNeg))) Q := G_unf rfl rfl
theorem g155_113 : G d 155 113 ls st h Q ↔ GN d 155 113 ls h (pRR st fun a x r => ck (arr h a 9) (nx 116 ls r (sR h a 18 (some x)))) Q := G_unf rfl rfl
theorem g155_116 : G d 155 116 ls st h Q ↔ GN d 155 116 ls h (ldR ls 0 fun a => nx 117 ls (.ref a :: st) h) Q := G_unf rfl rfl
theorem g155_117 : G d 155 117 ls st h Q ↔ GN d 155 117 ls h (nx 119 ls (.int (nI 32) :: st) h) Q := G_unf rfl rfl
theorem g155_119 : G d 155 119 ls st h Q ↔ GN d 155 119 ls h (pI st fun z r => ck (0 ≤ z.toInt ∧ z.toInt ≤ 1000000 ∧ lay (hN h) = 10) (nx 121 ls (.ref (hN h) :: r) (alc h z.toNatClampNeg z.toNatClampNeg))) Q := G_unf rfl rfl
theorem g155_121 : G d 155 121 ls st h Q ↔ GN d 155 121 ls h (pRR st fun a x r => ck (arr h a 9) (nx 124 ls r (sR h a 19 (some x)))) Q := G_unf rfl rfl
theorem g155_124 : G d 155 124 ls st h Q ↔ GN d 155 124 ls h (ldR ls 0 fun a => nx 125 ls (.ref a :: st) h) Q := G_unf rfl rfl
theorem g155_125 : G d 155 125 ls st h Q ↔ GN d 155 125 ls h (nx 126 ls (.int (nI 2) :: st) h) Q := G_unf rfl rfl
theorem g155_126 : G d 155 126 ls st h Q ↔ GN d 155 126 ls h (pI st fun z r => ck (0 ≤ z.toInt ∧ z.toInt ≤ 1000000 ∧ lay (hN h) = 10) (nx 128 ls (.ref (hN h) :: r) (alc h z.toNatClampNeg z.toNatClampNeg))) Q := G_unf rfl rfl
theorem g155_128 : G d 155 128 ls st h Q ↔ GN d 155 128 ls h (pRR st fun a x r => ck (arr h a 9) (nx 131 ls r (sR h a 20 (some x)))) Q := G_unf rfl rfl
theorem g155_131 : G d 155 131 ls st h Q ↔ GN d 155 131 ls h (ldR ls 0 fun a => nx 132 ls (.ref a :: st) h) Q := G_unf rfl rfl
theorem g155_132 : G d 155 132 ls st h Q ↔ GN d 155 132 ls h (nx 134 ls (.int (nI 16) :: st) h) Q := G_unf rfl rfl
theorem g155_134 : G d 155 134 ls st h Q ↔ GN d 155 134 ls h (pI st fun z r => ck (0 ≤ z.toInt ∧ z.toInt ≤ 1000000 ∧ lay (hN h) = 10) (nx 136 ls (.ref (hN h) :: r) (alc h z.toNatClampNeg z.toNatClampNeg))) Q := G_unf rfl rfl
theorem g155_136 : G d 155 136 ls st h Q ↔ GN d 155 136 ls h (pRR st fun a x r => ck (arr h a 9) (nx 139 ls r (sR h a 21 (some x)))) Q := G_unf rfl rfl
theorem g155_139 : G d 155 139 ls st h Q ↔ GN d 155 139 ls h (ldR ls 0 fun a => nx 140 ls (.ref a :: st) h) Q := G_unf rfl rfl
theorem g155_140 : G d 155 140 ls st h Q ↔ GN d 155 140 ls h (nx 142 ls (.int (nI 16) :: st) h) Q := G_unf rfl rfl
theorem g155_142 : G d 155 142 ls st h Q ↔ GN d 155 142 ls h (pI st fun z r => ck (0 ≤ z.toInt ∧ z.toInt ≤ 1000000 ∧ lay (hN h) = 10) (nx 144 ls (.ref (hN h) :: r) (alc h z.toNatClampNeg z.toNatClampNeg))) Q := G_unf rfl rfl
theorem g155_144 : G d 155 144 ls st h Q ↔ GN d 155 144 ls h (pRR st fun a x r => ck (arr h a 9) (nx 147 ls r (sR h a 22 (some x)))) Q := G_unf rfl rfl
set_option maxRecDepth 100000 in
theorem g155_147 : G d 155 147 ls st h Q ↔ GN d 155 147 ls h (ldR ls 0 fun a => nx 148 ls (.ref a :: st) h) Q := G_unf rfl rfl
set_option maxRecDepth 100000 in
theorem g155_148 : G d 155 148 ls st h Q ↔ GN d 155 148 ls h (nx 149 ls (.int (nI 2) :: st) h) Q := G_unf rfl rfl
set_option maxRecDepth 100000 in
theorem g155_149 : G d 155 149 ls st h Q ↔ GN d 155 149 ls h (pI st fun z r => ck (0 ≤ z.toInt ∧ z.toInt ≤ 1000000 ∧ lay (hN h) = 10) (nx 151 ls (.ref (hN h) :: r) (alc h z.toNatClampNeg z.toNatClampNeg))) Q := G_unf rfl rfl
set_option maxRecDepth 100000 in
theorem g155_151 : G d 155 151 ls st h Q ↔ GN d 155 151 ls h (pRR st fun a x r => ck (arr h a 9) (nx 154 ls r (sR h a 23 (some x)))) Q := G_unf rfl rfl
set_option maxRecDepth 100000 in
theorem g155_154 : G d 155 154 ls st h Q ↔ GN d 155 154 ls h (ldR ls 0 fun a => nx 155 ls (.ref a :: st) h) Q := G_unf rfl rfl
set_option maxRecDepth 100000 in
theorem g155_155 : G d 155 155 ls st h Q ↔ GN d 155 155 ls h (nx 157 ls (.int (nI 32) :: st) h) Q := G_unf rfl rfl
set_option maxRecDepth 100000 in
theorem g155_157 : G d 155 157 ls st h Q ↔ GN d 155 157 ls h (pI st fun z r => ck (0 ≤ z.toInt ∧ z.toInt ≤ 1000000 ∧ lay (hN h) = 10) (nx 159 ls (.ref (hN h) :: r) (alc h z.toNatClampNeg z.toNatClampNeg))) Q := G_unf rfl rfl
set_option maxRecDepth 100000 in
theorem g155_159 : G d 155 159 ls st h Q ↔ GN d 155 159 ls h (pRR st fun a x r => ck (arr h a 9) (nx 162 ls r (sR h a 24 (some x)))) Q := G_unf rfl rfl
set_option maxRecDepth 100000 in
theorem g155_162 : G d 155 162 ls st h Q ↔ GN d 155 162 ls h (ldR ls 0 fun a => nx 163 ls (.ref a :: st) h) Q := G_unf rfl rfl
set_option maxRecDepth 100000 in
theorem g155_163 : G d 155 163 ls st h Q ↔ GN d 155 163 ls h (nx 165 ls (.int (nI 32) :: st) h) Q := G_unf rfl rfl
set_option maxRecDepth 100000 in
theorem g155_165 : G d 155 165 ls st h Q ↔ GN d 155 165 ls h (pI st fun z r => ck (0 ≤ z.toInt ∧ z.toInt ≤ 1000000 ∧ lay (hN h) = 10) (nx 167 ls (.ref (hN h) :: r) (alc h z.toNatClampNeg z.toNatClampNeg))) Q := G_unf rfl rfl
set_option maxRecDepth 100000 in
theorem g155_167 : G d 155 167 ls st h Q ↔ GN d 155 167 ls h (pRR st fun a x r => ck (arr h a 9) (nx 170 ls r (sR h a 25 (some x)))) Q := G_unf rfl rfl
set_option maxRecDepth 100000 in
theorem g155_170 : G d 155 170 ls st h Q ↔ GN d 155 170 ls h (ldR ls 0 fun a => nx 171 ls (.ref a :: st) h) Q := G_unf rfl rfl
set_option maxRecDepth 100000 in
theorem g155_171 : G d 155 171 ls st h Q ↔ GN d 155 171 ls h (nx 173 ls (.int (nI 32) :: st) h) Q := G_unf rfl rfl
set_option maxRecDepth 100000 in
theorem g155_173 : G d 155 173 ls st h Q ↔ GN d 155 173 ls h (pI st fun z r => ck (0 ≤ z.toInt ∧ z.toInt ≤ 1000000 ∧ lay (hN h) = 10) (nx 175 ls (.ref (hN h) :: r) (alc h z.toNatClampNeg z.toNatClampNeg))) Q := G_unf rfl rfl
set_option maxRecDepth 100000 in
theorem g155_175 : G d 155 175 ls st h Q ↔ GN d 155 175 ls h (pRR st fun a x r => ck (arr h a 9) (nx 178 ls r (sR h a 26 (some x)))) Q := G_unf rfl rfl
set_option maxRecDepth 100000 in
theorem g155_178 : G d 155 178 ls st h Q ↔ GN d 155 178 ls h (ldR ls 0 fun a => nx 179 ls (.ref a :: st) h) Q := G_unf rfl rfl
set_option maxRecDepth 100000 in
theorem g155_179 : G d 155 179 ls st h Q ↔ GN d 155 179 ls h (nx 180 ls (.int (nI 2) :: st) h) Q := G_unf rfl rfl
set_option maxRecDepth 100000 in
theorem g155_180 : G d 155 180 ls st h Q ↔ GN d 155 180 ls h (pI st fun z r => ck (0 ≤ z.toInt ∧ z.toInt ≤ 1000000 ∧ lay (hN h) = 10) (nx 182 ls (.ref (hN h) :: r) (alc h z.toNatClampNeg z.toNatClampNeg))) Q := G_unf rfl rfl
set_option maxRecDepth 100000 in
theorem g155_182 : G d 155 182 ls st h Q ↔ GN d 155 182 ls h (pRR st fun a x r => ck (arr h a 9) (nx 185 ls r (sR h a 27 (some x)))) Q := G_unf rfl rfl
set_option maxRecDepth 100000 in
theorem g155_185 : G d 155 185 ls st h Q ↔ GN d 155 185 ls h (ldR ls 0 fun a => nx 186 ls (.ref a :: st) h) Q := G_unf rfl rfl
set_option maxRecDepth 100000 in
theorem g155_186 : G d 155 186 ls st h Q ↔ GN d 155 186 ls h (nx 189 ls (.int (nI 192) :: st) h) Q := G_unf rfl rfl
set_option maxRecDepth 100000 in
theorem g155_189 : G d 155 189 ls st h Q ↔ GN d 155 189 ls h (pI st fun z r => ck (0 ≤ z.toInt ∧ z.toInt ≤ 1000000 ∧ lay (hN h) = 10) (nx 191 ls (.ref (hN h) :: r) (alc h z.toNatClampNeg z.toNatClampNeg))) Q := G_unf rfl rfl
set_option maxRecDepth 100000 in
theorem g155_191 : G d 155 191 ls st h Q ↔ GN d 155 191 ls h (pRR st fun a x r => ck (arr h a 9) (nx 194 ls r (sR h a 28 (some x)))) Q := G_unf rfl rfl
set_option maxRecDepth 100000 in
theorem g155_194 : G d 155 194 ls st h Q ↔ GN d 155 194 ls h (ldR ls 0 fun a => nx 195 ls (.ref a :: st) h) Q := G_unf rfl rfl
set_option maxRecDepth 100000 in
theorem g155_195 : G d 155 195 ls st h Q ↔ GN d 155 195 ls h (nx 196 ls (.int (nI 2) :: st) h) Q := G_unf rfl rfl
set_option maxRecDepth 100000 in
theorem g155_196 : G d 155 196 ls st h Q ↔ GN d 155 196 ls h (pI st fun z r => ck (0 ≤ z.toInt ∧ z.toInt ≤ 1000000 ∧ lay (hN h) = 10) (nx 198 ls (.ref (hN h) :: r) (alc h z.toNatClampNeg z.toNatClampNeg))) Q := G_unf rfl rfl
set_option maxRecDepth 100000 in
theorem g155_198 : G d 155 198 ls st h Q ↔ GN d 155 198 ls h (pRR st fun a x r => ck (arr h a 9) (nx 201 ls r (sR h a 29 (some x)))) Q := G_unf rfl rfl
set_option maxRecDepth 100000 in
theorem g155_201 : G d 155 201 ls st h Q ↔ GN d 155 201 ls h (ldR ls 0 fun a => nx 202 ls (.ref a :: st) h) Q := G_unf rfl rfl
set_option maxRecDepth 100000 in
theorem g155_202 : G d 155 202 ls st h Q ↔ GN d 155 202 ls h (nx 203 ls (.int (nI 2) :: st) h) Q := G_unf rfl rfl
set_option maxRecDepth 100000 in
theorem g155_203 : G d 155 203 ls st h Q ↔ GN d 155 203 ls h (pI st fun z r => ck (0 ≤ z.toInt ∧ z.toInt ≤ 1000000 ∧ lay (hN h) = 10) (nx 205 ls (.ref (hN h) :: r) (alc h z.toNatClampNeg z.toNatClampNeg))) Q := G_unf rfl rfl
set_option maxRecDepth 100000 in
theorem g155_205 : G d 155 205 ls st h Q ↔ GN d 155 205 ls h (pRR st fun a x r => ck (arr h a 9) (nx 208 ls r (sR h a 30 (some x)))) Q := G_unf rfl rfl
set_option maxRecDepth 100000 in
theorem g155_208 : G d 155 208 ls st h Q ↔ GN d 155 208 ls h (ldR ls 0 fun a => nx 209 ls (.ref a :: st) h) Q := G_unf rfl rfl
set_option maxRecDepth 100000 in
theorem g155_209 : G d 155 209 ls st h Q ↔ GN d 155 209 ls h (nx 210 ls (.int (nI 2) :: st) h) Q := G_unf rfl rfl
set_option maxRecDepth 100000 in
theorem g155_210 : G d 155 210 ls st h Q ↔ GN d 155 210 ls h (pI st fun z r => ck (0 ≤ z.toInt ∧ z.toInt ≤ 1000000 ∧ lay (hN h) = 10) (nx 212 ls (.ref (hN h) :: r) (alc h z.toNatClampNeg z.toNatClampNeg))) Q := G_unf rfl rfl
set_option maxRecDepth 100000 in
theorem g155_212 : G d 155 212 ls st h Q ↔ GN d 155 212 ls h (pRR st fun a x r => ck (arr h a 9) (nx 215 ls r (sR h a 31 (some x)))) Q := G_unf rfl rfl
set_option maxRecDepth 100000 in
theorem g155_215 : G d 155 215 ls st h Q ↔ GN d 155 215 ls h (ldR ls 0 fun a => nx 216 ls (.ref a :: st) h) Q := G_unf rfl rfl
set_option maxRecDepth 100000 in
theorem g155_216 : G d 155 216 ls st h Q ↔ GN d 155 216 ls h (nx 217 ls (.int (nI 2) :: st) h) Q := G_unf rfl rfl
set_option maxRecDepth 100000 in
theorem g155_217 : G d 155 217 ls st h Q ↔ GN d 155 217 ls h (pI st fun z r => ck (0 ≤ z.toInt ∧ z.toInt ≤ 1000000 ∧ lay (hN h) = 10) (nx 219 ls (.ref (hN h) :: r) (alc h z.toNatClampNeg z.toNatClampNeg))) Q := G_unf rfl rfl
set_option maxRecDepth 100000 in
theorem g155_219 : G d 155 219 ls st h Q ↔ GN d 155 219 ls h (pRR st fun a x r => ck (arr h a 9) (nx 222 ls r (sR h a 32 (some x)))) Q := G_unf rfl rfl
set_option maxRecDepth 100000 in
theorem g155_222 : G d 155 222 ls st h Q ↔ GN d 155 222 ls h (ldR ls 0 fun a => nx 223 ls (.ref a :: st) h) Q := G_unf rfl rfl
set_option maxRecDepth 100000 in
theorem g155_223 : G d 155 223 ls st h Q ↔ GN d 155 223 ls h (nx 224 ls (.int (nI 2) :: st) h) Q := G_unf rfl rfl
set_option maxRecDepth 100000 in
theorem g155_224 : G d 155 224 ls st h Q ↔ GN d 155 224 ls h (pI st fun z r => ck (0 ≤ z.toInt ∧ z.toInt ≤ 1000000 ∧ lay (hN h) = 10) (nx 226 ls (.ref (hN h) :: r) (alc h z.toNatClampNeg z.toNatClampNeg))) Q := G_unf rfl rfl
set_option maxRecDepth 100000 in
theorem g155_226 : G d 155 226 ls st h Q ↔ GN d 155 226 ls h (pRR st fun a x r => ck (arr h a 9) (nx 229 ls r (sR h a 33 (some x)))) Q := G_unf rfl rfl
set_option maxRecDepth 100000 in
theorem g155_229 : G d 155 229 ls st h Q ↔ GN d 155 229 ls h (ldR ls 0 fun a => nx 230 ls (.ref a :: st) h) Q := G_unf rfl rfl
set_option maxRecDepth 100000 in
theorem g155_230 : G d 155 230 ls st h Q ↔ GN d 155 230 ls h (nx 233 ls (.int (nI 3200) :: st) h) Q := G_unf rfl rfl
set_option maxRecDepth 100000 in
theorem g155_233 : G d 155 233 ls st h Q ↔ GN d 155 233 ls h (pI st fun z r => ck (0 ≤ z.toInt ∧ z.toInt ≤ 1000000 ∧ lay (hN h) = 10) (nx 235 ls (.ref (hN h) :: r) (alc h z.toNatClampNeg z.toNatClampNeg))) Q := G_unf rfl rfl
set_option maxRecDepth 100000 in
theorem g155_235 : G d 155 235 ls st h Q ↔ GN d 155 235 ls h (pRR st fun a x r => ck (arr h a 9) (nx 238 ls r (sR h a 34 (some x)))) Q := G_unf rfl rfl
set_option maxRecDepth 100000 in
theorem g155_238 : G d 155 238 ls st h Q ↔ GN d 155 238 ls h (ldR ls 0 fun a => nx 239 ls (.ref a :: st) h) Q := G_unf rfl rfl
set_option maxRecDepth 100000 in
theorem g155_239 : G d 155 239 ls st h Q ↔ GN d 155 239 ls h (nx 242 ls (.int (nI 3200) :: st) h) Q := G_unf rfl rfl
set_option maxRecDepth 100000 in
theorem g155_242 : G d 155 242 ls st h Q ↔ GN d 155 242 ls h (pI st fun z r => ck (0 ≤ z.toInt ∧ z.toInt ≤ 1000000 ∧ lay (hN h) = 10) (nx 244 ls (.ref (hN h) :: r) (alc h z.toNatClampNeg z.toNatClampNeg))) Q := G_unf rfl rfl
set_option maxRecDepth 100000 in
theorem g155_244 : G d 155 244 ls st h Q ↔ GN d 155 244 ls h (pRR st fun a x r => ck (arr h a 9) (nx 247 ls r (sR h a 35 (some x)))) Q := G_unf rfl rfl
set_option maxRecDepth 100000 in
theorem g155_247 : G d 155 247 ls st h Q ↔ GN d 155 247 ls h (ldR ls 0 fun a => nx 248 ls (.ref a :: st) h) Q := G_unf rfl rfl
set_option maxRecDepth 100000 in
theorem g155_248 : G d 155 248 ls st h Q ↔ GN d 155 248 ls h (nx 250 ls (.int (nI 24) :: st) h) Q := G_unf rfl rfl
set_option maxRecDepth 100000 in
theorem g155_250 : G d 155 250 ls st h Q ↔ GN d 155 250 ls h (pI st fun z r => ck (0 ≤ z.toInt ∧ z.toInt ≤ 1000000 ∧ lay (hN h) = 13) (nx 252 ls (.ref (hN h) :: r) (alc h z.toNatClampNeg z.toNatClampNeg))) Q := G_unf rfl rfl
set_option maxRecDepth 100000 in
theorem g155_252 : G d 155 252 ls st h Q ↔ GN d 155 252 ls h (pRR st fun a x r => ck (arr h a 9) (nx 255 ls r (sR h a 36 (some x)))) Q := G_unf rfl rfl
set_option maxRecDepth 100000 in
theorem g155_255 : G d 155 255 ls st h Q ↔ GN d 155 255 ls h (ldR ls 0 fun a => nx 256 ls (.ref a :: st) h) Q := G_unf rfl rfl
set_option maxRecDepth 100000 in
theorem g155_256 : G d 155 256 ls st h Q ↔ GN d 155 256 ls h (nx 258 ls (.int (nI 16) :: st) h) Q := G_unf rfl rfl
set_option maxRecDepth 100000 in
theorem g155_258 : G d 155 258 ls st h Q ↔ GN d 155 258 ls h (pI st fun z r => ck (0 ≤ z.toInt ∧ z.toInt ≤ 1000000 ∧ lay (hN h) = 13) (nx 260 ls (.ref (hN h) :: r) (alc h z.toNatClampNeg z.toNatClampNeg))) Q := G_unf rfl rfl
set_option maxRecDepth 100000 in
theorem g155_260 : G d 155 260 ls st h Q ↔ GN d 155 260 ls h (pRR st fun a x r => ck (arr h a 9) (nx 263 ls r (sR h a 37 (some x)))) Q := G_unf rfl rfl
set_option maxRecDepth 100000 in
theorem g155_263 : G d 155 263 ls st h Q ↔ GN d 155 263 ls h (ldR ls 0 fun a => nx 264 ls (.ref a :: st) h) Q := G_unf rfl rfl
set_option maxRecDepth 100000 in
theorem g155_264 : G d 155 264 ls st h Q ↔ GN d 155 264 ls h (nx 265 ls (.int (nI 0) :: st) h) Q := G_unf rfl rfl
set_option maxRecDepth 100000 in
theorem g155_265 : G d 155 265 ls st h Q ↔ GN d 155 265 ls h (pRI st fun a x r => ck (arr h a 9) (nx 268 ls r (sI h a 38 x))) Q := G_unf rfl rfl
set_option maxRecDepth 100000 in
theorem g155_268 : G d 155 268 ls st h Q ↔ GN d 155 268 ls h (ldR ls 0 fun a => nx 269 ls (.ref a :: st) h) Q := G_unf rfl rfl
set_option maxRecDepth 100000 in
theorem g155_269 : G d 155 269 ls st h Q ↔ GN d 155 269 ls h (nx 270 ls (.int (nI 1) :: st) h) Q := G_unf rfl rfl
set_option maxRecDepth 100000 in
theorem g155_270 : G d 155 270 ls st h Q ↔ GN d 155 270 ls h (pRI st fun a x r => ck (arr h a 9) (nx 273 ls r (sI h a 39 x))) Q := G_unf rfl rfl
set_option maxRecDepth 100000 in
theorem g155_273 : G d 155 273 ls st h Q ↔ GN d 155 273 ls h (ldR ls 0 fun a => nx 274 ls (.ref a :: st) h) Q := G_unf rfl rfl
set_option maxRecDepth 100000 in
theorem g155_274 : G d 155 274 ls st h Q ↔ GN d 155 274 ls h (nx 276 ls (.int (nI 20) :: st) h) Q := G_unf rfl rfl
set_option maxRecDepth 100000 in
theorem g155_276 : G d 155 276 ls st h Q ↔ GN d 155 276 ls h (pI st fun z r => ck (0 ≤ z.toInt ∧ z.toInt ≤ 1000000 ∧ lay (hN h) = 10) (nx 278 ls (.ref (hN h) :: r) (alc h z.toNatClampNeg z.toNatClampNeg))) Q := G_unf rfl rfl
set_option maxRecDepth 100000 in
theorem g155_278 : G d 155 278 ls st h Q ↔ GN d 155 278 ls h (pRR st fun a x r => ck (arr h a 9) (nx 281 ls r (sR h a 40 (some x)))) Q := G_unf rfl rfl
set_option maxRecDepth 100000 in
theorem g155_281 : G d 155 281 ls st h Q ↔ GN d 155 281 ls h (ldR ls 0 fun a => nx 282 ls (.ref a :: st) h) Q := G_unf rfl rfl
set_option maxRecDepth 100000 in
theorem g155_282 : G d 155 282 ls st h Q ↔ GN d 155 282 ls h (nx 284 ls (.int (nI 20) :: st) h) Q := G_unf rfl rfl
set_option maxRecDepth 100000 in
theorem g155_284 : G d 155 284 ls st h Q ↔ GN d 155 284 ls h (pI st fun z r => ck (0 ≤ z.toInt ∧ z.toInt ≤ 1000000 ∧ lay (hN h) = 10) (nx 286 ls (.ref (hN h) :: r) (alc h z.toNatClampNeg z.toNatClampNeg))) Q := G_unf rfl rfl
set_option maxRecDepth 100000 in
theorem g155_286 : G d 155 286 ls st h Q ↔ GN d 155 286 ls h (pRR st fun a x r => ck (arr h a 9) (nx 289 ls r (sR h a 41 (some x)))) Q := G_unf rfl rfl
set_option maxRecDepth 100000 in
theorem g155_289 : G d 155 289 ls st h Q ↔ GN d 155 289 ls h (ldR ls 0 fun a => nx 290 ls (.ref a :: st) h) Q := G_unf rfl rfl
set_option maxRecDepth 100000 in
theorem g155_290 : G d 155 290 ls st h Q ↔ GN d 155 290 ls h (nx 292 ls (.int (nI 20) :: st) h) Q := G_unf rfl rfl
set_option maxRecDepth 100000 in
theorem g155_292 : G d 155 292 ls st h Q ↔ GN d 155 292 ls h (pI st fun z r => ck (0 ≤ z.toInt ∧ z.toInt ≤ 1000000 ∧ lay (hN h) = 12) (nx 294 ls (.ref (hN h) :: r) (alc h z.toNatClampNeg z.toNatClampNeg))) Q := G_unf rfl rfl
set_option maxRecDepth 100000 in
theorem g155_294 : G d 155 294 ls st h Q ↔ GN d 155 294 ls h (pRR st fun a x r => ck (arr h a 9) (nx 297 ls r (sR h a 42 (some x)))) Q := G_unf rfl rfl
set_option maxRecDepth 100000 in
theorem g155_297 : G d 155 297 ls st h Q ↔ GN d 155 297 ls h (ldR ls 0 fun a => nx 298 ls (.ref a :: st) h) Q := G_unf rfl rfl
set_option maxRecDepth 100000 in
theorem g155_298 : G d 155 298 ls st h Q ↔ GN d 155 298 ls h (nx 300 ls (.int (nI 20) :: st) h) Q := G_unf rfl rfl
set_option maxRecDepth 100000 in
theorem g155_300 : G d 155 300 ls st h Q ↔ GN d 155 300 ls h (pI st fun z r => ck (0 ≤ z.toInt ∧ z.toInt ≤ 1000000 ∧ lay (hN h) = 10) (nx 302 ls (.ref (hN h) :: r) (alc h z.toNatClampNeg z.toNatClampNeg))) Q := G_unf rfl rfl
set_option maxRecDepth 100000 in
theorem g155_302 : G d 155 302 ls st h Q ↔ GN d 155 302 ls h (pRR st fun a x r => ck (arr h a 9) (nx 305 ls r (sR h a 43 (some x)))) Q := G_unf rfl rfl
set_option maxRecDepth 100000 in
theorem g155_305 : G d 155 305 ls st h Q ↔ GN d 155 305 ls h (ldR ls 0 fun a => nx 306 ls (.ref a :: st) h) Q := G_unf rfl rfl
set_option maxRecDepth 100000 in
theorem g155_306 : G d 155 306 ls st h Q ↔ GN d 155 306 ls h (nx 308 ls (.int (nI 20) :: st) h) Q := G_unf rfl rfl
set_option maxRecDepth 100000 in
theorem g155_308 : G d 155 308 ls st h Q ↔ GN d 155 308 ls h (pI st fun z r => ck (0 ≤ z.toInt ∧ z.toInt ≤ 1000000 ∧ lay (hN h) = 10) (nx 310 ls (.ref (hN h) :: r) (alc h z.toNatClampNeg z.toNatClampNeg))) Q := G_unf rfl rfl
set_option maxRecDepth 100000 in
theorem g155_310 : G d 155 310 ls st h Q ↔ GN d 155 310 ls h (pRR st fun a x r => ck (arr h a 9) (nx 313 ls r (sR h a 44 (some x)))) Q := G_unf rfl rfl
set_option maxRecDepth 100000 in
theorem g155_313 : G d 155 313 ls st h Q ↔ GN d 155 313 ls h (ldR ls 0 fun a => nx 314 ls (.ref a :: st) h) Q := G_unf rfl rfl
set_option maxRecDepth 100000 in
theorem g155_314 : G d 155 314 ls st h Q ↔ GN d 155 314 ls h (nx 315 ls (.int (nI 0) :: st) h) Q := G_unf rfl rfl
set_option maxRecDepth 100000 in
theorem g155_315 : G d 155 315 ls st h Q ↔ GN d 155 315 ls h (pRI st fun a x r => ck (arr h a 9) (nx 318 ls r (sI h a 45 x))) Q := G_unf rfl rfl
set_option maxRecDepth 100000 in
theorem g155_318 : G d 155 318 ls st h Q ↔ GN d 155 318 ls h (ldR ls 0 fun a => nx 319 ls (.ref a :: st) h) Q := G_unf rfl rfl
set_option maxRecDepth 100000 in
theorem g155_319 : G d 155 319 ls st h Q ↔ GN d 155 319 ls h (nx 320 ls (.int (nI 0) :: st) h) Q := G_unf rfl rfl
set_option maxRecDepth 100000 in
theorem g155_320 : G d 155 320 ls st h Q ↔ GN d 155 320 ls h (pRI st fun a x r => ck (arr h a 9) (nx 323 ls r (sI h a 46 x))) Q := G_unf rfl rfl
set_option maxRecDepth 100000 in
theorem g155_323 : G d 155 323 ls st h Q ↔ GN d 155 323 ls h (ldR ls 0 fun a => nx 324 ls (.ref a :: st) h) Q := G_unf rfl rfl
set_option maxRecDepth 100000 in
theorem g155_324 : G d 155 324 ls st h Q ↔ GN d 155 324 ls h (nx 327 ls (.int (nI 500) :: st) h) Q := G_unf rfl rfl
set_option maxRecDepth 100000 in
theorem g155_327 : G d 155 327 ls st h Q ↔ GN d 155 327 ls h (pI st fun z r => ck (0 ≤ z.toInt ∧ z.toInt ≤ 1000000 ∧ lay (hN h) = 10) (nx 329 ls (.ref (hN h) :: r) (alc h z.toNatClampNeg z.toNatClampNeg))) Q := G_unf rfl rfl
set_option maxRecDepth 100000 in
theorem g155_329 : G d 155 329 ls st h Q ↔ GN d 155 329 ls h (pRR st fun a x r => ck (arr h a 9) (nx 332 ls r (sR h a 47 (some x)))) Q := G_unf rfl rfl
set_option maxRecDepth 100000 in
theorem g155_332 : G d 155 332 ls st h Q ↔ GN d 155 332 ls h (ldR ls 0 fun a => nx 333 ls (.ref a :: st) h) Q := G_unf rfl rfl
set_option maxRecDepth 100000 in
theorem g155_333 : G d 155 333 ls st h Q ↔ GN d 155 333 ls h (nx 334 ls (.int (nI 0) :: st) h) Q := G_unf rfl rfl
set_option maxRecDepth 100000 in
theorem g155_334 : G d 155 334 ls st h Q ↔ GN d 155 334 ls h (pRI st fun a x r => ck (arr h a 9) (nx 337 ls r (sI h a 48 x))) Q := G_unf rfl rfl
set_option maxRecDepth 100000 in
theorem g155_337 : G d 155 337 ls st h Q ↔ GN d 155 337 ls h (ldR ls 0 fun a => nx 338 ls (.ref a :: st) h) Q := G_unf rfl rfl
set_option maxRecDepth 100000 in
theorem g155_338 : G d 155 338 ls st h Q ↔ GN d 155 338 ls h (nx 339 ls (.int (nI 0) :: st) h) Q := G_unf rfl rfl
set_option maxRecDepth 100000 in
theorem g155_339 : G d 155 339 ls st h Q ↔ GN d 155 339 ls h (pRI st fun a x r => ck (arr h a 9 ∧ (x = 0 ∨ x = 1)) (nx 342 ls r (sI h a 49 x))) Q := G_unf rfl rfl
set_option maxRecDepth 100000 in
theorem g155_342 : G d 155 342 ls st h Q ↔ GN d 155 342 ls h (ldR ls 0 fun a => nx 343 ls (.ref a :: st) h) Q := G_unf rfl rfl
set_option maxRecDepth 100000 in
theorem g155_343 : G d 155 343 ls st h Q ↔ GN d 155 343 ls h (nx 345 ls (.int (nI 6) :: st) h) Q := G_unf rfl rfl
set_option maxRecDepth 100000 in
theorem g155_345 : G d 155 345 ls st h Q ↔ GN d 155 345 ls h (pI st fun z r => ck (0 ≤ z.toInt ∧ z.toInt ≤ 1000000 ∧ lay (hN h) = 10) (nx 347 ls (.ref (hN h) :: r) (alc h z.toNatClampNeg z.toNatClampNeg))) Q := G_unf rfl rfl
set_option maxRecDepth 100000 in
theorem g155_347 : G d 155 347 ls st h Q ↔ GN d 155 347 ls h (pRR st fun a x r => ck (arr h a 9) (nx 350 ls r (sR h a 50 (some x)))) Q := G_unf rfl rfl
set_option maxRecDepth 100000 in
theorem g155_350 : G d 155 350 ls st h Q ↔ GN d 155 350 ls h (ldR ls 0 fun a => nx 351 ls (.ref a :: st) h) Q := G_unf rfl rfl
set_option maxRecDepth 100000 in
theorem g155_351 : G d 155 351 ls st h Q ↔ GN d 155 351 ls h (nx 353 ls (.int (nI 22) :: st) h) Q := G_unf rfl rfl
set_option maxRecDepth 100000 in
theorem g155_353 : G d 155 353 ls st h Q ↔ GN d 155 353 ls h (pI st fun z r => ck (0 ≤ z.toInt ∧ z.toInt ≤ 1000000 ∧ lay (hN h) = 10) (nx 355 ls (.ref (hN h) :: r) (alc h z.toNatClampNeg z.toNatClampNeg))) Q := G_unf rfl rfl
set_option maxRecDepth 100000 in
theorem g155_355 : G d 155 355 ls st h Q ↔ GN d 155 355 ls h (pRR st fun a x r => ck (arr h a 9) (nx 358 ls r (sR h a 51 (some x)))) Q := G_unf rfl rfl
set_option maxRecDepth 100000 in
theorem g155_358 : G d 155 358 ls st h Q ↔ GN d 155 358 ls h (ldR ls 0 fun a => nx 359 ls (.ref a :: st) h) Q := G_unf rfl rfl
set_option maxRecDepth 100000 in
theorem g155_359 : G d 155 359 ls st h Q ↔ GN d 155 359 ls h (nx 362 ls (.int (nI 176) :: st) h) Q := G_unf rfl rfl
set_option maxRecDepth 100000 in
theorem g155_362 : G d 155 362 ls st h Q ↔ GN d 155 362 ls h (pI st fun z r => ck (0 ≤ z.toInt ∧ z.toInt ≤ 1000000 ∧ lay (hN h) = 10) (nx 364 ls (.ref (hN h) :: r) (alc h z.toNatClampNeg z.toNatClampNeg))) Q := G_unf rfl rfl
set_option maxRecDepth 100000 in
theorem g155_364 : G d 155 364 ls st h Q ↔ GN d 155 364 ls h (pRR st fun a x r => ck (arr h a 9) (nx 367 ls r (sR h a 52 (some x)))) Q := G_unf rfl rfl
set_option maxRecDepth 100000 in
theorem g155_367 : G d 155 367 ls st h Q ↔ GN d 155 367 ls h (ldR ls 0 fun a => nx 368 ls (.ref a :: st) h) Q := G_unf rfl rfl
set_option maxRecDepth 100000 in
theorem g155_368 : G d 155 368 ls st h Q ↔ GN d 155 368 ls h (nx 371 ls (.int (nI 176) :: st) h) Q := G_unf rfl rfl
set_option maxRecDepth 100000 in
theorem g155_371 : G d 155 371 ls st h Q ↔ GN d 155 371 ls h (pI st fun z r => ck (0 ≤ z.toInt ∧ z.toInt ≤ 1000000 ∧ lay (hN h) = 10) (nx 373 ls (.ref (hN h) :: r) (alc h z.toNatClampNeg z.toNatClampNeg))) Q := G_unf rfl rfl
set_option maxRecDepth 100000 in
theorem g155_373 : G d 155 373 ls st h Q ↔ GN d 155 373 ls h (pRR st fun a x r => ck (arr h a 9) (nx 376 ls r (sR h a 53 (some x)))) Q := G_unf rfl rfl
set_option maxRecDepth 100000 in
theorem g155_376 : G d 155 376 ls st h Q ↔ GN d 155 376 ls h (ldR ls 0 fun a => nx 377 ls (.ref a :: st) h) Q := G_unf rfl rfl
set_option maxRecDepth 100000 in
theorem g155_377 : G d 155 377 ls st h Q ↔ GN d 155 377 ls h (nx 380 ls (.int (nI 2112) :: st) h) Q := G_unf rfl rfl
set_option maxRecDepth 100000 in
theorem g155_380 : G d 155 380 ls st h Q ↔ GN d 155 380 ls h (pI st fun z r => ck (0 ≤ z.toInt ∧ z.toInt ≤ 1000000 ∧ lay (hN h) = 10) (nx 382 ls (.ref (hN h) :: r) (alc h z.toNatClampNeg z.toNatClampNeg))) Q := G_unf rfl rfl
set_option maxRecDepth 100000 in
theorem g155_382 : G d 155 382 ls st h Q ↔ GN d 155 382 ls h (pRR st fun a x r => ck (arr h a 9) (nx 385 ls r (sR h a 54 (some x)))) Q := G_unf rfl rfl
set_option maxRecDepth 100000 in
theorem g155_385 : G d 155 385 ls st h Q ↔ GN d 155 385 ls h (ldR ls 0 fun a => nx 386 ls (.ref a :: st) h) Q := G_unf rfl rfl
set_option maxRecDepth 100000 in
theorem g155_386 : G d 155 386 ls st h Q ↔ GN d 155 386 ls h (nx 388 ls (.int (nI 22) :: st) h) Q := G_unf rfl rfl
set_option maxRecDepth 100000 in
theorem g155_388 : G d 155 388 ls st h Q ↔ GN d 155 388 ls h (pI st fun z r => ck (0 ≤ z.toInt ∧ z.toInt ≤ 1000000 ∧ lay (hN h) = 10) (nx 390 ls (.ref (hN h) :: r) (alc h z.toNatClampNeg z.toNatClampNeg))) Q := G_unf rfl rfl
set_option maxRecDepth 100000 in
theorem g155_390 : G d 155 390 ls st h Q ↔ GN d 155 390 ls h (pRR st fun a x r => ck (arr h a 9) (nx 393 ls r (sR h a 55 (some x)))) Q := G_unf rfl rfl
set_option maxRecDepth 100000 in
theorem g155_393 : G d 155 393 ls st h Q ↔ GN d 155 393 ls h (ldR ls 0 fun a => nx 394 ls (.ref a :: st) h) Q := G_unf rfl rfl
set_option maxRecDepth 100000 in
theorem g155_394 : G d 155 394 ls st h Q ↔ GN d 155 394 ls h (nx 397 ls (.int (nI 880) :: st) h) Q := G_unf rfl rfl
set_option maxRecDepth 100000 in
theorem g155_397 : G d 155 397 ls st h Q ↔ GN d 155 397 ls h (pI st fun z r => ck (0 ≤ z.toInt ∧ z.toInt ≤ 1000000 ∧ lay (hN h) = 10) (nx 399 ls (.ref (hN h) :: r) (alc h z.toNatClampNeg z.toNatClampNeg))) Q := G_unf rfl rfl
set_option maxRecDepth 100000 in
theorem g155_399 : G d 155 399 ls st h Q ↔ GN d 155 399 ls h (pRR st fun a x r => ck (arr h a 9) (nx 402 ls r (sR h a 56 (some x)))) Q := G_unf rfl rfl
set_option maxRecDepth 100000 in
theorem g155_402 : G d 155 402 ls st h Q ↔ GN d 155 402 ls h (ldR ls 0 fun a => nx 403 ls (.ref a :: st) h) Q := G_unf rfl rfl
set_option maxRecDepth 100000 in
theorem g155_403 : G d 155 403 ls st h Q ↔ GN d 155 403 ls h (nx 406 ls (.int (nI 880) :: st) h) Q := G_unf rfl rfl
set_option maxRecDepth 100000 in
theorem g155_406 : G d 155 406 ls st h Q ↔ GN d 155 406 ls h (pI st fun z r => ck (0 ≤ z.toInt ∧ z.toInt ≤ 1000000 ∧ lay (hN h) = 10) (nx 408 ls (.ref (hN h) :: r) (alc h z.toNatClampNeg z.toNatClampNeg))) Q := G_unf rfl rfl
set_option maxRecDepth 100000 in
theorem g155_408 : G d 155 408 ls st h Q ↔ GN d 155 408 ls h (pRR st fun a x r => ck (arr h a 9) (nx 411 ls r (sR h a 57 (some x)))) Q := G_unf rfl rfl
set_option maxRecDepth 100000 in
theorem g155_411 : G d 155 411 ls st h Q ↔ GN d 155 411 ls h (ldR ls 0 fun a => nx 412 ls (.ref a :: st) h) Q := G_unf rfl rfl
set_option maxRecDepth 100000 in
theorem g155_412 : G d 155 412 ls st h Q ↔ GN d 155 412 ls h (nx 415 ls (.int (nI 880) :: st) h) Q := G_unf rfl rfl
set_option maxRecDepth 100000 in
theorem g155_415 : G d 155 415 ls st h Q ↔ GN d 155 415 ls h (pI st fun z r => ck (0 ≤ z.toInt ∧ z.toInt ≤ 1000000 ∧ lay (hN h) = 10) (nx 417 ls (.ref (hN h) :: r) (alc h z.toNatClampNeg z.toNatClampNeg))) Q := G_unf rfl rfl
set_option maxRecDepth 100000 in
theorem g155_417 : G d 155 417 ls st h Q ↔ GN d 155 417 ls h (pRR st fun a x r => ck (arr h a 9) (nx 420 ls r (sR h a 58 (some x)))) Q := G_unf rfl rfl
set_option maxRecDepth 100000 in
theorem g155_420 : G d 155 420 ls st h Q ↔ GN d 155 420 ls h (ldR ls 0 fun a => nx 421 ls (.ref a :: st) h) Q := G_unf rfl rfl
set_option maxRecDepth 100000 in
theorem g155_421 : G d 155 421 ls st h Q ↔ GN d 155 421 ls h (nx 424 ls (.int (nI 880) :: st) h) Q := G_unf rfl rfl
set_option maxRecDepth 100000 in
theorem g155_424 : G d 155 424 ls st h Q ↔ GN d 155 424 ls h (pI st fun z r => ck (0 ≤ z.toInt ∧ z.toInt ≤ 1000000 ∧ lay (hN h) = 10) (nx 426 ls (.ref (hN h) :: r) (alc h z.toNatClampNeg z.toNatClampNeg))) Q := G_unf rfl rfl
set_option maxRecDepth 100000 in
theorem g155_426 : G d 155 426 ls st h Q ↔ GN d 155 426 ls h (pRR st fun a x r => ck (arr h a 9) (nx 429 ls r (sR h a 59 (some x)))) Q := G_unf rfl rfl
set_option maxRecDepth 100000 in
theorem g155_429 : G d 155 429 ls st h Q ↔ GN d 155 429 ls h (ldR ls 0 fun a => nx 430 ls (.ref a :: st) h) Q := G_unf rfl rfl
set_option maxRecDepth 100000 in
theorem g155_430 : G d 155 430 ls st h Q ↔ GN d 155 430 ls h (nx 431 ls (.int (nI 0) :: st) h) Q := G_unf rfl rfl
set_option maxRecDepth 100000 in
theorem g155_431 : G d 155 431 ls st h Q ↔ GN d 155 431 ls h (pRI st fun a x r => ck (arr h a 9) (nx 434 ls r (sI h a 60 x))) Q := G_unf rfl rfl
set_option maxRecDepth 100000 in
theorem g155_434 : G d 155 434 ls st h Q ↔ GN d 155 434 ls h (ldR ls 0 fun a => nx 435 ls (.ref a :: st) h) Q := G_unf rfl rfl
set_option maxRecDepth 100000 in
theorem g155_435 : G d 155 435 ls st h Q ↔ GN d 155 435 ls h (nx 436 ls (.int (nI 0) :: st) h) Q := G_unf rfl rfl
set_option maxRecDepth 100000 in
theorem g155_436 : G d 155 436 ls st h Q ↔ GN d 155 436 ls h (pRI st fun a x r => ck (arr h a 9) (nx 439 ls r (sI h a 61 x))) Q := G_unf rfl rfl
set_option maxRecDepth 100000 in
theorem g155_439 : G d 155 439 ls st h Q ↔ GN d 155 439 ls h (ldR ls 0 fun a => nx 440 ls (.ref a :: st) h) Q := G_unf rfl rfl
set_option maxRecDepth 100000 in
theorem g155_440 : G d 155 440 ls st h Q ↔ GN d 155 440 ls h (nx 441 ls (.long (lN 1) :: st) h) Q := G_unf rfl rfl
set_option maxRecDepth 100000 in
theorem g155_441 : G d 155 441 ls st h Q ↔ GN d 155 441 ls h (pRJ st fun a x r => ck (arr h a 9) (nx 444 ls r (sL h a 62 x))) Q := G_unf rfl rfl
set_option maxRecDepth 100000 in
theorem g155_444 : G d 155 444 ls st h Q ↔ GN d 155 444 ls h (ldR ls 0 fun a => nx 445 ls (.ref a :: st) h) Q := G_unf rfl rfl
set_option maxRecDepth 100000 in
theorem g155_445 : G d 155 445 ls st h Q ↔ GN d 155 445 ls h (nx 448 ls (.int (nI 500) :: st) h) Q := G_unf rfl rfl
set_option maxRecDepth 100000 in
theorem g155_448 : G d 155 448 ls st h Q ↔ GN d 155 448 ls h (pI st fun z r => ck (0 ≤ z.toInt ∧ z.toInt ≤ 1000000 ∧ lay (hN h) = 13) (nx 450 ls (.ref (hN h) :: r) (alc h z.toNatClampNeg z.toNatClampNeg))) Q := G_unf rfl rfl
set_option maxRecDepth 100000 in
theorem g155_450 : G d 155 450 ls st h Q ↔ GN d 155 450 ls h (pRR st fun a x r => ck (arr h a 9) (nx 453 ls r (sR h a 63 (some x)))) Q := G_unf rfl rfl
set_option maxRecDepth 100000 in
theorem g155_453 : G d 155 453 ls st h Q ↔ GN d 155 453 ls h (ldR ls 0 fun a => nx 454 ls (.ref a :: st) h) Q := G_unf rfl rfl
set_option maxRecDepth 100000 in
theorem g155_454 : G d 155 454 ls st h Q ↔ GN d 155 454 ls h (nx 455 ls (.int (nI 0) :: st) h) Q := G_unf rfl rfl
set_option maxRecDepth 100000 in
theorem g155_455 : G d 155 455 ls st h Q ↔ GN d 155 455 ls h (pRI st fun a x r => ck (arr h a 9) (nx 458 ls r (sI h a 64 x))) Q := G_unf rfl rfl
set_option maxRecDepth 100000 in
theorem g155_458 : G d 155 458 ls st h Q ↔ GN d 155 458 ls h (ldR ls 0 fun a => nx 459 ls (.ref a :: st) h) Q := G_unf rfl rfl
set_option maxRecDepth 100000 in
theorem g155_459 : G d 155 459 ls st h Q ↔ GN d 155 459 ls h (nx 460 ls (.int (nI 0) :: st) h) Q := G_unf rfl rfl
set_option maxRecDepth 100000 in
theorem g155_460 : G d 155 460 ls st h Q ↔ GN d 155 460 ls h (pRI st fun a x r => ck (arr h a 9) (nx 463 ls r (sI h a 65 x))) Q := G_unf rfl rfl
set_option maxRecDepth 100000 in
theorem g155_463 : G d 155 463 ls st h Q ↔ GN d 155 463 ls h (ldR ls 0 fun a => nx 464 ls (.ref a :: st) h) Q := G_unf rfl rfl
set_option maxRecDepth 100000 in
theorem g155_464 : G d 155 464 ls st h Q ↔ GN d 155 464 ls h (nx 465 ls (.int (nI 0) :: st) h) Q := G_unf rfl rfl
set_option maxRecDepth 100000 in
theorem g155_465 : G d 155 465 ls st h Q ↔ GN d 155 465 ls h (pRI st fun a x r => ck (arr h a 9) (nx 468 ls r (sI h a 66 x))) Q := G_unf rfl rfl
set_option maxRecDepth 100000 in
theorem g155_468 : G d 155 468 ls st h Q ↔ GN d 155 468 ls h (ldR ls 0 fun a => nx 469 ls (.ref a :: st) h) Q := G_unf rfl rfl
set_option maxRecDepth 100000 in
theorem g155_469 : G d 155 469 ls st h Q ↔ GN d 155 469 ls h (nx 470 ls (.int (-1) :: st) h) Q := G_unf rfl rfl
set_option maxRecDepth 100000 in
theorem g155_470 : G d 155 470 ls st h Q ↔ GN d 155 470 ls h (pRI st fun a x r => ck (arr h a 9) (nx 473 ls r (sI h a 67 x))) Q := G_unf rfl rfl
set_option maxRecDepth 100000 in
theorem g155_473 : G d 155 473 ls st h Q ↔ GN d 155 473 ls h (ldR ls 0 fun a => nx 474 ls (.ref a :: st) h) Q := G_unf rfl rfl
set_option maxRecDepth 100000 in
theorem g155_474 : G d 155 474 ls st h Q ↔ GN d 155 474 ls h (nx 475 ls (.int (nI 0) :: st) h) Q := G_unf rfl rfl
set_option maxRecDepth 100000 in
theorem g155_475 : G d 155 475 ls st h Q ↔ GN d 155 475 ls h (pRI st fun a x r => ck (arr h a 9) (nx 478 ls r (sI h a 68 x))) Q := G_unf rfl rfl
set_option maxRecDepth 100000 in
theorem g155_478 : G d 155 478 ls st h Q ↔ GN d 155 478 ls h (ldR ls 0 fun a => nx 479 ls (.ref a :: st) h) Q := G_unf rfl rfl
set_option maxRecDepth 100000 in
theorem g155_479 : G d 155 479 ls st h Q ↔ GN d 155 479 ls h (nx 480 ls (.int (nI 0) :: st) h) Q := G_unf rfl rfl
set_option maxRecDepth 100000 in
theorem g155_480 : G d 155 480 ls st h Q ↔ GN d 155 480 ls h (pRI st fun a x r => ck (arr h a 9) (nx 483 ls r (sI h a 69 x))) Q := G_unf rfl rfl
set_option maxRecDepth 100000 in
theorem g155_483 : G d 155 483 ls st h Q ↔ GN d 155 483 ls h (ldR ls 0 fun a => nx 484 ls (.ref a :: st) h) Q := G_unf rfl rfl
set_option maxRecDepth 100000 in
theorem g155_484 : G d 155 484 ls st h Q ↔ GN d 155 484 ls h (nx 485 ls (.int (nI 0) :: st) h) Q := G_unf rfl rfl
set_option maxRecDepth 100000 in
theorem g155_485 : G d 155 485 ls st h Q ↔ GN d 155 485 ls h (pRI st fun a x r => ck (arr h a 9) (nx 488 ls r (sI h a 70 x))) Q := G_unf rfl rfl
set_option maxRecDepth 100000 in
theorem g155_488 : G d 155 488 ls st h Q ↔ GN d 155 488 ls h (ldR ls 0 fun a => nx 489 ls (.ref a :: st) h) Q := G_unf rfl rfl
set_option maxRecDepth 100000 in
theorem g155_489 : G d 155 489 ls st h Q ↔ GN d 155 489 ls h (nx 490 ls (.int (nI 0) :: st) h) Q := G_unf rfl rfl
set_option maxRecDepth 100000 in
theorem g155_490 : G d 155 490 ls st h Q ↔ GN d 155 490 ls h (pRI st fun a x r => ck (arr h a 9) (nx 493 ls r (sI h a 71 x))) Q := G_unf rfl rfl
set_option maxRecDepth 100000 in
theorem g155_493 : G d 155 493 ls st h Q ↔ GN d 155 493 ls h (ldR ls 0 fun a => nx 494 ls (.ref a :: st) h) Q := G_unf rfl rfl
set_option maxRecDepth 100000 in
theorem g155_494 : G d 155 494 ls st h Q ↔ GN d 155 494 ls h (nx 495 ls (.int (nI 0) :: st) h) Q := G_unf rfl rfl
set_option maxRecDepth 100000 in
theorem g155_495 : G d 155 495 ls st h Q ↔ GN d 155 495 ls h (pRI st fun a x r => ck (arr h a 9) (nx 498 ls r (sI h a 72 x))) Q := G_unf rfl rfl
set_option maxRecDepth 100000 in
theorem g155_498 : G d 155 498 ls st h Q ↔ GN d 155 498 ls h (ldR ls 0 fun a => nx 499 ls (.ref a :: st) h) Q := G_unf rfl rfl
set_option maxRecDepth 100000 in
theorem g155_499 : G d 155 499 ls st h Q ↔ GN d 155 499 ls h (nx 500 ls (.int (nI 0) :: st) h) Q := G_unf rfl rfl
set_option maxRecDepth 100000 in
theorem g155_500 : G d 155 500 ls st h Q ↔ GN d 155 500 ls h (pRI st fun a x r => ck (arr h a 9) (nx 503 ls r (sI h a 73 x))) Q := G_unf rfl rfl
set_option maxRecDepth 100000 in
theorem g155_503 : G d 155 503 ls st h Q ↔ GN d 155 503 ls h (ldR ls 0 fun a => nx 504 ls (.ref a :: st) h) Q := G_unf rfl rfl
set_option maxRecDepth 100000 in
theorem g155_504 : G d 155 504 ls st h Q ↔ GN d 155 504 ls h (nx 506 ls (.int (nI 12) :: st) h) Q := G_unf rfl rfl
set_option maxRecDepth 100000 in
theorem g155_506 : G d 155 506 ls st h Q ↔ GN d 155 506 ls h (pI st fun z r => ck (0 ≤ z.toInt ∧ z.toInt ≤ 1000000 ∧ lay (hN h) = 10) (nx 508 ls (.ref (hN h) :: r) (alc h z.toNatClampNeg z.toNatClampNeg))) Q := G_unf rfl rfl
set_option maxRecDepth 100000 in
theorem g155_508 : G d 155 508 ls st h Q ↔ GN d 155 508 ls h (pRR st fun a x r => ck (arr h a 9) (nx 511 ls r (sR h a 74 (some x)))) Q := G_unf rfl rfl
set_option maxRecDepth 100000 in
theorem g155_511 : G d 155 511 ls st h Q ↔ GN d 155 511 ls h (ldR ls 0 fun a => nx 512 ls (.ref a :: st) h) Q := G_unf rfl rfl
set_option maxRecDepth 100000 in
theorem g155_512 : G d 155 512 ls st h Q ↔ GN d 155 512 ls h (nx 513 ls (.int (nI 0) :: st) h) Q := G_unf rfl rfl
set_option maxRecDepth 100000 in
theorem g155_513 : G d 155 513 ls st h Q ↔ GN d 155 513 ls h (pRI st fun a x r => ck (arr h a 9) (nx 516 ls r (sI h a 75 x))) Q := G_unf rfl rfl
set_option maxRecDepth 100000 in
theorem g155_516 : G d 155 516 ls st h Q ↔ GN d 155 516 ls h (ldR ls 0 fun a => nx 517 ls (.ref a :: st) h) Q := G_unf rfl rfl
set_option maxRecDepth 100000 in
theorem g155_517 : G d 155 517 ls st h Q ↔ GN d 155 517 ls h (nx 519 ls (.int (nI 12) :: st) h) Q := G_unf rfl rfl
set_option maxRecDepth 100000 in
theorem g155_519 : G d 155 519 ls st h Q ↔ GN d 155 519 ls h (pI st fun z r => ck (0 ≤ z.toInt ∧ z.toInt ≤ 1000000 ∧ lay (hN h) = 10) (nx 521 ls (.ref (hN h) :: r) (alc h z.toNatClampNeg z.toNatClampNeg))) Q := G_unf rfl rfl
set_option maxRecDepth 100000 in
theorem g155_521 : G d 155 521 ls st h Q ↔ GN d 155 521 ls h (pRR st fun a x r => ck (arr h a 9) (nx 524 ls r (sR h a 76 (some x)))) Q := G_unf rfl rfl
set_option maxRecDepth 100000 in
theorem g155_524 : G d 155 524 ls st h Q ↔ GN d 155 524 ls h (ldR ls 0 fun a => nx 525 ls (.ref a :: st) h) Q := G_unf rfl rfl
set_option maxRecDepth 100000 in
theorem g155_525 : G d 155 525 ls st h Q ↔ GN d 155 525 ls h (nx 528 ls (.int (nI 240) :: st) h) Q := G_unf rfl rfl
set_option maxRecDepth 100000 in
theorem g155_528 : G d 155 528 ls st h Q ↔ GN d 155 528 ls h (pI st fun z r => ck (0 ≤ z.toInt ∧ z.toInt ≤ 1000000 ∧ lay (hN h) = 10) (nx 530 ls (.ref (hN h) :: r) (alc h z.toNatClampNeg z.toNatClampNeg))) Q := G_unf rfl rfl
set_option maxRecDepth 100000 in
theorem g155_530 : G d 155 530 ls st h Q ↔ GN d 155 530 ls h (pRR st fun a x r => ck (arr h a 9) (nx 533 ls r (sR h a 77 (some x)))) Q := G_unf rfl rfl
set_option maxRecDepth 100000 in
theorem g155_533 : G d 155 533 ls st h Q ↔ GN d 155 533 ls h (ldR ls 0 fun a => nx 534 ls (.ref a :: st) h) Q := G_unf rfl rfl
set_option maxRecDepth 100000 in
theorem g155_534 : G d 155 534 ls st h Q ↔ GN d 155 534 ls h (nx 535 ls (.int (nI 0) :: st) h) Q := G_unf rfl rfl
set_option maxRecDepth 100000 in
theorem g155_535 : G d 155 535 ls st h Q ↔ GN d 155 535 ls h (pRI st fun a x r => ck (arr h a 9) (nx 538 ls r (sI h a 78 x))) Q := G_unf rfl rfl
set_option maxRecDepth 100000 in
theorem g155_538 : G d 155 538 ls st h Q ↔ GN d 155 538 ls h (ldR ls 0 fun a => nx 539 ls (.ref a :: st) h) Q := G_unf rfl rfl
set_option maxRecDepth 100000 in
theorem g155_539 : G d 155 539 ls st h Q ↔ GN d 155 539 ls h (pR st fun a r => ck (arr h a 9) (nx 542 ls (rv (hR h a 30) :: r) h)) Q := G_unf rfl rfl
set_option maxRecDepth 100000 in
theorem g155_542 : G d 155 542 ls st h Q ↔ GN d 155 542 ls h (nx 543 ls (.int (nI 0) :: st) h) Q := G_unf rfl rfl
set_option maxRecDepth 100000 in
theorem g155_543 : G d 155 543 ls st h Q ↔ GN d 155 543 ls h (nx 544 ls (.int (-1) :: st) h) Q := G_unf rfl rfl
set_option maxRecDepth 100000 in
theorem g155_544 : G d 155 544 ls st h Q ↔ GN d 155 544 ls h (pRII st fun a i x r => ck (arr h a 10 ∧ inb i (hLn h a)) (nx 545 ls r (sI h a i.toNatClampNeg x))) Q := G_unf rfl rfl
set_option maxRecDepth 100000 in
theorem g155_545 : G d 155 545 ls st h Q ↔ GN d 155 545 ls h (ldR ls 0 fun a => nx 546 ls (.ref a :: st) h) Q := G_unf rfl rfl
set_option maxRecDepth 100000 in
theorem g155_546 : G d 155 546 ls st h Q ↔ GN d 155 546 ls h (pR st fun a r => ck (arr h a 9) (nx 549 ls (rv (hR h a 32) :: r) h)) Q := G_unf rfl rfl
set_option maxRecDepth 100000 in
theorem g155_549 : G d 155 549 ls st h Q ↔ GN d 155 549 ls h (nx 550 ls (.int (nI 0) :: st) h) Q := G_unf rfl rfl
set_option maxRecDepth 100000 in
theorem g155_550 : G d 155 550 ls st h Q ↔ GN d 155 550 ls h (nx 551 ls (.int (-1) :: st) h) Q := G_unf rfl rfl
set_option maxRecDepth 100000 in
theorem g155_551 : G d 155 551 ls st h Q ↔ GN d 155 551 ls h (pRII st fun a i x r => ck (arr h a 10 ∧ inb i (hLn h a)) (nx 552 ls r (sI h a i.toNatClampNeg x))) Q := G_unf rfl rfl
set_option maxRecDepth 100000 in
theorem g155_552 : G d 155 552 ls st h Q ↔ GN d 155 552 ls h (ldR ls 0 fun a => nx 553 ls (.ref a :: st) h) Q := G_unf rfl rfl
set_option maxRecDepth 100000 in
theorem g155_553 : G d 155 553 ls st h Q ↔ GN d 155 553 ls h (pR st fun a r => ck (arr h a 9) (nx 556 ls (rv (hR h a 29) :: r) h)) Q := G_unf rfl rfl
set_option maxRecDepth 100000 in
theorem g155_556 : G d 155 556 ls st h Q ↔ GN d 155 556 ls h (nx 557 ls (.int (nI 0) :: st) h) Q := G_unf rfl rfl
set_option maxRecDepth 100000 in
theorem g155_557 : G d 155 557 ls st h Q ↔ GN d 155 557 ls h (nx 559 ls (.int (nI 20) :: st) h) Q := G_unf rfl rfl
set_option maxRecDepth 100000 in
theorem g155_559 : G d 155 559 ls st h Q ↔ GN d 155 559 ls h (pRII st fun a i x r => ck (arr h a 10 ∧ inb i (hLn h a)) (nx 560 ls r (sI h a i.toNatClampNeg x))) Q := G_unf rfl rfl
set_option maxRecDepth 100000 in
theorem g155_560 : G d 155 560 ls st h Q ↔ GN d 155 560 ls h (nx 561 ls (.int (nI 0) :: st) h) Q := G_unf rfl rfl
set_option maxRecDepth 100000 in
theorem g155_561 : G d 155 561 ls st h Q ↔ GN d 155 561 ls h (pI st fun x r => ck (1 < ls.length) (nx 562 (st1 ls 1 (.int x)) r h)) Q := G_unf rfl rfl
set_option maxRecDepth 100000 in
theorem g155_562 : G d 155 562 ls st h Q ↔ GN d 155 562 ls h (ldI ls 1 fun x => nx 563 ls (.int x :: st) h) Q := G_unf rfl rfl
set_option maxRecDepth 100000 in
theorem g155_563 : G d 155 563 ls st h Q ↔ GN d 155 563 ls h (nx 566 ls (.int (nI 2112) :: st) h) Q := G_unf rfl rfl
set_option maxRecDepth 100000 in
theorem g155_566 : G d 155 566 ls st h Q ↔ GN d 155 566 ls h (pII st fun x y r => br (y ≤ x) (nx 582 ls r h) (nx 569 ls r h)) Q := G_unf rfl rfl
set_option maxRecDepth 100000 in
theorem g155_569 : G d 155 569 ls st h Q ↔ GN d 155 569 ls h (ldR ls 0 fun a => nx 570 ls (.ref a :: st) h) Q := G_unf rfl rfl
set_option maxRecDepth 100000 in
theorem g155_570 : G d 155 570 ls st h Q ↔ GN d 155 570 ls h (pR st fun a r => ck (arr h a 9) (nx 573 ls (rv (hR h a 54) :: r) h)) Q := G_unf rfl rfl
set_option maxRecDepth 100000 in
theorem g155_573 : G d 155 573 ls st h Q ↔ GN d 155 573 ls h (ldI ls 1 fun x => nx 574 ls (.int x :: st) h) Q := G_unf rfl rfl
set_option maxRecDepth 100000 in
theorem g155_574 : G d 155 574 ls st h Q ↔ GN d 155 574 ls h (nx 575 ls (.int (-1) :: st) h) Q := G_unf rfl rfl
set_option maxRecDepth 100000 in
theorem g155_575 : G d 155 575 ls st h Q ↔ GN d 155 575 ls h (pRII st fun a i x r => ck (arr h a 10 ∧ inb i (hLn h a)) (nx 576 ls r (sI h a i.toNatClampNeg x))) Q := G_unf rfl rfl
set_option maxRecDepth 100000 in
theorem g155_576 : G d 155 576 ls st h Q ↔ GN d 155 576 ls h (ldI ls 1 fun x => nx 579 (st1 ls 1 (.int (x + (nI 1)))) st h) Q := G_unf rfl rfl
set_option maxRecDepth 100000 in
theorem g155_579 : G d 155 579 ls st h Q ↔ GN d 155 579 ls h (nx 562 ls st h) Q := G_unf rfl rfl
set_option maxRecDepth 100000 in
theorem g155_582 : G d 155 582 ls st h Q ↔ GN d 155 582 ls h (pE st (rtn none)) Q := G_unf rfl rfl
theorem g156_0 : G d 156 0 ls st h Q ↔ GN d 156 0 ls h (ldI ls 0 fun x => nx 1 ls (.int x :: st) h) Q := G_unf rfl rfl
theorem g156_1 : G d 156 1 ls st h Q ↔ GN d 156 1 ls h (ldI ls 1 fun x => nx 2 ls (.int x :: st) h) Q := G_unf rfl rfl
theorem g156_2 : G d 156 2 ls st h Q ↔ GN d 156 2 ls h (pII st fun x y r => br (x < y) (nx 14 ls r h) (nx 5 ls r h)) Q := G_unf rfl rfl
theorem g156_5 : G d 156 5 ls st h Q ↔ GN d 156 5 ls h (ldI ls 0 fun x => nx 6 ls (.int x :: st) h) Q := G_unf rfl rfl
theorem g156_6 : G d 156 6 ls st h Q ↔ GN d 156 6 ls h (ldI ls 2 fun x => nx 7 ls (.int x :: st) h) Q := G_unf rfl rfl
theorem g156_7 : G d 156 7 ls st h Q ↔ GN d 156 7 ls h (pII st fun x y r => br (y < x) (nx 14 ls r h) (nx 10 ls r h)) Q := G_unf rfl rfl
theorem g156_10 : G d 156 10 ls st h Q ↔ GN d 156 10 ls h (nx 11 ls (.int (nI 1) :: st) h) Q := G_unf rfl rfl
theorem g156_11 : G d 156 11 ls st h Q ↔ GN d 156 11 ls h (nx 15 ls st h) Q := G_unf rfl rfl
theorem g156_14 : G d 156 14 ls st h Q ↔ GN d 156 14 ls h (nx 15 ls (.int (nI 0) :: st) h) Q := G_unf rfl rfl
theorem g156_15 : G d 156 15 ls st h Q ↔ GN d 156 15 ls h (pIe st fun x => ck (x = 0 ∨ x = 1) (rtn (some (.int x)))) Q := G_unf rfl rfl
theorem g157_0 : G d 157 0 ls st h Q ↔ GN d 157 0 ls h (nx 2 ls (.int (nI 24) :: st) h) Q := G_unf rfl rfl
theorem g157_2 : G d 157 2 ls st h Q ↔ GN d 157 2 ls h (pI st fun x r => ck (2 < ls.length) (nx 3 (st1 ls 2 (.int x)) r h)) Q := G_unf rfl rfl
theorem g157_3 : G d 157 3 ls st h Q ↔ GN d 157 3 ls h (ldI ls 2 fun x => nx 4 ls (.int x :: st) h) Q := G_unf rfl rfl
theorem g157_4 : G d 157 4 ls st h Q ↔ GN d 157 4 ls h (pI st fun x r => br (x < 0) (nx 39 ls r h) (nx 7 ls r h)) Q := G_unf rfl rfl
theorem g157_7 : G d 157 7 ls st h Q ↔ GN d 157 7 ls h (ldR ls 0 fun a => nx 8 ls (.ref a :: st) h) Q := G_unf rfl rfl
theorem g157_8 : G d 157 8 ls st h Q ↔ GN d 157 8 ls h (pR st fun a r => ck (arr h a 9) (nx 11 ls (rv (hR h a 0) :: r) h)) Q := G_unf rfl rfl
theorem g157_11 : G d 157 11 ls st h Q ↔ GN d 157 11 ls h (ldR ls 0 fun a => nx 12 ls (.ref a :: st) h) Q := G_unf rfl rfl
theorem g157_12 : G d 157 12 ls st h Q ↔ GN d 157 12 ls h (pR st fun a r => ck (arr h a 9) (nx 15 ls (.int (hI h a 1) :: r) h)) Q := G_unf rfl rfl
theorem g157_15 : G d 157 15 ls st h Q ↔ GN d 157 15 ls h (ldI ls 1 fun x => nx 16 ls (.int x :: st) h) Q := G_unf rfl rfl
theorem g157_16 : G d 157 16 ls st h Q ↔ GN d 157 16 ls h (ldI ls 2 fun x => nx 17 ls (.int x :: st) h) Q := G_unf rfl rfl
theorem g157_17 : G d 157 17 ls st h Q ↔ GN d 157 17 ls h (pII st fun x y r => nx 18 ls (.int (x >>> (y &&& 31)) :: r) h) Q := G_unf rfl rfl
theorem g157_18 : G d 157 18 ls st h Q ↔ GN d 157 18 ls h (nx 21 ls (.int (nI 255) :: st) h) Q := G_unf rfl rfl
theorem g157_21 : G d 157 21 ls st h Q ↔ GN d 157 21 ls h (pII st fun x y r => nx 22 ls (.int (x &&& y) :: r) h) Q := G_unf rfl rfl
theorem g157_22 : G d 157 22 ls st h Q ↔ GN d 157 22 ls h (pRII st fun a i x r => ck (arr h a 10 ∧ inb i (hLn h a)) (nx 23 ls r (sI h a i.toNatClampNeg x))) Q := G_unf rfl rfl
theorem g157_23 : G d 157 23 ls st h Q ↔ GN d 157 23 ls h (ldR ls 0 fun a => nx 24 ls (.ref a :: st) h) Q := G_unf rfl rfl
theorem g157_24 : G d 157 24 ls st h Q ↔ GN d 157 24 ls h (p1 st fun v r => nx 25 ls (v :: v :: r) h) Q := G_unf rfl rfl
theorem g157_25 : G d 157 25 ls st h Q ↔ GN d 157 25 ls h (pR st fun a r => ck (arr h a 9) (nx 28 ls (.int (hI h a 1) :: r) h)) Q := G_unf rfl rfl
theorem g157_28 : G d 157 28 ls st h Q ↔ GN d 157 28 ls h (nx 29 ls (.int (nI 1) :: st) h) Q := G_unf rfl rfl
theorem g157_29 : G d 157 29 ls st h Q ↔ GN d 157 29 ls h (pII st fun x y r => nx 30 ls (.int (x + y) :: r) h) Q := G_unf rfl rfl
theorem g157_30 : G d 157 30 ls st h Q ↔ GN d 157 30 ls h (pRI st fun a x r => ck (arr h a 9) (nx 33 ls r (sI h a 1 x))) Q := G_unf rfl rfl
theorem g157_33 : G d 157 33 ls st h Q ↔ GN d 157 33 ls h (ldI ls 2 fun x => nx 36 (st1 ls 2 (.int (x + (-8)))) st h) Q := G_unf rfl rfl
theorem g157_36 : G d 157 36 ls st h Q ↔ GN d 157 36 ls h (nx 3 ls st h) Q := G_unf rfl rfl
theorem g157_39 : G d 157 39 ls st h Q ↔ GN d 157 39 ls h (pE st (rtn none)) Q := G_unf rfl rfl
theorem g158_0 : G d 158 0 ls st h Q ↔ GN d 158 0 ls h (ldR ls 0 fun a => nx 1 ls (.ref a :: st) h) Q := G_unf rfl rfl
theorem g158_1 : G d 158 1 ls st h Q ↔ GN d 158 1 ls h (pR st fun a r => ck (arr h a 9) (nx 4 ls (.int (hI h a 1) :: r) h)) Q := G_unf rfl rfl
theorem g158_4 : G d 158 4 ls st h Q ↔ GN d 158 4 ls h (nx 6 ls (.int (nI 20) :: st) h) Q := G_unf rfl rfl
theorem g158_6 : G d 158 6 ls st h Q ↔ GN d 158 6 ls h (pII st fun x y r => nx 7 ls (.int (x + y) :: r) h) Q := G_unf rfl rfl
theorem g158_7 : G d 158 7 ls st h Q ↔ GN d 158 7 ls h (nx 10 ls (.int (nI 1600) :: st) h) Q := G_unf rfl rfl
theorem g158_10 : G d 158 10 ls st h Q ↔ GN d 158 10 ls h (pII st fun x y r => br (x ≤ y) (nx 19 ls r h) (nx 13 ls r h)) Q := G_unf rfl rfl
theorem g158_13 : G d 158 13 ls st h Q ↔ GN d 158 13 ls h (ldR ls 0 fun a => nx 14 ls (.ref a :: st) h) Q := G_unf rfl rfl
theorem g158_14 : G d 158 14 ls st h Q ↔ GN d 158 14 ls h (nx 15 ls (.int (nI 0) :: st) h) Q := G_unf rfl rfl
theorem g158_15 : G d 158 15 ls st h Q ↔ GN d 158 15 ls h (pA 1 st fun as r => pR r fun a r => ck (r.length ≤ 4 ∧ arr h a 9) (cll 200 (.ref a :: as) r)) Q := G_unf rfl rfl
theorem g158_18 : G d 158 18 ls st h Q ↔ GN d 158 18 ls h (pIe st fun x => rtn (some (.int x))) Q := G_unf rfl rfl
theorem g158_19 : G d 158 19 ls st h Q ↔ GN d 158 19 ls h (ldR ls 0 fun a => nx 20 ls (.ref a :: st) h) Q := G_unf rfl rfl
theorem g158_20 : G d 158 20 ls st h Q ↔ GN d 158 20 ls h (ldI ls 1 fun x => nx 21 ls (.int x :: st) h) Q := G_unf rfl rfl
theorem g158_21 : G d 158 21 ls st h Q ↔ GN d 158 21 ls h (pA 1 st fun as r => pR r fun a r => ck (r.length ≤ 4 ∧ arr h a 9) (cll 157 (.ref a :: as) r)) Q := G_unf rfl rfl
theorem g158_24 : G d 158 24 ls st h Q ↔ GN d 158 24 ls h (ldR ls 0 fun a => nx 25 ls (.ref a :: st) h) Q := G_unf rfl rfl
theorem g158_25 : G d 158 25 ls st h Q ↔ GN d 158 25 ls h (ldI ls 2 fun x => nx 26 ls (.int x :: st) h) Q := G_unf rfl rfl
theorem g158_26 : G d 158 26 ls st h Q ↔ GN d 158 26 ls h (pA 1 st fun as r => pR r fun a r => ck (r.length ≤ 4 ∧ arr h a 9) (cll 157 (.ref a :: as) r)) Q := G_unf rfl rfl
theorem g158_29 : G d 158 29 ls st h Q ↔ GN d 158 29 ls h (ldR ls 0 fun a => nx 30 ls (.ref a :: st) h) Q := G_unf rfl rfl
theorem g158_30 : G d 158 30 ls st h Q ↔ GN d 158 30 ls h (ldI ls 3 fun x => nx 31 ls (.int x :: st) h) Q := G_unf rfl rfl
theorem g158_31 : G d 158 31 ls st h Q ↔ GN d 158 31 ls h (pA 1 st fun as r => pR r fun a r => ck (r.length ≤ 4 ∧ arr h a 9) (cll 157 (.ref a :: as) r)) Q := G_unf rfl rfl
theorem g158_34 : G d 158 34 ls st h Q ↔ GN d 158 34 ls h (ldR ls 0 fun a => nx 35 ls (.ref a :: st) h) Q := G_unf rfl rfl
theorem g158_35 : G d 158 35 ls st h Q ↔ GN d 158 35 ls h (ldI ls 4 fun x => nx 37 ls (.int x :: st) h) Q := G_unf rfl rfl
theorem g158_37 : G d 158 37 ls st h Q ↔ GN d 158 37 ls h (pA 1 st fun as r => pR r fun a r => ck (r.length ≤ 4 ∧ arr h a 9) (cll 157 (.ref a :: as) r)) Q := G_unf rfl rfl
theorem g158_40 : G d 158 40 ls st h Q ↔ GN d 158 40 ls h (ldR ls 0 fun a => nx 41 ls (.ref a :: st) h) Q := G_unf rfl rfl
theorem g158_41 : G d 158 41 ls st h Q ↔ GN d 158 41 ls h (ldI ls 5 fun x => nx 43 ls (.int x :: st) h) Q := G_unf rfl rfl
theorem g158_43 : G d 158 43 ls st h Q ↔ GN d 158 43 ls h (pA 1 st fun as r => pR r fun a r => ck (r.length ≤ 4 ∧ arr h a 9) (cll 157 (.ref a :: as) r)) Q := G_unf rfl rfl
theorem g158_46 : G d 158 46 ls st h Q ↔ GN d 158 46 ls h (ldR ls 0 fun a => nx 47 ls (.ref a :: st) h) Q := G_unf rfl rfl
theorem g158_47 : G d 158 47 ls st h Q ↔ GN d 158 47 ls h (pR st fun a r => ck (arr h a 9) (nx 50 ls (.int (hI h a 1) :: r) h)) Q := G_unf rfl rfl
theorem g158_50 : G d 158 50 ls st h Q ↔ GN d 158 50 ls h (pIe st fun x => rtn (some (.int x))) Q := G_unf rfl rfl
theorem g159_0 : G d 159 0 ls st h Q ↔ GN d 159 0 ls h (ldI ls 1 fun x => nx 1 ls (.int x :: st) h) Q := G_unf rfl rfl
theorem g159_1 : G d 159 1 ls st h Q ↔ GN d 159 1 ls h (pI st fun x r => br (x < 0) (nx 12 ls r h) (nx 4 ls r h)) Q := G_unf rfl rfl
theorem g159_4 : G d 159 4 ls st h Q ↔ GN d 159 4 ls h (ldI ls 1 fun x => nx 5 ls (.int x :: st) h) Q := G_unf rfl rfl
theorem g159_5 : G d 159 5 ls st h Q ↔ GN d 159 5 ls h (ldR ls 0 fun a => nx 6 ls (.ref a :: st) h) Q := G_unf rfl rfl
theorem g159_6 : G d 159 6 ls st h Q ↔ GN d 159 6 ls h (pR st fun a r => ck (arr h a 9) (nx 9 ls (.int (hI h a 1) :: r) h)) Q := G_unf rfl rfl
theorem g159_9 : G d 159 9 ls st h Q ↔ GN d 159 9 ls h (pII st fun x y r => br (x ≤ y) (nx 26 ls r h) (nx 12 ls r h)) Q := G_unf rfl rfl
theorem g159_12 : G d 159 12 ls st h Q ↔ GN d 159 12 ls h (ldR ls 0 fun a => nx 13 ls (.ref a :: st) h) Q := G_unf rfl rfl
theorem g159_13 : G d 159 13 ls st h Q ↔ GN d 159 13 ls h (nx 14 ls (.int (nI 0) :: st) h) Q := G_unf rfl rfl
theorem g159_14 : G d 159 14 ls st h Q ↔ GN d 159 14 ls h (pA 1 st fun as r => pR r fun a r => ck (r.length ≤ 4 ∧ arr h a 9) (cll 200 (.ref a :: as) r)) Q := G_unf rfl rfl
theorem g159_17 : G d 159 17 ls st h Q ↔ GN d 159 17 ls h (pI st fun x r => br (x < 0) (nx 24 ls r h) (nx 20 ls r h)) Q := G_unf rfl rfl
theorem g159_20 : G d 159 20 ls st h Q ↔ GN d 159 20 ls h (nx 21 ls (.int (nI 1) :: st) h) Q := G_unf rfl rfl
theorem g159_21 : G d 159 21 ls st h Q ↔ GN d 159 21 ls h (nx 25 ls st h) Q := G_unf rfl rfl
theorem g159_24 : G d 159 24 ls st h Q ↔ GN d 159 24 ls h (nx 25 ls (.int (nI 0) :: st) h) Q := G_unf rfl rfl
theorem g159_25 : G d 159 25 ls st h Q ↔ GN d 159 25 ls h (pIe st fun x => ck (x = 0 ∨ x = 1) (rtn (some (.int x)))) Q := G_unf rfl rfl
theorem g159_26 : G d 159 26 ls st h Q ↔ GN d 159 26 ls h (ldR ls 0 fun a => nx 27 ls (.ref a :: st) h) Q := G_unf rfl rfl
theorem g159_27 : G d 159 27 ls st h Q ↔ GN d 159 27 ls h (ldI ls 1 fun x => nx 28 ls (.int x :: st) h) Q := G_unf rfl rfl
theorem g159_28 : G d 159 28 ls st h Q ↔ GN d 159 28 ls h (pRI st fun a x r => ck (arr h a 9) (nx 31 ls r (sI h a 1 x))) Q := G_unf rfl rfl
theorem g159_31 : G d 159 31 ls st h Q ↔ GN d 159 31 ls h (nx 32 ls (.int (nI 1) :: st) h) Q := G_unf rfl rfl
theorem g159_32 : G d 159 32 ls st h Q ↔ GN d 159 32 ls h (pIe st fun x => ck (x = 0 ∨ x = 1) (rtn (some (.int x)))) Q := G_unf rfl rfl
theorem g160_0 : G d 160 0 ls st h Q ↔ GN d 160 0 ls h (ldR ls 0 fun a => nx 1 ls (.ref a :: st) h) Q := G_unf rfl rfl
theorem g160_1 : G d 160 1 ls st h Q ↔ GN d 160 1 ls h (pR st fun a r => ck (arr h a 9) (nx 4 ls (.int (hI h a 8) :: r) h)) Q := G_unf rfl rfl
theorem g160_4 : G d 160 4 ls st h Q ↔ GN d 160 4 ls h (pI st fun x r => br (x ≤ 0) (nx 8 ls r h) (nx 7 ls r h)) Q := G_unf rfl rfl
theorem g160_7 : G d 160 7 ls st h Q ↔ GN d 160 7 ls h (pE st (rtn none)) Q := G_unf rfl rfl
theorem g160_8 : G d 160 8 ls st h Q ↔ GN d 160 8 ls h (ldR ls 0 fun a => nx 9 ls (.ref a :: st) h) Q := G_unf rfl rfl
theorem g160_9 : G d 160 9 ls st h Q ↔ GN d 160 9 ls h (ldI ls 1 fun x => nx 10 ls (.int x :: st) h) Q := G_unf rfl rfl
theorem g160_10 : G d 160 10 ls st h Q ↔ GN d 160 10 ls h (pRI st fun a x r => ck (arr h a 9) (nx 13 ls r (sI h a 8 x))) Q := G_unf rfl rfl
theorem g160_13 : G d 160 13 ls st h Q ↔ GN d 160 13 ls h (ldR ls 0 fun a => nx 14 ls (.ref a :: st) h) Q := G_unf rfl rfl
theorem g160_14 : G d 160 14 ls st h Q ↔ GN d 160 14 ls h (ldI ls 2 fun x => nx 15 ls (.int x :: st) h) Q := G_unf rfl rfl
theorem g160_15 : G d 160 15 ls st h Q ↔ GN d 160 15 ls h (pRI st fun a x r => ck (arr h a 9) (nx 18 ls r (sI h a 9 x))) Q := G_unf rfl rfl
theorem g160_18 : G d 160 18 ls st h Q ↔ GN d 160 18 ls h (pE st (rtn none)) Q := G_unf rfl rfl
theorem g161_0 : G d 161 0 ls st h Q ↔ GN d 161 0 ls h (ldI ls 0 fun x => nx 1 ls (.int x :: st) h) Q := G_unf rfl rfl
theorem g161_1 : G d 161 1 ls st h Q ↔ GN d 161 1 ls h (nx 3 ls (.int (nI 97) :: st) h) Q := G_unf rfl rfl
theorem g161_3 : G d 161 3 ls st h Q ↔ GN d 161 3 ls h (pII st fun x y r => br (x < y) (nx 16 ls r h) (nx 6 ls r h)) Q := G_unf rfl rfl
theorem g161_6 : G d 161 6 ls st h Q ↔ GN d 161 6 ls h (ldI ls 0 fun x => nx 7 ls (.int x :: st) h) Q := G_unf rfl rfl
theorem g161_7 : G d 161 7 ls st h Q ↔ GN d 161 7 ls h (nx 9 ls (.int (nI 122) :: st) h) Q := G_unf rfl rfl
theorem g161_9 : G d 161 9 ls st h Q ↔ GN d 161 9 ls h (pII st fun x y r => br (y < x) (nx 16 ls r h) (nx 12 ls r h)) Q := G_unf rfl rfl
theorem g161_12 : G d 161 12 ls st h Q ↔ GN d 161 12 ls h (nx 13 ls (.int (nI 1) :: st) h) Q := G_unf rfl rfl
theorem g161_13 : G d 161 13 ls st h Q ↔ GN d 161 13 ls h (nx 17 ls st h) Q := G_unf rfl rfl
theorem g161_16 : G d 161 16 ls st h Q ↔ GN d 161 16 ls h (nx 17 ls (.int (nI 0) :: st) h) Q := G_unf rfl rfl
theorem g161_17 : G d 161 17 ls st h Q ↔ GN d 161 17 ls h (pIe st fun x => ck (x = 0 ∨ x = 1) (rtn (some (.int x)))) Q := G_unf rfl rfl
theorem g162_0 : G d 162 0 ls st h Q ↔ GN d 162 0 ls h (ldI ls 0 fun x => nx 1 ls (.int x :: st) h) Q := G_unf rfl rfl
theorem g162_1 : G d 162 1 ls st h Q ↔ GN d 162 1 ls h (nx 3 ls (.int (nI 48) :: st) h) Q := G_unf rfl rfl
theorem g162_3 : G d 162 3 ls st h Q ↔ GN d 162 3 ls h (pII st fun x y r => br (x < y) (nx 16 ls r h) (nx 6 ls r h)) Q := G_unf rfl rfl
theorem g162_6 : G d 162 6 ls st h Q ↔ GN d 162 6 ls h (ldI ls 0 fun x => nx 7 ls (.int x :: st) h) Q := G_unf rfl rfl
theorem g162_7 : G d 162 7 ls st h Q ↔ GN d 162 7 ls h (nx 9 ls (.int (nI 57) :: st) h) Q := G_unf rfl rfl
theorem g162_9 : G d 162 9 ls st h Q ↔ GN d 162 9 ls h (pII st fun x y r => br (y < x) (nx 16 ls r h) (nx 12 ls r h)) Q := G_unf rfl rfl
theorem g162_12 : G d 162 12 ls st h Q ↔ GN d 162 12 ls h (nx 13 ls (.int (nI 1) :: st) h) Q := G_unf rfl rfl
theorem g162_13 : G d 162 13 ls st h Q ↔ GN d 162 13 ls h (nx 17 ls st h) Q := G_unf rfl rfl
theorem g162_16 : G d 162 16 ls st h Q ↔ GN d 162 16 ls h (nx 17 ls (.int (nI 0) :: st) h) Q := G_unf rfl rfl
theorem g162_17 : G d 162 17 ls st h Q ↔ GN d 162 17 ls h (pIe st fun x => ck (x = 0 ∨ x = 1) (rtn (some (.int x)))) Q := G_unf rfl rfl
theorem g163_0 : G d 163 0 ls st h Q ↔ GN d 163 0 ls h (ldR ls 0 fun a => nx 1 ls (.ref a :: st) h) Q := G_unf rfl rfl
theorem g163_1 : G d 163 1 ls st h Q ↔ GN d 163 1 ls h (pR st fun a r => ck (arr h a 9) (nx 4 ls (.int (hI h a 12) :: r) h)) Q := G_unf rfl rfl
theorem g163_4 : G d 163 4 ls st h Q ↔ GN d 163 4 ls h (nx 5 ls (.int (-1) :: st) h) Q := G_unf rfl rfl
theorem g163_5 : G d 163 5 ls st h Q ↔ GN d 163 5 ls h (pII st fun x y r => br (x = y) (nx 17 ls r h) (nx 8 ls r h)) Q := G_unf rfl rfl
theorem g163_8 : G d 163 8 ls st h Q ↔ GN d 163 8 ls h (ldR ls 0 fun a => nx 9 ls (.ref a :: st) h) Q := G_unf rfl rfl
theorem g163_9 : G d 163 9 ls st h Q ↔ GN d 163 9 ls h (nx 10 ls (.int (nI 1) :: st) h) Q := G_unf rfl rfl
theorem g163_10 : G d 163 10 ls st h Q ↔ GN d 163 10 ls h (ldR ls 0 fun a => nx 11 ls (.ref a :: st) h) Q := G_unf rfl rfl
theorem g163_11 : G d 163 11 ls st h Q ↔ GN d 163 11 ls h (pR st fun a r => ck (arr h a 9) (nx 14 ls (.int (hI h a 12) :: r) h)) Q := G_unf rfl rfl
theorem g163_14 : G d 163 14 ls st h Q ↔ GN d 163 14 ls h (pA 2 st fun as r => pR r fun a r => ck (r.length ≤ 4 ∧ arr h a 9) (cll 160 (.ref a :: as) r)) Q := G_unf rfl rfl
theorem g163_17 : G d 163 17 ls st h Q ↔ GN d 163 17 ls h (pE st (rtn none)) Q := G_unf rfl rfl
theorem g164_0 : G d 164 0 ls st h Q ↔ GN d 164 0 ls h (ldR ls 0 fun a => nx 1 ls (.ref a :: st) h) Q := G_unf rfl rfl
theorem g164_1 : G d 164 1 ls st h Q ↔ GN d 164 1 ls h (pR st fun a r => ck (arr h a 9) (nx 4 ls (.int (hI h a 5) :: r) h)) Q := G_unf rfl rfl
theorem g164_4 : G d 164 4 ls st h Q ↔ GN d 164 4 ls h (pI st fun x r => ck (1 < ls.length) (nx 5 (st1 ls 1 (.int x)) r h)) Q := G_unf rfl rfl
theorem g164_5 : G d 164 5 ls st h Q ↔ GN d 164 5 ls h (ldI ls 1 fun x => nx 6 ls (.int x :: st) h) Q := G_unf rfl rfl
theorem g164_6 : G d 164 6 ls st h Q ↔ GN d 164 6 ls h (ldR ls 0 fun a => nx 7 ls (.ref a :: st) h) Q := G_unf rfl rfl
theorem g164_7 : G d 164 7 ls st h Q ↔ GN d 164 7 ls h (pR st fun a r => ck (arr h a 9) (nx 10 ls (.int (hI h a 2) :: r) h)) Q := G_unf rfl rfl
theorem g164_10 : G d 164 10 ls st h Q ↔ GN d 164 10 ls h (pII st fun x y r => br (y ≤ x) (nx 41 ls r h) (nx 13 ls r h)) Q := G_unf rfl rfl
theorem g164_13 : G d 164 13 ls st h Q ↔ GN d 164 13 ls h (ldR ls 0 fun a => nx 14 ls (.ref a :: st) h) Q := G_unf rfl rfl
theorem g164_14 : G d 164 14 ls st h Q ↔ GN d 164 14 ls h (pR st fun a r => ck (arr h a 9) (nx 17 ls (rv (hR h a 0) :: r) h)) Q := G_unf rfl rfl
theorem g164_17 : G d 164 17 ls st h Q ↔ GN d 164 17 ls h (ldI ls 1 fun x => nx 18 ls (.int x :: st) h) Q := G_unf rfl rfl
theorem g164_18 : G d 164 18 ls st h Q ↔ GN d 164 18 ls h (pRI st fun a i r => br (a = 1000003) (ck (inb i (hS h).1) (nx 19 ls (.int ((hS h).2 i.toNatClampNeg) :: r) h)) (ck (arr h a 10 ∧ inb i (hLn h a)) (nx 19 ls (.int (hI h a i.toNatClampNeg) :: r) h))) Q := G_unf rfl rfl
theorem g164_19 : G d 164 19 ls st h Q ↔ GN d 164 19 ls h (nx 21 ls (.int (nI 32) :: st) h) Q := G_unf rfl rfl
theorem g164_21 : G d 164 21 ls st h Q ↔ GN d 164 21 ls h (pII st fun x y r => br (x = y) (nx 35 ls r h) (nx 24 ls r h)) Q := G_unf rfl rfl
theorem g164_24 : G d 164 24 ls st h Q ↔ GN d 164 24 ls h (ldR ls 0 fun a => nx 25 ls (.ref a :: st) h) Q := G_unf rfl rfl
theorem g164_25 : G d 164 25 ls st h Q ↔ GN d 164 25 ls h (pR st fun a r => ck (arr h a 9) (nx 28 ls (rv (hR h a 0) :: r) h)) Q := G_unf rfl rfl
theorem g164_28 : G d 164 28 ls st h Q ↔ GN d 164 28 ls h (ldI ls 1 fun x => nx 29 ls (.int x :: st) h) Q := G_unf rfl rfl
theorem g164_29 : G d 164 29 ls st h Q ↔ GN d 164 29 ls h (pRI st fun a i r => br (a = 1000003) (ck (inb i (hS h).1) (nx 30 ls (.int ((hS h).2 i.toNatClampNeg) :: r) h)) (ck (arr h a 10 ∧ inb i (hLn h a)) (nx 30 ls (.int (hI h a i.toNatClampNeg) :: r) h))) Q := G_unf rfl rfl
theorem g164_30 : G d 164 30 ls st h Q ↔ GN d 164 30 ls h (nx 32 ls (.int (nI 10) :: st) h) Q := G_unf rfl rfl
theorem g164_32 : G d 164 32 ls st h Q ↔ GN d 164 32 ls h (pII st fun x y r => br (¬ x = y) (nx 41 ls r h) (nx 35 ls r h)) Q := G_unf rfl rfl
theorem g164_35 : G d 164 35 ls st h Q ↔ GN d 164 35 ls h (ldI ls 1 fun x => nx 38 (st1 ls 1 (.int (x + (nI 1)))) st h) Q := G_unf rfl rfl
theorem g164_38 : G d 164 38 ls st h Q ↔ GN d 164 38 ls h (nx 5 ls st h) Q := G_unf rfl rfl
theorem g164_41 : G d 164 41 ls st h Q ↔ GN d 164 41 ls h (ldR ls 0 fun a => nx 42 ls (.ref a :: st) h) Q := G_unf rfl rfl
theorem g164_42 : G d 164 42 ls st h Q ↔ GN d 164 42 ls h (ldI ls 1 fun x => nx 43 ls (.int x :: st) h) Q := G_unf rfl rfl
theorem g164_43 : G d 164 43 ls st h Q ↔ GN d 164 43 ls h (pRI st fun a x r => ck (arr h a 9) (nx 46 ls r (sI h a 4 x))) Q := G_unf rfl rfl
theorem g164_46 : G d 164 46 ls st h Q ↔ GN d 164 46 ls h (ldR ls 0 fun a => nx 47 ls (.ref a :: st) h) Q := G_unf rfl rfl
theorem g164_47 : G d 164 47 ls st h Q ↔ GN d 164 47 ls h (ldI ls 1 fun x => nx 48 ls (.int x :: st) h) Q := G_unf rfl rfl
theorem g164_48 : G d 164 48 ls st h Q ↔ GN d 164 48 ls h (pRI st fun a x r => ck (arr h a 9) (nx 51 ls r (sI h a 5 x))) Q := G_unf rfl rfl
theorem g164_51 : G d 164 51 ls st h Q ↔ GN d 164 51 ls h (ldR ls 0 fun a => nx 52 ls (.ref a :: st) h) Q := G_unf rfl rfl
theorem g164_52 : G d 164 52 ls st h Q ↔ GN d 164 52 ls h (nx 53 ls (.int (nI 0) :: st) h) Q := G_unf rfl rfl
theorem g164_53 : G d 164 53 ls st h Q ↔ GN d 164 53 ls h (pRI st fun a x r => ck (arr h a 9) (nx 56 ls r (sI h a 3 x))) Q := G_unf rfl rfl
theorem g164_56 : G d 164 56 ls st h Q ↔ GN d 164 56 ls h (ldR ls 0 fun a => nx 57 ls (.ref a :: st) h) Q := G_unf rfl rfl
theorem g164_57 : G d 164 57 ls st h Q ↔ GN d 164 57 ls h (nx 58 ls (.int (-1) :: st) h) Q := G_unf rfl rfl
theorem g164_58 : G d 164 58 ls st h Q ↔ GN d 164 58 ls h (pRI st fun a x r => ck (arr h a 9) (nx 61 ls r (sI h a 12 x))) Q := G_unf rfl rfl
theorem g164_61 : G d 164 61 ls st h Q ↔ GN d 164 61 ls h (ldI ls 1 fun x => nx 62 ls (.int x :: st) h) Q := G_unf rfl rfl
theorem g164_62 : G d 164 62 ls st h Q ↔ GN d 164 62 ls h (ldR ls 0 fun a => nx 63 ls (.ref a :: st) h) Q := G_unf rfl rfl
theorem g164_63 : G d 164 63 ls st h Q ↔ GN d 164 63 ls h (pR st fun a r => ck (arr h a 9) (nx 66 ls (.int (hI h a 2) :: r) h)) Q := G_unf rfl rfl
theorem g164_66 : G d 164 66 ls st h Q ↔ GN d 164 66 ls h (pII st fun x y r => br (x < y) (nx 70 ls r h) (nx 69 ls r h)) Q := G_unf rfl rfl
theorem g164_69 : G d 164 69 ls st h Q ↔ GN d 164 69 ls h (pE st (rtn none)) Q := G_unf rfl rfl
theorem g164_70 : G d 164 70 ls st h Q ↔ GN d 164 70 ls h (ldR ls 0 fun a => nx 71 ls (.ref a :: st) h) Q := G_unf rfl rfl
theorem g164_71 : G d 164 71 ls st h Q ↔ GN d 164 71 ls h (pR st fun a r => ck (arr h a 9) (nx 74 ls (rv (hR h a 0) :: r) h)) Q := G_unf rfl rfl
theorem g164_74 : G d 164 74 ls st h Q ↔ GN d 164 74 ls h (ldI ls 1 fun x => nx 75 ls (.int x :: st) h) Q := G_unf rfl rfl
theorem g164_75 : G d 164 75 ls st h Q ↔ GN d 164 75 ls h (pRI st fun a i r => br (a = 1000003) (ck (inb i (hS h).1) (nx 76 ls (.int ((hS h).2 i.toNatClampNeg) :: r) h)) (ck (arr h a 10 ∧ inb i (hLn h a)) (nx 76 ls (.int (hI h a i.toNatClampNeg) :: r) h))) Q := G_unf rfl rfl
theorem g164_76 : G d 164 76 ls st h Q ↔ GN d 164 76 ls h (pA 1 st fun as r => ck (r.length ≤ 4) (cll 161 as r)) Q := G_unf rfl rfl
theorem g164_79 : G d 164 79 ls st h Q ↔ GN d 164 79 ls h (pI st fun x r => ck (2 < ls.length) (nx 80 (st1 ls 2 (.int x)) r h)) Q := G_unf rfl rfl
theorem g164_80 : G d 164 80 ls st h Q ↔ GN d 164 80 ls h (ldR ls 0 fun a => nx 81 ls (.ref a :: st) h) Q := G_unf rfl rfl
theorem g164_81 : G d 164 81 ls st h Q ↔ GN d 164 81 ls h (pR st fun a r => ck (arr h a 9) (nx 84 ls (rv (hR h a 0) :: r) h)) Q := G_unf rfl rfl
theorem g164_84 : G d 164 84 ls st h Q ↔ GN d 164 84 ls h (ldI ls 1 fun x => nx 85 ls (.int x :: st) h) Q := G_unf rfl rfl
theorem g164_85 : G d 164 85 ls st h Q ↔ GN d 164 85 ls h (pRI st fun a i r => br (a = 1000003) (ck (inb i (hS h).1) (nx 86 ls (.int ((hS h).2 i.toNatClampNeg) :: r) h)) (ck (arr h a 10 ∧ inb i (hLn h a)) (nx 86 ls (.int (hI h a i.toNatClampNeg) :: r) h))) Q := G_unf rfl rfl
theorem g164_86 : G d 164 86 ls st h Q ↔ GN d 164 86 ls h (pA 1 st fun as r => ck (r.length ≤ 4) (cll 162 as r)) Q := G_unf rfl rfl
theorem g164_89 : G d 164 89 ls st h Q ↔ GN d 164 89 ls h (pI st fun x r => ck (3 < ls.length) (nx 90 (st1 ls 3 (.int x)) r h)) Q := G_unf rfl rfl
theorem g164_90 : G d 164 90 ls st h Q ↔ GN d 164 90 ls h (ldI ls 2 fun x => nx 91 ls (.int x :: st) h) Q := G_unf rfl rfl
theorem g164_91 : G d 164 91 ls st h Q ↔ GN d 164 91 ls h (pI st fun x r => br (¬ x = 0) (nx 98 ls r h) (nx 94 ls r h)) Q := G_unf rfl rfl
theorem g164_94 : G d 164 94 ls st h Q ↔ GN d 164 94 ls h (ldI ls 3 fun x => nx 95 ls (.int x :: st) h) Q := G_unf rfl rfl
theorem g164_95 : G d 164 95 ls st h Q ↔ GN d 164 95 ls h (pI st fun x r => br (x = 0) (nx 135 ls r h) (nx 98 ls r h)) Q := G_unf rfl rfl
theorem g164_98 : G d 164 98 ls st h Q ↔ GN d 164 98 ls h (ldI ls 1 fun x => nx 99 ls (.int x :: st) h) Q := G_unf rfl rfl
theorem g164_99 : G d 164 99 ls st h Q ↔ GN d 164 99 ls h (pI st fun x r => br (x ≤ 0) (nx 135 ls r h) (nx 102 ls r h)) Q := G_unf rfl rfl
theorem g164_102 : G d 164 102 ls st h Q ↔ GN d 164 102 ls h (ldR ls 0 fun a => nx 103 ls (.ref a :: st) h) Q := G_unf rfl rfl
theorem g164_103 : G d 164 103 ls st h Q ↔ GN d 164 103 ls h (pR st fun a r => ck (arr h a 9) (nx 106 ls (rv (hR h a 0) :: r) h)) Q := G_unf rfl rfl
theorem g164_106 : G d 164 106 ls st h Q ↔ GN d 164 106 ls h (ldI ls 1 fun x => nx 107 ls (.int x :: st) h) Q := G_unf rfl rfl
theorem g164_107 : G d 164 107 ls st h Q ↔ GN d 164 107 ls h (nx 108 ls (.int (nI 1) :: st) h) Q := G_unf rfl rfl
theorem g164_108 : G d 164 108 ls st h Q ↔ GN d 164 108 ls h (pII st fun x y r => nx 109 ls (.int (x - y) :: r) h) Q := G_unf rfl rfl
theorem g164_109 : G d 164 109 ls st h Q ↔ GN d 164 109 ls h (pRI st fun a i r => br (a = 1000003) (ck (inb i (hS h).1) (nx 110 ls (.int ((hS h).2 i.toNatClampNeg) :: r) h)) (ck (arr h a 10 ∧ inb i (hLn h a)) (nx 110 ls (.int (hI h a i.toNatClampNeg) :: r) h))) Q := G_unf rfl rfl
theorem g164_110 : G d 164 110 ls st h Q ↔ GN d 164 110 ls h (pA 1 st fun as r => ck (r.length ≤ 4) (cll 161 as r)) Q := G_unf rfl rfl
theorem g164_113 : G d 164 113 ls st h Q ↔ GN d 164 113 ls h (pI st fun x r => br (¬ x = 0) (nx 130 ls r h) (nx 116 ls r h)) Q := G_unf rfl rfl
theorem g164_116 : G d 164 116 ls st h Q ↔ GN d 164 116 ls h (ldR ls 0 fun a => nx 117 ls (.ref a :: st) h) Q := G_unf rfl rfl
theorem g164_117 : G d 164 117 ls st h Q ↔ GN d 164 117 ls h (pR st fun a r => ck (arr h a 9) (nx 120 ls (rv (hR h a 0) :: r) h)) Q := G_unf rfl rfl
theorem g164_120 : G d 164 120 ls st h Q ↔ GN d 164 120 ls h (ldI ls 1 fun x => nx 121 ls (.int x :: st) h) Q := G_unf rfl rfl
theorem g164_121 : G d 164 121 ls st h Q ↔ GN d 164 121 ls h (nx 122 ls (.int (nI 1) :: st) h) Q := G_unf rfl rfl
theorem g164_122 : G d 164 122 ls st h Q ↔ GN d 164 122 ls h (pII st fun x y r => nx 123 ls (.int (x - y) :: r) h) Q := G_unf rfl rfl
theorem g164_123 : G d 164 123 ls st h Q ↔ GN d 164 123 ls h (pRI st fun a i r => br (a = 1000003) (ck (inb i (hS h).1) (nx 124 ls (.int ((hS h).2 i.toNatClampNeg) :: r) h)) (ck (arr h a 10 ∧ inb i (hLn h a)) (nx 124 ls (.int (hI h a i.toNatClampNeg) :: r) h))) Q := G_unf rfl rfl
theorem g164_124 : G d 164 124 ls st h Q ↔ GN d 164 124 ls h (pA 1 st fun as r => ck (r.length ≤ 4) (cll 162 as r)) Q := G_unf rfl rfl
theorem g164_127 : G d 164 127 ls st h Q ↔ GN d 164 127 ls h (pI st fun x r => br (x = 0) (nx 135 ls r h) (nx 130 ls r h)) Q := G_unf rfl rfl
theorem g164_130 : G d 164 130 ls st h Q ↔ GN d 164 130 ls h (ldR ls 0 fun a => nx 131 ls (.ref a :: st) h) Q := G_unf rfl rfl
theorem g164_131 : G d 164 131 ls st h Q ↔ GN d 164 131 ls h (ldI ls 1 fun x => nx 132 ls (.int x :: st) h) Q := G_unf rfl rfl
theorem g164_132 : G d 164 132 ls st h Q ↔ GN d 164 132 ls h (pRI st fun a x r => ck (arr h a 9) (nx 135 ls r (sI h a 12 x))) Q := G_unf rfl rfl
theorem g164_135 : G d 164 135 ls st h Q ↔ GN d 164 135 ls h (ldR ls 0 fun a => nx 136 ls (.ref a :: st) h) Q := G_unf rfl rfl
theorem g164_136 : G d 164 136 ls st h Q ↔ GN d 164 136 ls h (nx 137 ls (.int (nI 0) :: st) h) Q := G_unf rfl rfl
theorem g164_137 : G d 164 137 ls st h Q ↔ GN d 164 137 ls h (pRI st fun a x r => ck (arr h a 9) (nx 140 ls r (sI h a 6 x))) Q := G_unf rfl rfl
theorem g164_140 : G d 164 140 ls st h Q ↔ GN d 164 140 ls h (ldR ls 0 fun a => nx 141 ls (.ref a :: st) h) Q := G_unf rfl rfl
theorem g164_141 : G d 164 141 ls st h Q ↔ GN d 164 141 ls h (nx 142 ls (.long (lN 0) :: st) h) Q := G_unf rfl rfl
theorem g164_142 : G d 164 142 ls st h Q ↔ GN d 164 142 ls h (pRJ st fun a x r => ck (arr h a 9) (nx 145 ls r (sL h a 7 x))) Q := G_unf rfl rfl
set_option maxRecDepth 100000 in
theorem g164_145 : G d 164 145 ls st h Q ↔ GN d 164 145 ls h (ldR ls 0 fun a => nx 146 ls (.ref a :: st) h) Q := G_unf rfl rfl
set_option maxRecDepth 100000 in
theorem g164_146 : G d 164 146 ls st h Q ↔ GN d 164 146 ls h (nx 147 ls (.int (nI 3) :: st) h) Q := G_unf rfl rfl
set_option maxRecDepth 100000 in
theorem g164_147 : G d 164 147 ls st h Q ↔ GN d 164 147 ls h (pRI st fun a x r => ck (arr h a 9) (nx 150 ls r (sI h a 3 x))) Q := G_unf rfl rfl
set_option maxRecDepth 100000 in
theorem g164_150 : G d 164 150 ls st h Q ↔ GN d 164 150 ls h (ldR ls 0 fun a => nx 151 ls (.ref a :: st) h) Q := G_unf rfl rfl
set_option maxRecDepth 100000 in
theorem g164_151 : G d 164 151 ls st h Q ↔ GN d 164 151 ls h (ldI ls 1 fun x => nx 152 ls (.int x :: st) h) Q := G_unf rfl rfl
set_option maxRecDepth 100000 in
theorem g164_152 : G d 164 152 ls st h Q ↔ GN d 164 152 ls h (nx 153 ls (.int (nI 1) :: st) h) Q := G_unf rfl rfl
set_option maxRecDepth 100000 in
theorem g164_153 : G d 164 153 ls st h Q ↔ GN d 164 153 ls h (pII st fun x y r => nx 154 ls (.int (x + y) :: r) h) Q := G_unf rfl rfl
set_option maxRecDepth 100000 in
theorem g164_154 : G d 164 154 ls st h Q ↔ GN d 164 154 ls h (pRI st fun a x r => ck (arr h a 9) (nx 157 ls r (sI h a 5 x))) Q := G_unf rfl rfl
set_option maxRecDepth 100000 in
theorem g164_157 : G d 164 157 ls st h Q ↔ GN d 164 157 ls h (ldI ls 2 fun x => nx 158 ls (.int x :: st) h) Q := G_unf rfl rfl
set_option maxRecDepth 100000 in
theorem g164_158 : G d 164 158 ls st h Q ↔ GN d 164 158 ls h (pI st fun x r => br (¬ x = 0) (nx 176 ls r h) (nx 161 ls r h)) Q := G_unf rfl rfl
set_option maxRecDepth 100000 in
theorem g164_161 : G d 164 161 ls st h Q ↔ GN d 164 161 ls h (ldI ls 3 fun x => nx 162 ls (.int x :: st) h) Q := G_unf rfl rfl
set_option maxRecDepth 100000 in
theorem g164_162 : G d 164 162 ls st h Q ↔ GN d 164 162 ls h (pI st fun x r => br (¬ x = 0) (nx 176 ls r h) (nx 165 ls r h)) Q := G_unf rfl rfl
set_option maxRecDepth 100000 in
theorem g164_165 : G d 164 165 ls st h Q ↔ GN d 164 165 ls h (ldR ls 0 fun a => nx 166 ls (.ref a :: st) h) Q := G_unf rfl rfl
set_option maxRecDepth 100000 in
theorem g164_166 : G d 164 166 ls st h Q ↔ GN d 164 166 ls h (ldR ls 0 fun a => nx 167 ls (.ref a :: st) h) Q := G_unf rfl rfl
set_option maxRecDepth 100000 in
theorem g164_167 : G d 164 167 ls st h Q ↔ GN d 164 167 ls h (pR st fun a r => ck (arr h a 9) (nx 170 ls (rv (hR h a 0) :: r) h)) Q := G_unf rfl rfl
set_option maxRecDepth 100000 in
theorem g164_170 : G d 164 170 ls st h Q ↔ GN d 164 170 ls h (ldI ls 1 fun x => nx 171 ls (.int x :: st) h) Q := G_unf rfl rfl
set_option maxRecDepth 100000 in
theorem g164_171 : G d 164 171 ls st h Q ↔ GN d 164 171 ls h (pRI st fun a i r => br (a = 1000003) (ck (inb i (hS h).1) (nx 172 ls (.int ((hS h).2 i.toNatClampNeg) :: r) h)) (ck (arr h a 10 ∧ inb i (hLn h a)) (nx 172 ls (.int (hI h a i.toNatClampNeg) :: r) h))) Q := G_unf rfl rfl
set_option maxRecDepth 100000 in
theorem g164_172 : G d 164 172 ls st h Q ↔ GN d 164 172 ls h (pRI st fun a x r => ck (arr h a 9) (nx 175 ls r (sI h a 6 x))) Q := G_unf rfl rfl
set_option maxRecDepth 100000 in
theorem g164_175 : G d 164 175 ls st h Q ↔ GN d 164 175 ls h (pE st (rtn none)) Q := G_unf rfl rfl
set_option maxRecDepth 100000 in
theorem g164_176 : G d 164 176 ls st h Q ↔ GN d 164 176 ls h (ldR ls 0 fun a => nx 177 ls (.ref a :: st) h) Q := G_unf rfl rfl
set_option maxRecDepth 100000 in
theorem g164_177 : G d 164 177 ls st h Q ↔ GN d 164 177 ls h (ldI ls 2 fun x => nx 178 ls (.int x :: st) h) Q := G_unf rfl rfl
set_option maxRecDepth 100000 in
theorem g164_178 : G d 164 178 ls st h Q ↔ GN d 164 178 ls h (pI st fun x r => br (x = 0) (nx 185 ls r h) (nx 181 ls r h)) Q := G_unf rfl rfl
set_option maxRecDepth 100000 in
theorem g164_181 : G d 164 181 ls st h Q ↔ GN d 164 181 ls h (nx 182 ls (.int (nI 1) :: st) h) Q := G_unf rfl rfl
set_option maxRecDepth 100000 in
theorem g164_182 : G d 164 182 ls st h Q ↔ GN d 164 182 ls h (nx 186 ls st h) Q := G_unf rfl rfl
set_option maxRecDepth 100000 in
theorem g164_185 : G d 164 185 ls st h Q ↔ GN d 164 185 ls h (nx 186 ls (.int (nI 2) :: st) h) Q := G_unf rfl rfl
set_option maxRecDepth 100000 in
theorem g164_186 : G d 164 186 ls st h Q ↔ GN d 164 186 ls h (pRI st fun a x r => ck (arr h a 9) (nx 189 ls r (sI h a 3 x))) Q := G_unf rfl rfl
set_option maxRecDepth 100000 in
theorem g164_189 : G d 164 189 ls st h Q ↔ GN d 164 189 ls h (ldI ls 2 fun x => nx 190 ls (.int x :: st) h) Q := G_unf rfl rfl
set_option maxRecDepth 100000 in
theorem g164_190 : G d 164 190 ls st h Q ↔ GN d 164 190 ls h (pI st fun x r => br (x = 0) (nx 198 ls r h) (nx 193 ls r h)) Q := G_unf rfl rfl
set_option maxRecDepth 100000 in
theorem g164_193 : G d 164 193 ls st h Q ↔ GN d 164 193 ls h (nx 195 ls (.int (nI 6) :: st) h) Q := G_unf rfl rfl
set_option maxRecDepth 100000 in
theorem g164_195 : G d 164 195 ls st h Q ↔ GN d 164 195 ls h (nx 199 ls st h) Q := G_unf rfl rfl
set_option maxRecDepth 100000 in
theorem g164_198 : G d 164 198 ls st h Q ↔ GN d 164 198 ls h (nx 199 ls (.int (nI 4) :: st) h) Q := G_unf rfl rfl
set_option maxRecDepth 100000 in
theorem g164_199 : G d 164 199 ls st h Q ↔ GN d 164 199 ls h (pI st fun x r => ck (4 < ls.length) (nx 201 (st1 ls 4 (.int x)) r h)) Q := G_unf rfl rfl
set_option maxRecDepth 100000 in
theorem g164_201 : G d 164 201 ls st h Q ↔ GN d 164 201 ls h (nx 202 ls (.int (nI 0) :: st) h) Q := G_unf rfl rfl
set_option maxRecDepth 100000 in
theorem g164_202 : G d 164 202 ls st h Q ↔ GN d 164 202 ls h (pI st fun x r => ck (5 < ls.length) (nx 204 (st1 ls 5 (.int x)) r h)) Q := G_unf rfl rfl
set_option maxRecDepth 100000 in
theorem g164_204 : G d 164 204 ls st h Q ↔ GN d 164 204 ls h (ldI ls 1 fun x => nx 205 ls (.int x :: st) h) Q := G_unf rfl rfl
set_option maxRecDepth 100000 in
theorem g164_205 : G d 164 205 ls st h Q ↔ GN d 164 205 ls h (ldR ls 0 fun a => nx 206 ls (.ref a :: st) h) Q := G_unf rfl rfl
set_option maxRecDepth 100000 in
theorem g164_206 : G d 164 206 ls st h Q ↔ GN d 164 206 ls h (pR st fun a r => ck (arr h a 9) (nx 209 ls (.int (hI h a 2) :: r) h)) Q := G_unf rfl rfl
set_option maxRecDepth 100000 in
theorem g164_209 : G d 164 209 ls st h Q ↔ GN d 164 209 ls h (pII st fun x y r => br (y ≤ x) (nx 334 ls r h) (nx 212 ls r h)) Q := G_unf rfl rfl
set_option maxRecDepth 100000 in
theorem g164_212 : G d 164 212 ls st h Q ↔ GN d 164 212 ls h (ldI ls 2 fun x => nx 213 ls (.int x :: st) h) Q := G_unf rfl rfl
set_option maxRecDepth 100000 in
theorem g164_213 : G d 164 213 ls st h Q ↔ GN d 164 213 ls h (pI st fun x r => br (x = 0) (nx 231 ls r h) (nx 216 ls r h)) Q := G_unf rfl rfl
set_option maxRecDepth 100000 in
theorem g164_216 : G d 164 216 ls st h Q ↔ GN d 164 216 ls h (ldR ls 0 fun a => nx 217 ls (.ref a :: st) h) Q := G_unf rfl rfl
set_option maxRecDepth 100000 in
theorem g164_217 : G d 164 217 ls st h Q ↔ GN d 164 217 ls h (pR st fun a r => ck (arr h a 9) (nx 220 ls (rv (hR h a 0) :: r) h)) Q := G_unf rfl rfl
set_option maxRecDepth 100000 in
theorem g164_220 : G d 164 220 ls st h Q ↔ GN d 164 220 ls h (ldI ls 1 fun x => nx 221 ls (.int x :: st) h) Q := G_unf rfl rfl
set_option maxRecDepth 100000 in
theorem g164_221 : G d 164 221 ls st h Q ↔ GN d 164 221 ls h (pRI st fun a i r => br (a = 1000003) (ck (inb i (hS h).1) (nx 222 ls (.int ((hS h).2 i.toNatClampNeg) :: r) h)) (ck (arr h a 10 ∧ inb i (hLn h a)) (nx 222 ls (.int (hI h a i.toNatClampNeg) :: r) h))) Q := G_unf rfl rfl
set_option maxRecDepth 100000 in
theorem g164_222 : G d 164 222 ls st h Q ↔ GN d 164 222 ls h (pA 1 st fun as r => ck (r.length ≤ 4) (cll 161 as r)) Q := G_unf rfl rfl
set_option maxRecDepth 100000 in
theorem g164_225 : G d 164 225 ls st h Q ↔ GN d 164 225 ls h (pI st fun x r => br (x = 0) (nx 334 ls r h) (nx 228 ls r h)) Q := G_unf rfl rfl
set_option maxRecDepth 100000 in
theorem g164_228 : G d 164 228 ls st h Q ↔ GN d 164 228 ls h (nx 243 ls st h) Q := G_unf rfl rfl
set_option maxRecDepth 100000 in
theorem g164_231 : G d 164 231 ls st h Q ↔ GN d 164 231 ls h (ldR ls 0 fun a => nx 232 ls (.ref a :: st) h) Q := G_unf rfl rfl
set_option maxRecDepth 100000 in
theorem g164_232 : G d 164 232 ls st h Q ↔ GN d 164 232 ls h (pR st fun a r => ck (arr h a 9) (nx 235 ls (rv (hR h a 0) :: r) h)) Q := G_unf rfl rfl
set_option maxRecDepth 100000 in
theorem g164_235 : G d 164 235 ls st h Q ↔ GN d 164 235 ls h (ldI ls 1 fun x => nx 236 ls (.int x :: st) h) Q := G_unf rfl rfl
set_option maxRecDepth 100000 in
theorem g164_236 : G d 164 236 ls st h Q ↔ GN d 164 236 ls h (pRI st fun a i r => br (a = 1000003) (ck (inb i (hS h).1) (nx 237 ls (.int ((hS h).2 i.toNatClampNeg) :: r) h)) (ck (arr h a 10 ∧ inb i (hLn h a)) (nx 237 ls (.int (hI h a i.toNatClampNeg) :: r) h))) Q := G_unf rfl rfl
set_option maxRecDepth 100000 in
theorem g164_237 : G d 164 237 ls st h Q ↔ GN d 164 237 ls h (pA 1 st fun as r => ck (r.length ≤ 4) (cll 162 as r)) Q := G_unf rfl rfl
set_option maxRecDepth 100000 in
theorem g164_240 : G d 164 240 ls st h Q ↔ GN d 164 240 ls h (pI st fun x r => br (x = 0) (nx 334 ls r h) (nx 243 ls r h)) Q := G_unf rfl rfl
set_option maxRecDepth 100000 in
theorem g164_243 : G d 164 243 ls st h Q ↔ GN d 164 243 ls h (ldI ls 5 fun x => nx 245 ls (.int x :: st) h) Q := G_unf rfl rfl
set_option maxRecDepth 100000 in
theorem g164_245 : G d 164 245 ls st h Q ↔ GN d 164 245 ls h (ldI ls 4 fun x => nx 247 ls (.int x :: st) h) Q := G_unf rfl rfl
set_option maxRecDepth 100000 in
theorem g164_247 : G d 164 247 ls st h Q ↔ GN d 164 247 ls h (pII st fun x y r => br (¬ x = y) (nx 263 ls r h) (nx 250 ls r h)) Q := G_unf rfl rfl
set_option maxRecDepth 100000 in
theorem g164_250 : G d 164 250 ls st h Q ↔ GN d 164 250 ls h (ldR ls 0 fun a => nx 251 ls (.ref a :: st) h) Q := G_unf rfl rfl
set_option maxRecDepth 100000 in
theorem g164_251 : G d 164 251 ls st h Q ↔ GN d 164 251 ls h (pR st fun a r => ck (arr h a 9) (nx 254 ls (.int (hI h a 12) :: r) h)) Q := G_unf rfl rfl
set_option maxRecDepth 100000 in
theorem g164_254 : G d 164 254 ls st h Q ↔ GN d 164 254 ls h (nx 255 ls (.int (-1) :: st) h) Q := G_unf rfl rfl
set_option maxRecDepth 100000 in
theorem g164_255 : G d 164 255 ls st h Q ↔ GN d 164 255 ls h (pII st fun x y r => br (¬ x = y) (nx 263 ls r h) (nx 258 ls r h)) Q := G_unf rfl rfl
set_option maxRecDepth 100000 in
theorem g164_258 : G d 164 258 ls st h Q ↔ GN d 164 258 ls h (ldR ls 0 fun a => nx 259 ls (.ref a :: st) h) Q := G_unf rfl rfl
set_option maxRecDepth 100000 in
theorem g164_259 : G d 164 259 ls st h Q ↔ GN d 164 259 ls h (ldI ls 1 fun x => nx 260 ls (.int x :: st) h) Q := G_unf rfl rfl
set_option maxRecDepth 100000 in
theorem g164_260 : G d 164 260 ls st h Q ↔ GN d 164 260 ls h (pRI st fun a x r => ck (arr h a 9) (nx 263 ls r (sI h a 12 x))) Q := G_unf rfl rfl
set_option maxRecDepth 100000 in
theorem g164_263 : G d 164 263 ls st h Q ↔ GN d 164 263 ls h (ldI ls 5 fun x => nx 265 ls (.int x :: st) h) Q := G_unf rfl rfl
set_option maxRecDepth 100000 in
theorem g164_265 : G d 164 265 ls st h Q ↔ GN d 164 265 ls h (nx 267 ls (.int (nI 8) :: st) h) Q := G_unf rfl rfl
set_option maxRecDepth 100000 in
theorem g164_267 : G d 164 267 ls st h Q ↔ GN d 164 267 ls h (pII st fun x y r => br (y ≤ x) (nx 293 ls r h) (nx 270 ls r h)) Q := G_unf rfl rfl
set_option maxRecDepth 100000 in
theorem g164_270 : G d 164 270 ls st h Q ↔ GN d 164 270 ls h (ldI ls 2 fun x => nx 271 ls (.int x :: st) h) Q := G_unf rfl rfl
set_option maxRecDepth 100000 in
theorem g164_271 : G d 164 271 ls st h Q ↔ GN d 164 271 ls h (pI st fun x r => br (x = 0) (nx 293 ls r h) (nx 274 ls r h)) Q := G_unf rfl rfl
set_option maxRecDepth 100000 in
theorem g164_274 : G d 164 274 ls st h Q ↔ GN d 164 274 ls h (ldR ls 0 fun a => nx 275 ls (.ref a :: st) h) Q := G_unf rfl rfl
set_option maxRecDepth 100000 in
theorem g164_275 : G d 164 275 ls st h Q ↔ GN d 164 275 ls h (ldR ls 0 fun a => nx 276 ls (.ref a :: st) h) Q := G_unf rfl rfl
set_option maxRecDepth 100000 in
theorem g164_276 : G d 164 276 ls st h Q ↔ GN d 164 276 ls h (pR st fun a r => ck (arr h a 9) (nx 279 ls (.long (hL h a 7) :: r) h)) Q := G_unf rfl rfl
set_option maxRecDepth 100000 in
theorem g164_279 : G d 164 279 ls st h Q ↔ GN d 164 279 ls h (nx 281 ls (.int (nI 8) :: st) h) Q := G_unf rfl rfl
set_option maxRecDepth 100000 in
theorem g164_281 : G d 164 281 ls st h Q ↔ GN d 164 281 ls h (pJI st fun x y r => nx 282 ls (.long (x <<< (y.toInt64 &&& 63)) :: r) h) Q := G_unf rfl rfl
set_option maxRecDepth 100000 in
theorem g164_282 : G d 164 282 ls st h Q ↔ GN d 164 282 ls h (ldR ls 0 fun a => nx 283 ls (.ref a :: st) h) Q := G_unf rfl rfl
set_option maxRecDepth 100000 in
theorem g164_283 : G d 164 283 ls st h Q ↔ GN d 164 283 ls h (pR st fun a r => ck (arr h a 9) (nx 286 ls (rv (hR h a 0) :: r) h)) Q := G_unf rfl rfl
set_option maxRecDepth 100000 in
theorem g164_286 : G d 164 286 ls st h Q ↔ GN d 164 286 ls h (ldI ls 1 fun x => nx 287 ls (.int x :: st) h) Q := G_unf rfl rfl
set_option maxRecDepth 100000 in
theorem g164_287 : G d 164 287 ls st h Q ↔ GN d 164 287 ls h (pRI st fun a i r => br (a = 1000003) (ck (inb i (hS h).1) (nx 288 ls (.int ((hS h).2 i.toNatClampNeg) :: r) h)) (ck (arr h a 10 ∧ inb i (hLn h a)) (nx 288 ls (.int (hI h a i.toNatClampNeg) :: r) h))) Q := G_unf rfl rfl
set_option maxRecDepth 100000 in
theorem g164_288 : G d 164 288 ls st h Q ↔ GN d 164 288 ls h (pI st fun x r => nx 289 ls (.long x.toInt64 :: r) h) Q := G_unf rfl rfl
set_option maxRecDepth 100000 in
theorem g164_289 : G d 164 289 ls st h Q ↔ GN d 164 289 ls h (pJJ st fun x y r => nx 290 ls (.long (x ||| y) :: r) h) Q := G_unf rfl rfl
set_option maxRecDepth 100000 in
theorem g164_290 : G d 164 290 ls st h Q ↔ GN d 164 290 ls h (pRJ st fun a x r => ck (arr h a 9) (nx 293 ls r (sL h a 7 x))) Q := G_unf rfl rfl
set_option maxRecDepth 100000 in
theorem g164_293 : G d 164 293 ls st h Q ↔ GN d 164 293 ls h (ldI ls 5 fun x => nx 295 ls (.int x :: st) h) Q := G_unf rfl rfl
set_option maxRecDepth 100000 in
theorem g164_295 : G d 164 295 ls st h Q ↔ GN d 164 295 ls h (ldI ls 4 fun x => nx 297 ls (.int x :: st) h) Q := G_unf rfl rfl
set_option maxRecDepth 100000 in
theorem g164_297 : G d 164 297 ls st h Q ↔ GN d 164 297 ls h (pII st fun x y r => br (y ≤ x) (nx 325 ls r h) (nx 300 ls r h)) Q := G_unf rfl rfl
set_option maxRecDepth 100000 in
theorem g164_300 : G d 164 300 ls st h Q ↔ GN d 164 300 ls h (ldI ls 3 fun x => nx 301 ls (.int x :: st) h) Q := G_unf rfl rfl
set_option maxRecDepth 100000 in
theorem g164_301 : G d 164 301 ls st h Q ↔ GN d 164 301 ls h (pI st fun x r => br (x = 0) (nx 325 ls r h) (nx 304 ls r h)) Q := G_unf rfl rfl
set_option maxRecDepth 100000 in
theorem g164_304 : G d 164 304 ls st h Q ↔ GN d 164 304 ls h (ldR ls 0 fun a => nx 305 ls (.ref a :: st) h) Q := G_unf rfl rfl
set_option maxRecDepth 100000 in
theorem g164_305 : G d 164 305 ls st h Q ↔ GN d 164 305 ls h (nx 307 ls (.int (nI 10) :: st) h) Q := G_unf rfl rfl
set_option maxRecDepth 100000 in
theorem g164_307 : G d 164 307 ls st h Q ↔ GN d 164 307 ls h (ldR ls 0 fun a => nx 308 ls (.ref a :: st) h) Q := G_unf rfl rfl
set_option maxRecDepth 100000 in
theorem g164_308 : G d 164 308 ls st h Q ↔ GN d 164 308 ls h (pR st fun a r => ck (arr h a 9) (nx 311 ls (.int (hI h a 6) :: r) h)) Q := G_unf rfl rfl
set_option maxRecDepth 100000 in
theorem g164_311 : G d 164 311 ls st h Q ↔ GN d 164 311 ls h (pII st fun x y r => nx 312 ls (.int (x * y) :: r) h) Q := G_unf rfl rfl
set_option maxRecDepth 100000 in
theorem g164_312 : G d 164 312 ls st h Q ↔ GN d 164 312 ls h (ldR ls 0 fun a => nx 313 ls (.ref a :: st) h) Q := G_unf rfl rfl
set_option maxRecDepth 100000 in
theorem g164_313 : G d 164 313 ls st h Q ↔ GN d 164 313 ls h (pR st fun a r => ck (arr h a 9) (nx 316 ls (rv (hR h a 0) :: r) h)) Q := G_unf rfl rfl
set_option maxRecDepth 100000 in
theorem g164_316 : G d 164 316 ls st h Q ↔ GN d 164 316 ls h (ldI ls 1 fun x => nx 317 ls (.int x :: st) h) Q := G_unf rfl rfl
set_option maxRecDepth 100000 in
theorem g164_317 : G d 164 317 ls st h Q ↔ GN d 164 317 ls h (pRI st fun a i r => br (a = 1000003) (ck (inb i (hS h).1) (nx 318 ls (.int ((hS h).2 i.toNatClampNeg) :: r) h)) (ck (arr h a 10 ∧ inb i (hLn h a)) (nx 318 ls (.int (hI h a i.toNatClampNeg) :: r) h))) Q := G_unf rfl rfl
set_option maxRecDepth 100000 in
theorem g164_318 : G d 164 318 ls st h Q ↔ GN d 164 318 ls h (pII st fun x y r => nx 319 ls (.int (x + y) :: r) h) Q := G_unf rfl rfl
set_option maxRecDepth 100000 in
theorem g164_319 : G d 164 319 ls st h Q ↔ GN d 164 319 ls h (nx 321 ls (.int (nI 48) :: st) h) Q := G_unf rfl rfl
set_option maxRecDepth 100000 in
theorem g164_321 : G d 164 321 ls st h Q ↔ GN d 164 321 ls h (pII st fun x y r => nx 322 ls (.int (x - y) :: r) h) Q := G_unf rfl rfl
set_option maxRecDepth 100000 in
theorem g164_322 : G d 164 322 ls st h Q ↔ GN d 164 322 ls h (pRI st fun a x r => ck (arr h a 9) (nx 325 ls r (sI h a 6 x))) Q := G_unf rfl rfl
set_option maxRecDepth 100000 in
theorem g164_325 : G d 164 325 ls st h Q ↔ GN d 164 325 ls h (ldI ls 5 fun x => nx 328 (st1 ls 5 (.int (x + (nI 1)))) st h) Q := G_unf rfl rfl
set_option maxRecDepth 100000 in
theorem g164_328 : G d 164 328 ls st h Q ↔ GN d 164 328 ls h (ldI ls 1 fun x => nx 331 (st1 ls 1 (.int (x + (nI 1)))) st h) Q := G_unf rfl rfl
set_option maxRecDepth 100000 in
theorem g164_331 : G d 164 331 ls st h Q ↔ GN d 164 331 ls h (nx 204 ls st h) Q := G_unf rfl rfl
set_option maxRecDepth 100000 in
theorem g164_334 : G d 164 334 ls st h Q ↔ GN d 164 334 ls h (ldR ls 0 fun a => nx 335 ls (.ref a :: st) h) Q := G_unf rfl rfl
set_option maxRecDepth 100000 in
theorem g164_335 : G d 164 335 ls st h Q ↔ GN d 164 335 ls h (ldI ls 1 fun x => nx 336 ls (.int x :: st) h) Q := G_unf rfl rfl
set_option maxRecDepth 100000 in
theorem g164_336 : G d 164 336 ls st h Q ↔ GN d 164 336 ls h (pRI st fun a x r => ck (arr h a 9) (nx 339 ls r (sI h a 5 x))) Q := G_unf rfl rfl
set_option maxRecDepth 100000 in
theorem g164_339 : G d 164 339 ls st h Q ↔ GN d 164 339 ls h (ldI ls 2 fun x => nx 340 ls (.int x :: st) h) Q := G_unf rfl rfl
set_option maxRecDepth 100000 in
theorem g164_340 : G d 164 340 ls st h Q ↔ GN d 164 340 ls h (pI st fun x r => br (x = 0) (nx 380 ls r h) (nx 343 ls r h)) Q := G_unf rfl rfl
set_option maxRecDepth 100000 in
theorem g164_343 : G d 164 343 ls st h Q ↔ GN d 164 343 ls h (ldI ls 5 fun x => nx 345 ls (.int x :: st) h) Q := G_unf rfl rfl
set_option maxRecDepth 100000 in
theorem g164_345 : G d 164 345 ls st h Q ↔ GN d 164 345 ls h (nx 347 ls (.int (nI 8) :: st) h) Q := G_unf rfl rfl
set_option maxRecDepth 100000 in
theorem g164_347 : G d 164 347 ls st h Q ↔ GN d 164 347 ls h (pII st fun x y r => br (y < x) (nx 380 ls r h) (nx 350 ls r h)) Q := G_unf rfl rfl
set_option maxRecDepth 100000 in
theorem g164_350 : G d 164 350 ls st h Q ↔ GN d 164 350 ls h (ldR ls 0 fun a => nx 351 ls (.ref a :: st) h) Q := G_unf rfl rfl
set_option maxRecDepth 100000 in
theorem g164_351 : G d 164 351 ls st h Q ↔ GN d 164 351 ls h (pR st fun a r => ck (arr h a 9) (nx 354 ls (.int (hI h a 12) :: r) h)) Q := G_unf rfl rfl
set_option maxRecDepth 100000 in
theorem g164_354 : G d 164 354 ls st h Q ↔ GN d 164 354 ls h (ldR ls 0 fun a => nx 355 ls (.ref a :: st) h) Q := G_unf rfl rfl
set_option maxRecDepth 100000 in
theorem g164_355 : G d 164 355 ls st h Q ↔ GN d 164 355 ls h (pR st fun a r => ck (arr h a 9) (nx 358 ls (.int (hI h a 4) :: r) h)) Q := G_unf rfl rfl
set_option maxRecDepth 100000 in
theorem g164_358 : G d 164 358 ls st h Q ↔ GN d 164 358 ls h (ldI ls 4 fun x => nx 360 ls (.int x :: st) h) Q := G_unf rfl rfl
set_option maxRecDepth 100000 in
theorem g164_360 : G d 164 360 ls st h Q ↔ GN d 164 360 ls h (pII st fun x y r => nx 361 ls (.int (x + y) :: r) h) Q := G_unf rfl rfl
set_option maxRecDepth 100000 in
theorem g164_361 : G d 164 361 ls st h Q ↔ GN d 164 361 ls h (pII st fun x y r => br (¬ x = y) (nx 380 ls r h) (nx 364 ls r h)) Q := G_unf rfl rfl
set_option maxRecDepth 100000 in
theorem g164_364 : G d 164 364 ls st h Q ↔ GN d 164 364 ls h (ldR ls 0 fun a => nx 365 ls (.ref a :: st) h) Q := G_unf rfl rfl
set_option maxRecDepth 100000 in
theorem g164_365 : G d 164 365 ls st h Q ↔ GN d 164 365 ls h (ldR ls 0 fun a => nx 366 ls (.ref a :: st) h) Q := G_unf rfl rfl
set_option maxRecDepth 100000 in
theorem g164_366 : G d 164 366 ls st h Q ↔ GN d 164 366 ls h (pR st fun a r => ck (arr h a 9) (nx 369 ls (.long (hL h a 7) :: r) h)) Q := G_unf rfl rfl
set_option maxRecDepth 100000 in
theorem g164_369 : G d 164 369 ls st h Q ↔ GN d 164 369 ls h (pA 1 st fun as r => pR r fun a r => ck (r.length ≤ 4 ∧ arr h a 9) (cll 168 (.ref a :: as) r)) Q := G_unf rfl rfl
set_option maxRecDepth 100000 in
theorem g164_372 : G d 164 372 ls st h Q ↔ GN d 164 372 ls h (pI st fun x r => br (x = 0) (nx 380 ls r h) (nx 375 ls r h)) Q := G_unf rfl rfl
set_option maxRecDepth 100000 in
theorem g164_375 : G d 164 375 ls st h Q ↔ GN d 164 375 ls h (ldR ls 0 fun a => nx 376 ls (.ref a :: st) h) Q := G_unf rfl rfl
set_option maxRecDepth 100000 in
theorem g164_376 : G d 164 376 ls st h Q ↔ GN d 164 376 ls h (nx 377 ls (.int (-1) :: st) h) Q := G_unf rfl rfl
set_option maxRecDepth 100000 in
theorem g164_377 : G d 164 377 ls st h Q ↔ GN d 164 377 ls h (pRI st fun a x r => ck (arr h a 9) (nx 380 ls r (sI h a 12 x))) Q := G_unf rfl rfl
set_option maxRecDepth 100000 in
theorem g164_380 : G d 164 380 ls st h Q ↔ GN d 164 380 ls h (pE st (rtn none)) Q := G_unf rfl rfl
theorem g165_0 : G d 165 0 ls st h Q ↔ GN d 165 0 ls h (ldR ls 0 fun a => nx 1 ls (.ref a :: st) h) Q := G_unf rfl rfl
theorem g165_1 : G d 165 1 ls st h Q ↔ GN d 165 1 ls h (pR st fun a r => ck (arr h a 9) (nx 4 ls (.int (hI h a 3) :: r) h)) Q := G_unf rfl rfl
theorem g165_4 : G d 165 4 ls st h Q ↔ GN d 165 4 ls h (nx 5 ls (.int (nI 3) :: st) h) Q := G_unf rfl rfl
theorem g165_5 : G d 165 5 ls st h Q ↔ GN d 165 5 ls h (pII st fun x y r => br (¬ x = y) (nx 20 ls r h) (nx 8 ls r h)) Q := G_unf rfl rfl
theorem g165_8 : G d 165 8 ls st h Q ↔ GN d 165 8 ls h (ldR ls 0 fun a => nx 9 ls (.ref a :: st) h) Q := G_unf rfl rfl
theorem g165_9 : G d 165 9 ls st h Q ↔ GN d 165 9 ls h (pR st fun a r => ck (arr h a 9) (nx 12 ls (.int (hI h a 6) :: r) h)) Q := G_unf rfl rfl
theorem g165_12 : G d 165 12 ls st h Q ↔ GN d 165 12 ls h (ldI ls 1 fun x => nx 13 ls (.int x :: st) h) Q := G_unf rfl rfl
theorem g165_13 : G d 165 13 ls st h Q ↔ GN d 165 13 ls h (pII st fun x y r => br (¬ x = y) (nx 20 ls r h) (nx 16 ls r h)) Q := G_unf rfl rfl
theorem g165_16 : G d 165 16 ls st h Q ↔ GN d 165 16 ls h (nx 17 ls (.int (nI 1) :: st) h) Q := G_unf rfl rfl
theorem g165_17 : G d 165 17 ls st h Q ↔ GN d 165 17 ls h (nx 21 ls st h) Q := G_unf rfl rfl
theorem g165_20 : G d 165 20 ls st h Q ↔ GN d 165 20 ls h (nx 21 ls (.int (nI 0) :: st) h) Q := G_unf rfl rfl
theorem g165_21 : G d 165 21 ls st h Q ↔ GN d 165 21 ls h (pIe st fun x => ck (x = 0 ∨ x = 1) (rtn (some (.int x)))) Q := G_unf rfl rfl
theorem g166_0 : G d 166 0 ls st h Q ↔ GN d 166 0 ls h (ldR ls 0 fun a => nx 1 ls (.ref a :: st) h) Q := G_unf rfl rfl
theorem g166_1 : G d 166 1 ls st h Q ↔ GN d 166 1 ls h (pR st fun a r => ck (arr h a 9) (nx 4 ls (.int (hI h a 3) :: r) h)) Q := G_unf rfl rfl
theorem g166_4 : G d 166 4 ls st h Q ↔ GN d 166 4 ls h (nx 5 ls (.int (nI 1) :: st) h) Q := G_unf rfl rfl
theorem g166_5 : G d 166 5 ls st h Q ↔ GN d 166 5 ls h (pII st fun x y r => br (¬ x = y) (nx 21 ls r h) (nx 8 ls r h)) Q := G_unf rfl rfl
theorem g166_8 : G d 166 8 ls st h Q ↔ GN d 166 8 ls h (ldR ls 0 fun a => nx 9 ls (.ref a :: st) h) Q := G_unf rfl rfl
theorem g166_9 : G d 166 9 ls st h Q ↔ GN d 166 9 ls h (pR st fun a r => ck (arr h a 9) (nx 12 ls (.long (hL h a 7) :: r) h)) Q := G_unf rfl rfl
theorem g166_12 : G d 166 12 ls st h Q ↔ GN d 166 12 ls h (ldJ ls 1 fun x => nx 13 ls (.long x :: st) h) Q := G_unf rfl rfl
theorem g166_13 : G d 166 13 ls st h Q ↔ GN d 166 13 ls h (pJJ st fun x y r => nx 14 ls (.int (lg_cmp x y) :: r) h) Q := G_unf rfl rfl
theorem g166_14 : G d 166 14 ls st h Q ↔ GN d 166 14 ls h (pI st fun x r => br (¬ x = 0) (nx 21 ls r h) (nx 17 ls r h)) Q := G_unf rfl rfl
theorem g166_17 : G d 166 17 ls st h Q ↔ GN d 166 17 ls h (nx 18 ls (.int (nI 1) :: st) h) Q := G_unf rfl rfl
theorem g166_18 : G d 166 18 ls st h Q ↔ GN d 166 18 ls h (nx 22 ls st h) Q := G_unf rfl rfl
theorem g166_21 : G d 166 21 ls st h Q ↔ GN d 166 21 ls h (nx 22 ls (.int (nI 0) :: st) h) Q := G_unf rfl rfl
theorem g166_22 : G d 166 22 ls st h Q ↔ GN d 166 22 ls h (pIe st fun x => ck (x = 0 ∨ x = 1) (rtn (some (.int x)))) Q := G_unf rfl rfl
theorem g167_0 : G d 167 0 ls st h Q ↔ GN d 167 0 ls h (ldR ls 0 fun a => nx 1 ls (.ref a :: st) h) Q := G_unf rfl rfl
theorem g167_1 : G d 167 1 ls st h Q ↔ GN d 167 1 ls h (pA 0 st fun as r => pR r fun a r => ck (r.length ≤ 4 ∧ arr h a 9) (cll 163 (.ref a :: as) r)) Q := G_unf rfl rfl
theorem g167_4 : G d 167 4 ls st h Q ↔ GN d 167 4 ls h (ldR ls 0 fun a => nx 5 ls (.ref a :: st) h) Q := G_unf rfl rfl
theorem g167_5 : G d 167 5 ls st h Q ↔ GN d 167 5 ls h (ldI ls 1 fun x => nx 6 ls (.int x :: st) h) Q := G_unf rfl rfl
theorem g167_6 : G d 167 6 ls st h Q ↔ GN d 167 6 ls h (pA 1 st fun as r => pR r fun a r => ck (r.length ≤ 4 ∧ arr h a 9) (cll 165 (.ref a :: as) r)) Q := G_unf rfl rfl
theorem g167_9 : G d 167 9 ls st h Q ↔ GN d 167 9 ls h (pI st fun x r => br (¬ x = 0) (nx 21 ls r h) (nx 12 ls r h)) Q := G_unf rfl rfl
theorem g167_12 : G d 167 12 ls st h Q ↔ GN d 167 12 ls h (ldR ls 0 fun a => nx 13 ls (.ref a :: st) h) Q := G_unf rfl rfl
theorem g167_13 : G d 167 13 ls st h Q ↔ GN d 167 13 ls h (nx 14 ls (.int (nI 1) :: st) h) Q := G_unf rfl rfl
theorem g167_14 : G d 167 14 ls st h Q ↔ GN d 167 14 ls h (ldR ls 0 fun a => nx 15 ls (.ref a :: st) h) Q := G_unf rfl rfl
theorem g167_15 : G d 167 15 ls st h Q ↔ GN d 167 15 ls h (pR st fun a r => ck (arr h a 9) (nx 18 ls (.int (hI h a 4) :: r) h)) Q := G_unf rfl rfl
theorem g167_18 : G d 167 18 ls st h Q ↔ GN d 167 18 ls h (pA 2 st fun as r => pR r fun a r => ck (r.length ≤ 4 ∧ arr h a 9) (cll 160 (.ref a :: as) r)) Q := G_unf rfl rfl
theorem g167_21 : G d 167 21 ls st h Q ↔ GN d 167 21 ls h (ldR ls 0 fun a => nx 22 ls (.ref a :: st) h) Q := G_unf rfl rfl
theorem g167_22 : G d 167 22 ls st h Q ↔ GN d 167 22 ls h (pR st fun a r => ck (arr h a 9) (nx 25 ls (.int (hI h a 8) :: r) h)) Q := G_unf rfl rfl
theorem g167_25 : G d 167 25 ls st h Q ↔ GN d 167 25 ls h (pI st fun x r => br (¬ x = 0) (nx 32 ls r h) (nx 28 ls r h)) Q := G_unf rfl rfl
theorem g167_28 : G d 167 28 ls st h Q ↔ GN d 167 28 ls h (ldR ls 0 fun a => nx 29 ls (.ref a :: st) h) Q := G_unf rfl rfl
theorem g167_29 : G d 167 29 ls st h Q ↔ GN d 167 29 ls h (pA 0 st fun as r => pR r fun a r => ck (r.length ≤ 4 ∧ arr h a 9) (cll 164 (.ref a :: as) r)) Q := G_unf rfl rfl
theorem g167_32 : G d 167 32 ls st h Q ↔ GN d 167 32 ls h (pE st (rtn none)) Q := G_unf rfl rfl
theorem g168_0 : G d 168 0 ls st h Q ↔ GN d 168 0 ls h (ldJ ls 1 fun x => nx 1 ls (.long x :: st) h) Q := G_unf rfl rfl
theorem g168_1 : G d 168 1 ls st h Q ↔ GN d 168 1 ls h (nx 4 ls (.long (lN 1717658484) :: st) h) Q := G_unf rfl rfl
theorem g168_4 : G d 168 4 ls st h Q ↔ GN d 168 4 ls h (pJJ st fun x y r => nx 5 ls (.int (lg_cmp x y) :: r) h) Q := G_unf rfl rfl
theorem g168_5 : G d 168 5 ls st h Q ↔ GN d 168 5 ls h (pI st fun x r => br (x = 0) (nx 40 ls r h) (nx 8 ls r h)) Q := G_unf rfl rfl
theorem g168_8 : G d 168 8 ls st h Q ↔ GN d 168 8 ls h (ldJ ls 1 fun x => nx 9 ls (.long x :: st) h) Q := G_unf rfl rfl
theorem g168_9 : G d 168 9 ls st h Q ↔ GN d 168 9 ls h (nx 12 ls (.long (lN 6578553) :: st) h) Q := G_unf rfl rfl
theorem g168_12 : G d 168 12 ls st h Q ↔ GN d 168 12 ls h (pJJ st fun x y r => nx 13 ls (.int (lg_cmp x y) :: r) h) Q := G_unf rfl rfl
theorem g168_13 : G d 168 13 ls st h Q ↔ GN d 168 13 ls h (pI st fun x r => br (x = 0) (nx 40 ls r h) (nx 16 ls r h)) Q := G_unf rfl rfl
theorem g168_16 : G d 168 16 ls st h Q ↔ GN d 168 16 ls h (ldJ ls 1 fun x => nx 17 ls (.long x :: st) h) Q := G_unf rfl rfl
theorem g168_17 : G d 168 17 ls st h Q ↔ GN d 168 17 ls h (nx 20 ls (.long (lN 512970880104) :: st) h) Q := G_unf rfl rfl
theorem g168_20 : G d 168 20 ls st h Q ↔ GN d 168 20 ls h (pJJ st fun x y r => nx 21 ls (.int (lg_cmp x y) :: r) h) Q := G_unf rfl rfl
theorem g168_21 : G d 168 21 ls st h Q ↔ GN d 168 21 ls h (pI st fun x r => br (x = 0) (nx 40 ls r h) (nx 24 ls r h)) Q := G_unf rfl rfl
theorem g168_24 : G d 168 24 ls st h Q ↔ GN d 168 24 ls h (ldJ ls 1 fun x => nx 25 ls (.long x :: st) h) Q := G_unf rfl rfl
theorem g168_25 : G d 168 25 ls st h Q ↔ GN d 168 25 ls h (nx 28 ls (.long (lN 1920298085) :: st) h) Q := G_unf rfl rfl
theorem g168_28 : G d 168 28 ls st h Q ↔ GN d 168 28 ls h (pJJ st fun x y r => nx 29 ls (.int (lg_cmp x y) :: r) h) Q := G_unf rfl rfl
theorem g168_29 : G d 168 29 ls st h Q ↔ GN d 168 29 ls h (pI st fun x r => br (x = 0) (nx 40 ls r h) (nx 32 ls r h)) Q := G_unf rfl rfl
theorem g168_32 : G d 168 32 ls st h Q ↔ GN d 168 32 ls h (ldJ ls 1 fun x => nx 33 ls (.long x :: st) h) Q := G_unf rfl rfl
theorem g168_33 : G d 168 33 ls st h Q ↔ GN d 168 33 ls h (nx 36 ls (.long (lN 1718775661) :: st) h) Q := G_unf rfl rfl
theorem g168_36 : G d 168 36 ls st h Q ↔ GN d 168 36 ls h (pJJ st fun x y r => nx 37 ls (.int (lg_cmp x y) :: r) h) Q := G_unf rfl rfl
theorem g168_37 : G d 168 37 ls st h Q ↔ GN d 168 37 ls h (pI st fun x r => br (¬ x = 0) (nx 42 ls r h) (nx 40 ls r h)) Q := G_unf rfl rfl
theorem g168_40 : G d 168 40 ls st h Q ↔ GN d 168 40 ls h (nx 41 ls (.int (nI 1) :: st) h) Q := G_unf rfl rfl
theorem g168_41 : G d 168 41 ls st h Q ↔ GN d 168 41 ls h (pIe st fun x => ck (x = 0 ∨ x = 1) (rtn (some (.int x)))) Q := G_unf rfl rfl
theorem g168_42 : G d 168 42 ls st h Q ↔ GN d 168 42 ls h (ldJ ls 1 fun x => nx 43 ls (.long x :: st) h) Q := G_unf rfl rfl
theorem g168_43 : G d 168 43 ls st h Q ↔ GN d 168 43 ls h (nx 46 ls (.long (lN 123581014175598) :: st) h) Q := G_unf rfl rfl
theorem g168_46 : G d 168 46 ls st h Q ↔ GN d 168 46 ls h (pJJ st fun x y r => nx 47 ls (.int (lg_cmp x y) :: r) h) Q := G_unf rfl rfl
theorem g168_47 : G d 168 47 ls st h Q ↔ GN d 168 47 ls h (pI st fun x r => br (x = 0) (nx 82 ls r h) (nx 50 ls r h)) Q := G_unf rfl rfl
theorem g168_50 : G d 168 50 ls st h Q ↔ GN d 168 50 ls h (ldJ ls 1 fun x => nx 51 ls (.long x :: st) h) Q := G_unf rfl rfl
theorem g168_51 : G d 168 51 ls st h Q ↔ GN d 168 51 ls h (nx 54 ls (.long (lN 126943972648308) :: st) h) Q := G_unf rfl rfl
theorem g168_54 : G d 168 54 ls st h Q ↔ GN d 168 54 ls h (pJJ st fun x y r => nx 55 ls (.int (lg_cmp x y) :: r) h) Q := G_unf rfl rfl
theorem g168_55 : G d 168 55 ls st h Q ↔ GN d 168 55 ls h (pI st fun x r => br (x = 0) (nx 82 ls r h) (nx 58 ls r h)) Q := G_unf rfl rfl
theorem g168_58 : G d 168 58 ls st h Q ↔ GN d 168 58 ls h (ldJ ls 1 fun x => nx 59 ls (.long x :: st) h) Q := G_unf rfl rfl
theorem g168_59 : G d 168 59 ls st h Q ↔ GN d 168 59 ls h (nx 62 ls (.long (lN 483006772069) :: st) h) Q := G_unf rfl rfl
theorem g168_62 : G d 168 62 ls st h Q ↔ GN d 168 62 ls h (pJJ st fun x y r => nx 63 ls (.int (lg_cmp x y) :: r) h) Q := G_unf rfl rfl
theorem g168_63 : G d 168 63 ls st h Q ↔ GN d 168 63 ls h (pI st fun x r => br (x = 0) (nx 82 ls r h) (nx 66 ls r h)) Q := G_unf rfl rfl
theorem g168_66 : G d 168 66 ls st h Q ↔ GN d 168 66 ls h (ldJ ls 1 fun x => nx 67 ls (.long x :: st) h) Q := G_unf rfl rfl
theorem g168_67 : G d 168 67 ls st h Q ↔ GN d 168 67 ls h (nx 70 ls (.long (lN 469852583027) :: st) h) Q := G_unf rfl rfl
theorem g168_70 : G d 168 70 ls st h Q ↔ GN d 168 70 ls h (pJJ st fun x y r => nx 71 ls (.int (lg_cmp x y) :: r) h) Q := G_unf rfl rfl
theorem g168_71 : G d 168 71 ls st h Q ↔ GN d 168 71 ls h (pI st fun x r => br (x = 0) (nx 82 ls r h) (nx 74 ls r h)) Q := G_unf rfl rfl
theorem g168_74 : G d 168 74 ls st h Q ↔ GN d 168 74 ls h (ldJ ls 1 fun x => nx 75 ls (.long x :: st) h) Q := G_unf rfl rfl
theorem g168_75 : G d 168 75 ls st h Q ↔ GN d 168 75 ls h (nx 78 ls (.long (lN 28526) :: st) h) Q := G_unf rfl rfl
theorem g168_78 : G d 168 78 ls st h Q ↔ GN d 168 78 ls h (pJJ st fun x y r => nx 79 ls (.int (lg_cmp x y) :: r) h) Q := G_unf rfl rfl
theorem g168_79 : G d 168 79 ls st h Q ↔ GN d 168 79 ls h (pI st fun x r => br (¬ x = 0) (nx 84 ls r h) (nx 82 ls r h)) Q := G_unf rfl rfl
theorem g168_82 : G d 168 82 ls st h Q ↔ GN d 168 82 ls h (nx 83 ls (.int (nI 1) :: st) h) Q := G_unf rfl rfl
theorem g168_83 : G d 168 83 ls st h Q ↔ GN d 168 83 ls h (pIe st fun x => ck (x = 0 ∨ x = 1) (rtn (some (.int x)))) Q := G_unf rfl rfl
theorem g168_84 : G d 168 84 ls st h Q ↔ GN d 168 84 ls h (ldJ ls 1 fun x => nx 85 ls (.long x :: st) h) Q := G_unf rfl rfl
theorem g168_85 : G d 168 85 ls st h Q ↔ GN d 168 85 ls h (nx 88 ls (.long (lN 30515173109162853) :: st) h) Q := G_unf rfl rfl
theorem g168_88 : G d 168 88 ls st h Q ↔ GN d 168 88 ls h (pJJ st fun x y r => nx 89 ls (.int (lg_cmp x y) :: r) h) Q := G_unf rfl rfl
theorem g168_89 : G d 168 89 ls st h Q ↔ GN d 168 89 ls h (pI st fun x r => br (x = 0) (nx 124 ls r h) (nx 92 ls r h)) Q := G_unf rfl rfl
theorem g168_92 : G d 168 92 ls st h Q ↔ GN d 168 92 ls h (ldJ ls 1 fun x => nx 93 ls (.long x :: st) h) Q := G_unf rfl rfl
theorem g168_93 : G d 168 93 ls st h Q ↔ GN d 168 93 ls h (nx 96 ls (.long (lN 1953066092) :: st) h) Q := G_unf rfl rfl
theorem g168_96 : G d 168 96 ls st h Q ↔ GN d 168 96 ls h (pJJ st fun x y r => nx 97 ls (.int (lg_cmp x y) :: r) h) Q := G_unf rfl rfl
theorem g168_97 : G d 168 97 ls st h Q ↔ GN d 168 97 ls h (pI st fun x r => br (x = 0) (nx 124 ls r h) (nx 100 ls r h)) Q := G_unf rfl rfl
theorem g168_100 : G d 168 100 ls st h Q ↔ GN d 168 100 ls h (ldJ ls 1 fun x => nx 101 ls (.long x :: st) h) Q := G_unf rfl rfl
theorem g168_101 : G d 168 101 ls st h Q ↔ GN d 168 101 ls h (nx 104 ls (.long (lN 482955846501) :: st) h) Q := G_unf rfl rfl
theorem g168_104 : G d 168 104 ls st h Q ↔ GN d 168 104 ls h (pJJ st fun x y r => nx 105 ls (.int (lg_cmp x y) :: r) h) Q := G_unf rfl rfl
theorem g168_105 : G d 168 105 ls st h Q ↔ GN d 168 105 ls h (pI st fun x r => br (x = 0) (nx 124 ls r h) (nx 108 ls r h)) Q := G_unf rfl rfl
theorem g168_108 : G d 168 108 ls st h Q ↔ GN d 168 108 ls h (ldJ ls 1 fun x => nx 109 ls (.long x :: st) h) Q := G_unf rfl rfl
theorem g168_109 : G d 168 109 ls st h Q ↔ GN d 168 109 ls h (nx 112 ls (.long (lN 499917810803) :: st) h) Q := G_unf rfl rfl
theorem g168_112 : G d 168 112 ls st h Q ↔ GN d 168 112 ls h (pJJ st fun x y r => nx 113 ls (.int (lg_cmp x y) :: r) h) Q := G_unf rfl rfl
theorem g168_113 : G d 168 113 ls st h Q ↔ GN d 168 113 ls h (pI st fun x r => br (x = 0) (nx 124 ls r h) (nx 116 ls r h)) Q := G_unf rfl rfl
theorem g168_116 : G d 168 116 ls st h Q ↔ GN d 168 116 ls h (ldJ ls 1 fun x => nx 117 ls (.long x :: st) h) Q := G_unf rfl rfl
theorem g168_117 : G d 168 117 ls st h Q ↔ GN d 168 117 ls h (nx 120 ls (.long (lN 495874696043) :: st) h) Q := G_unf rfl rfl
theorem g168_120 : G d 168 120 ls st h Q ↔ GN d 168 120 ls h (pJJ st fun x y r => nx 121 ls (.int (lg_cmp x y) :: r) h) Q := G_unf rfl rfl
theorem g168_121 : G d 168 121 ls st h Q ↔ GN d 168 121 ls h (pI st fun x r => br (¬ x = 0) (nx 126 ls r h) (nx 124 ls r h)) Q := G_unf rfl rfl
theorem g168_124 : G d 168 124 ls st h Q ↔ GN d 168 124 ls h (nx 125 ls (.int (nI 1) :: st) h) Q := G_unf rfl rfl
theorem g168_125 : G d 168 125 ls st h Q ↔ GN d 168 125 ls h (pIe st fun x => ck (x = 0 ∨ x = 1) (rtn (some (.int x)))) Q := G_unf rfl rfl
theorem g168_126 : G d 168 126 ls st h Q ↔ GN d 168 126 ls h (ldJ ls 1 fun x => nx 127 ls (.long x :: st) h) Q := G_unf rfl rfl
theorem g168_127 : G d 168 127 ls st h Q ↔ GN d 168 127 ls h (nx 130 ls (.long (lN 478694368626) :: st) h) Q := G_unf rfl rfl
theorem g168_130 : G d 168 130 ls st h Q ↔ GN d 168 130 ls h (pJJ st fun x y r => nx 131 ls (.int (lg_cmp x y) :: r) h) Q := G_unf rfl rfl
theorem g168_131 : G d 168 131 ls st h Q ↔ GN d 168 131 ls h (pI st fun x r => br (x = 0) (nx 166 ls r h) (nx 134 ls r h)) Q := G_unf rfl rfl
theorem g168_134 : G d 168 134 ls st h Q ↔ GN d 168 134 ls h (ldJ ls 1 fun x => nx 135 ls (.long x :: st) h) Q := G_unf rfl rfl
theorem g168_135 : G d 168 135 ls st h Q ↔ GN d 168 135 ls h (nx 138 ls (.long (lN 1818584692) :: st) h) Q := G_unf rfl rfl
theorem g168_138 : G d 168 138 ls st h Q ↔ GN d 168 138 ls h (pJJ st fun x y r => nx 139 ls (.int (lg_cmp x y) :: r) h) Q := G_unf rfl rfl
theorem g168_139 : G d 168 139 ls st h Q ↔ GN d 168 139 ls h (pI st fun x r => br (x = 0) (nx 166 ls r h) (nx 142 ls r h)) Q := G_unf rfl rfl
theorem g168_142 : G d 168 142 ls st h Q ↔ GN d 168 142 ls h (ldJ ls 1 fun x => nx 143 ls (.long x :: st) h) Q := G_unf rfl rfl
theorem g168_143 : G d 168 143 ls st h Q ↔ GN d 168 143 ls h (nx 146 ls (.long (lN 1684109683) :: st) h) Q := G_unf rfl rfl
theorem g168_146 : G d 168 146 ls st h Q ↔ GN d 168 146 ls h (pJJ st fun x y r => nx 147 ls (.int (lg_cmp x y) :: r) h) Q := G_unf rfl rfl
theorem g168_147 : G d 168 147 ls st h Q ↔ GN d 168 147 ls h (pI st fun x r => br (x = 0) (nx 166 ls r h) (nx 150 ls r h)) Q := G_unf rfl rfl
theorem g168_150 : G d 168 150 ls st h Q ↔ GN d 168 150 ls h (ldJ ls 1 fun x => nx 151 ls (.long x :: st) h) Q := G_unf rfl rfl
theorem g168_151 : G d 168 151 ls st h Q ↔ GN d 168 151 ls h (nx 154 ls (.long (lN 448545973363) :: st) h) Q := G_unf rfl rfl
theorem g168_154 : G d 168 154 ls st h Q ↔ GN d 168 154 ls h (pJJ st fun x y r => nx 155 ls (.int (lg_cmp x y) :: r) h) Q := G_unf rfl rfl
set_option maxRecDepth 100000 in
theorem g168_155 : G d 168 155 ls st h Q ↔ GN d 168 155 ls h (pI st fun x r => br (x = 0) (nx 166 ls r h) (nx 158 ls r h)) Q := G_unf rfl rfl
set_option maxRecDepth 100000 in
theorem g168_158 : G d 168 158 ls st h Q ↔ GN d 168 158 ls h (ldJ ls 1 fun x => nx 159 ls (.long x :: st) h) Q := G_unf rfl rfl
set_option maxRecDepth 100000 in
theorem g168_159 : G d 168 159 ls st h Q ↔ GN d 168 159 ls h (nx 162 ls (.long (lN 461414299507) :: st) h) Q := G_unf rfl rfl
set_option maxRecDepth 100000 in
theorem g168_162 : G d 168 162 ls st h Q ↔ GN d 168 162 ls h (pJJ st fun x y r => nx 163 ls (.int (lg_cmp x y) :: r) h) Q := G_unf rfl rfl
set_option maxRecDepth 100000 in
theorem g168_163 : G d 168 163 ls st h Q ↔ GN d 168 163 ls h (pI st fun x r => br (¬ x = 0) (nx 168 ls r h) (nx 166 ls r h)) Q := G_unf rfl rfl
set_option maxRecDepth 100000 in
theorem g168_166 : G d 168 166 ls st h Q ↔ GN d 168 166 ls h (nx 167 ls (.int (nI 1) :: st) h) Q := G_unf rfl rfl
set_option maxRecDepth 100000 in
theorem g168_167 : G d 168 167 ls st h Q ↔ GN d 168 167 ls h (pIe st fun x => ck (x = 0 ∨ x = 1) (rtn (some (.int x)))) Q := G_unf rfl rfl
set_option maxRecDepth 100000 in
theorem g168_168 : G d 168 168 ls st h Q ↔ GN d 168 168 ls h (ldJ ls 1 fun x => nx 169 ls (.long x :: st) h) Q := G_unf rfl rfl
set_option maxRecDepth 100000 in
theorem g168_169 : G d 168 169 ls st h Q ↔ GN d 168 169 ls h (nx 172 ls (.long (lN 28530) :: st) h) Q := G_unf rfl rfl
set_option maxRecDepth 100000 in
theorem g168_172 : G d 168 172 ls st h Q ↔ GN d 168 172 ls h (pJJ st fun x y r => nx 173 ls (.int (lg_cmp x y) :: r) h) Q := G_unf rfl rfl
set_option maxRecDepth 100000 in
theorem g168_173 : G d 168 173 ls st h Q ↔ GN d 168 173 ls h (pI st fun x r => br (x = 0) (nx 208 ls r h) (nx 176 ls r h)) Q := G_unf rfl rfl
set_option maxRecDepth 100000 in
theorem g168_176 : G d 168 176 ls st h Q ↔ GN d 168 176 ls h (ldJ ls 1 fun x => nx 177 ls (.long x :: st) h) Q := G_unf rfl rfl
set_option maxRecDepth 100000 in
theorem g168_177 : G d 168 177 ls st h Q ↔ GN d 168 177 ls h (nx 180 ls (.long (lN 6385252) :: st) h) Q := G_unf rfl rfl
set_option maxRecDepth 100000 in
theorem g168_180 : G d 168 180 ls st h Q ↔ GN d 168 180 ls h (pJJ st fun x y r => nx 181 ls (.int (lg_cmp x y) :: r) h) Q := G_unf rfl rfl
set_option maxRecDepth 100000 in
theorem g168_181 : G d 168 181 ls st h Q ↔ GN d 168 181 ls h (pI st fun x r => br (x = 0) (nx 208 ls r h) (nx 184 ls r h)) Q := G_unf rfl rfl
set_option maxRecDepth 100000 in
theorem g168_184 : G d 168 184 ls st h Q ↔ GN d 168 184 ls h (ldJ ls 1 fun x => nx 185 ls (.long x :: st) h) Q := G_unf rfl rfl
set_option maxRecDepth 100000 in
theorem g168_185 : G d 168 185 ls st h Q ↔ GN d 168 185 ls h (nx 188 ls (.long (lN 7237492) :: st) h) Q := G_unf rfl rfl
set_option maxRecDepth 100000 in
theorem g168_188 : G d 168 188 ls st h Q ↔ GN d 168 188 ls h (pJJ st fun x y r => nx 189 ls (.int (lg_cmp x y) :: r) h) Q := G_unf rfl rfl
set_option maxRecDepth 100000 in
theorem g168_189 : G d 168 189 ls st h Q ↔ GN d 168 189 ls h (pI st fun x r => br (x = 0) (nx 208 ls r h) (nx 192 ls r h)) Q := G_unf rfl rfl
set_option maxRecDepth 100000 in
theorem g168_192 : G d 168 192 ls st h Q ↔ GN d 168 192 ls h (ldJ ls 1 fun x => nx 193 ls (.long x :: st) h) Q := G_unf rfl rfl
set_option maxRecDepth 100000 in
theorem g168_193 : G d 168 193 ls st h Q ↔ GN d 168 193 ls h (nx 196 ls (.long (lN 6384748) :: st) h) Q := G_unf rfl rfl
set_option maxRecDepth 100000 in
theorem g168_196 : G d 168 196 ls st h Q ↔ GN d 168 196 ls h (pJJ st fun x y r => nx 197 ls (.int (lg_cmp x y) :: r) h) Q := G_unf rfl rfl
set_option maxRecDepth 100000 in
theorem g168_197 : G d 168 197 ls st h Q ↔ GN d 168 197 ls h (pI st fun x r => br (x = 0) (nx 208 ls r h) (nx 200 ls r h)) Q := G_unf rfl rfl
set_option maxRecDepth 100000 in
theorem g168_200 : G d 168 200 ls st h Q ↔ GN d 168 200 ls h (ldJ ls 1 fun x => nx 201 ls (.long x :: st) h) Q := G_unf rfl rfl
set_option maxRecDepth 100000 in
theorem g168_201 : G d 168 201 ls st h Q ↔ GN d 168 201 ls h (nx 204 ls (.long (lN 7170414) :: st) h) Q := G_unf rfl rfl
set_option maxRecDepth 100000 in
theorem g168_204 : G d 168 204 ls st h Q ↔ GN d 168 204 ls h (pJJ st fun x y r => nx 205 ls (.int (lg_cmp x y) :: r) h) Q := G_unf rfl rfl
set_option maxRecDepth 100000 in
theorem g168_205 : G d 168 205 ls st h Q ↔ GN d 168 205 ls h (pI st fun x r => br (¬ x = 0) (nx 210 ls r h) (nx 208 ls r h)) Q := G_unf rfl rfl
set_option maxRecDepth 100000 in
theorem g168_208 : G d 168 208 ls st h Q ↔ GN d 168 208 ls h (nx 209 ls (.int (nI 1) :: st) h) Q := G_unf rfl rfl
set_option maxRecDepth 100000 in
theorem g168_209 : G d 168 209 ls st h Q ↔ GN d 168 209 ls h (pIe st fun x => ck (x = 0 ∨ x = 1) (rtn (some (.int x)))) Q := G_unf rfl rfl
set_option maxRecDepth 100000 in
theorem g168_210 : G d 168 210 ls st h Q ↔ GN d 168 210 ls h (ldJ ls 1 fun x => nx 211 ls (.long x :: st) h) Q := G_unf rfl rfl
set_option maxRecDepth 100000 in
theorem g168_211 : G d 168 211 ls st h Q ↔ GN d 168 211 ls h (nx 214 ls (.long (lN 7168376) :: st) h) Q := G_unf rfl rfl
set_option maxRecDepth 100000 in
theorem g168_214 : G d 168 214 ls st h Q ↔ GN d 168 214 ls h (pJJ st fun x y r => nx 215 ls (.int (lg_cmp x y) :: r) h) Q := G_unf rfl rfl
set_option maxRecDepth 100000 in
theorem g168_215 : G d 168 215 ls st h Q ↔ GN d 168 215 ls h (pI st fun x r => br (¬ x = 0) (nx 220 ls r h) (nx 218 ls r h)) Q := G_unf rfl rfl
set_option maxRecDepth 100000 in
theorem g168_218 : G d 168 218 ls st h Q ↔ GN d 168 218 ls h (nx 219 ls (.int (nI 1) :: st) h) Q := G_unf rfl rfl
set_option maxRecDepth 100000 in
theorem g168_219 : G d 168 219 ls st h Q ↔ GN d 168 219 ls h (pIe st fun x => ck (x = 0 ∨ x = 1) (rtn (some (.int x)))) Q := G_unf rfl rfl
set_option maxRecDepth 100000 in
theorem g168_220 : G d 168 220 ls st h Q ↔ GN d 168 220 ls h (nx 221 ls (.int (nI 0) :: st) h) Q := G_unf rfl rfl
set_option maxRecDepth 100000 in
theorem g168_221 : G d 168 221 ls st h Q ↔ GN d 168 221 ls h (pIe st fun x => ck (x = 0 ∨ x = 1) (rtn (some (.int x)))) Q := G_unf rfl rfl
theorem g169_0 : G d 169 0 ls st h Q ↔ GN d 169 0 ls h (ldI ls 2 fun x => nx 1 ls (.int x :: st) h) Q := G_unf rfl rfl
theorem g169_1 : G d 169 1 ls st h Q ↔ GN d 169 1 ls h (pI st fun x r => br (¬ x = 0) (nx 13 ls r h) (nx 4 ls r h)) Q := G_unf rfl rfl
theorem g169_4 : G d 169 4 ls st h Q ↔ GN d 169 4 ls h (ldR ls 0 fun a => nx 5 ls (.ref a :: st) h) Q := G_unf rfl rfl
theorem g169_5 : G d 169 5 ls st h Q ↔ GN d 169 5 ls h (pR st fun a r => ck (arr h a 9) (nx 8 ls (rv (hR h a 14) :: r) h)) Q := G_unf rfl rfl
theorem g169_8 : G d 169 8 ls st h Q ↔ GN d 169 8 ls h (ldI ls 1 fun x => nx 9 ls (.int x :: st) h) Q := G_unf rfl rfl
theorem g169_9 : G d 169 9 ls st h Q ↔ GN d 169 9 ls h (pRI st fun a i r => br (a = 1000003) (ck (inb i (hS h).1) (nx 10 ls (.int ((hS h).2 i.toNatClampNeg) :: r) h)) (ck (arr h a 10 ∧ inb i (hLn h a)) (nx 10 ls (.int (hI h a i.toNatClampNeg) :: r) h))) Q := G_unf rfl rfl
theorem g169_10 : G d 169 10 ls st h Q ↔ GN d 169 10 ls h (nx 19 ls st h) Q := G_unf rfl rfl
theorem g169_13 : G d 169 13 ls st h Q ↔ GN d 169 13 ls h (ldR ls 0 fun a => nx 14 ls (.ref a :: st) h) Q := G_unf rfl rfl
theorem g169_14 : G d 169 14 ls st h Q ↔ GN d 169 14 ls h (pR st fun a r => ck (arr h a 9) (nx 17 ls (rv (hR h a 20) :: r) h)) Q := G_unf rfl rfl
theorem g169_17 : G d 169 17 ls st h Q ↔ GN d 169 17 ls h (ldI ls 1 fun x => nx 18 ls (.int x :: st) h) Q := G_unf rfl rfl
theorem g169_18 : G d 169 18 ls st h Q ↔ GN d 169 18 ls h (pRI st fun a i r => br (a = 1000003) (ck (inb i (hS h).1) (nx 19 ls (.int ((hS h).2 i.toNatClampNeg) :: r) h)) (ck (arr h a 10 ∧ inb i (hLn h a)) (nx 19 ls (.int (hI h a i.toNatClampNeg) :: r) h))) Q := G_unf rfl rfl
theorem g169_19 : G d 169 19 ls st h Q ↔ GN d 169 19 ls h (pIe st fun x => rtn (some (.int x))) Q := G_unf rfl rfl
theorem g170_0 : G d 170 0 ls st h Q ↔ GN d 170 0 ls h (ldI ls 2 fun x => nx 1 ls (.int x :: st) h) Q := G_unf rfl rfl
theorem g170_1 : G d 170 1 ls st h Q ↔ GN d 170 1 ls h (pI st fun x r => br (¬ x = 0) (nx 18 ls r h) (nx 4 ls r h)) Q := G_unf rfl rfl
theorem g170_4 : G d 170 4 ls st h Q ↔ GN d 170 4 ls h (ldR ls 0 fun a => nx 5 ls (.ref a :: st) h) Q := G_unf rfl rfl
theorem g170_5 : G d 170 5 ls st h Q ↔ GN d 170 5 ls h (pR st fun a r => ck (arr h a 9) (nx 8 ls (rv (hR h a 36) :: r) h)) Q := G_unf rfl rfl
theorem g170_8 : G d 170 8 ls st h Q ↔ GN d 170 8 ls h (nx 10 ls (.int (nI 12) :: st) h) Q := G_unf rfl rfl
theorem g170_10 : G d 170 10 ls st h Q ↔ GN d 170 10 ls h (ldI ls 1 fun x => nx 11 ls (.int x :: st) h) Q := G_unf rfl rfl
theorem g170_11 : G d 170 11 ls st h Q ↔ GN d 170 11 ls h (pII st fun x y r => nx 12 ls (.int (x * y) :: r) h) Q := G_unf rfl rfl
theorem g170_12 : G d 170 12 ls st h Q ↔ GN d 170 12 ls h (ldI ls 3 fun x => nx 13 ls (.int x :: st) h) Q := G_unf rfl rfl
theorem g170_13 : G d 170 13 ls st h Q ↔ GN d 170 13 ls h (pII st fun x y r => nx 14 ls (.int (x + y) :: r) h) Q := G_unf rfl rfl
theorem g170_14 : G d 170 14 ls st h Q ↔ GN d 170 14 ls h (pRI st fun a i r => ck (arr h a 13 ∧ inb i (hLn h a)) (nx 15 ls (.long (hL h a i.toNatClampNeg) :: r) h)) Q := G_unf rfl rfl
theorem g170_15 : G d 170 15 ls st h Q ↔ GN d 170 15 ls h (nx 29 ls st h) Q := G_unf rfl rfl
theorem g170_18 : G d 170 18 ls st h Q ↔ GN d 170 18 ls h (ldR ls 0 fun a => nx 19 ls (.ref a :: st) h) Q := G_unf rfl rfl
theorem g170_19 : G d 170 19 ls st h Q ↔ GN d 170 19 ls h (pR st fun a r => ck (arr h a 9) (nx 22 ls (rv (hR h a 37) :: r) h)) Q := G_unf rfl rfl
theorem g170_22 : G d 170 22 ls st h Q ↔ GN d 170 22 ls h (nx 24 ls (.int (nI 8) :: st) h) Q := G_unf rfl rfl
theorem g170_24 : G d 170 24 ls st h Q ↔ GN d 170 24 ls h (ldI ls 1 fun x => nx 25 ls (.int x :: st) h) Q := G_unf rfl rfl
theorem g170_25 : G d 170 25 ls st h Q ↔ GN d 170 25 ls h (pII st fun x y r => nx 26 ls (.int (x * y) :: r) h) Q := G_unf rfl rfl
theorem g170_26 : G d 170 26 ls st h Q ↔ GN d 170 26 ls h (ldI ls 3 fun x => nx 27 ls (.int x :: st) h) Q := G_unf rfl rfl
theorem g170_27 : G d 170 27 ls st h Q ↔ GN d 170 27 ls h (pII st fun x y r => nx 28 ls (.int (x + y) :: r) h) Q := G_unf rfl rfl
theorem g170_28 : G d 170 28 ls st h Q ↔ GN d 170 28 ls h (pRI st fun a i r => ck (arr h a 13 ∧ inb i (hLn h a)) (nx 29 ls (.long (hL h a i.toNatClampNeg) :: r) h)) Q := G_unf rfl rfl
theorem g170_29 : G d 170 29 ls st h Q ↔ GN d 170 29 ls h (pJe st fun x => rtn (some (.long x))) Q := G_unf rfl rfl
theorem g171_0 : G d 171 0 ls st h Q ↔ GN d 171 0 ls h (nx 1 ls (.int (nI 0) :: st) h) Q := G_unf rfl rfl
theorem g171_1 : G d 171 1 ls st h Q ↔ GN d 171 1 ls h (pI st fun x r => ck (4 < ls.length) (nx 3 (st1 ls 4 (.int x)) r h)) Q := G_unf rfl rfl
theorem g171_3 : G d 171 3 ls st h Q ↔ GN d 171 3 ls h (ldI ls 4 fun x => nx 5 ls (.int x :: st) h) Q := G_unf rfl rfl
theorem g171_5 : G d 171 5 ls st h Q ↔ GN d 171 5 ls h (ldR ls 0 fun a => nx 6 ls (.ref a :: st) h) Q := G_unf rfl rfl
theorem g171_6 : G d 171 6 ls st h Q ↔ GN d 171 6 ls h (ldR ls 0 fun a => nx 7 ls (.ref a :: st) h) Q := G_unf rfl rfl
theorem g171_7 : G d 171 7 ls st h Q ↔ GN d 171 7 ls h (pR st fun a r => ck (arr h a 9) (nx 10 ls (.int (hI h a 39) :: r) h)) Q := G_unf rfl rfl
theorem g171_10 : G d 171 10 ls st h Q ↔ GN d 171 10 ls h (ldI ls 1 fun x => nx 11 ls (.int x :: st) h) Q := G_unf rfl rfl
theorem g171_11 : G d 171 11 ls st h Q ↔ GN d 171 11 ls h (pA 2 st fun as r => pR r fun a r => ck (r.length ≤ 4 ∧ arr h a 9) (cll 169 (.ref a :: as) r)) Q := G_unf rfl rfl
theorem g171_14 : G d 171 14 ls st h Q ↔ GN d 171 14 ls h (pII st fun x y r => br (y ≤ x) (nx 42 ls r h) (nx 17 ls r h)) Q := G_unf rfl rfl
theorem g171_17 : G d 171 17 ls st h Q ↔ GN d 171 17 ls h (ldR ls 0 fun a => nx 18 ls (.ref a :: st) h) Q := G_unf rfl rfl
theorem g171_18 : G d 171 18 ls st h Q ↔ GN d 171 18 ls h (ldR ls 0 fun a => nx 19 ls (.ref a :: st) h) Q := G_unf rfl rfl
theorem g171_19 : G d 171 19 ls st h Q ↔ GN d 171 19 ls h (pR st fun a r => ck (arr h a 9) (nx 22 ls (.int (hI h a 39) :: r) h)) Q := G_unf rfl rfl
theorem g171_22 : G d 171 22 ls st h Q ↔ GN d 171 22 ls h (ldI ls 1 fun x => nx 23 ls (.int x :: st) h) Q := G_unf rfl rfl
theorem g171_23 : G d 171 23 ls st h Q ↔ GN d 171 23 ls h (ldI ls 4 fun x => nx 25 ls (.int x :: st) h) Q := G_unf rfl rfl
theorem g171_25 : G d 171 25 ls st h Q ↔ GN d 171 25 ls h (pA 3 st fun as r => pR r fun a r => ck (r.length ≤ 4 ∧ arr h a 9) (cll 170 (.ref a :: as) r)) Q := G_unf rfl rfl
theorem g171_28 : G d 171 28 ls st h Q ↔ GN d 171 28 ls h (ldJ ls 2 fun x => nx 29 ls (.long x :: st) h) Q := G_unf rfl rfl
theorem g171_29 : G d 171 29 ls st h Q ↔ GN d 171 29 ls h (pJJ st fun x y r => nx 30 ls (.int (lg_cmp x y) :: r) h) Q := G_unf rfl rfl
theorem g171_30 : G d 171 30 ls st h Q ↔ GN d 171 30 ls h (pI st fun x r => br (¬ x = 0) (nx 36 ls r h) (nx 33 ls r h)) Q := G_unf rfl rfl
theorem g171_33 : G d 171 33 ls st h Q ↔ GN d 171 33 ls h (ldI ls 4 fun x => nx 35 ls (.int x :: st) h) Q := G_unf rfl rfl
theorem g171_35 : G d 171 35 ls st h Q ↔ GN d 171 35 ls h (pIe st fun x => rtn (some (.int x))) Q := G_unf rfl rfl
theorem g171_36 : G d 171 36 ls st h Q ↔ GN d 171 36 ls h (ldI ls 4 fun x => nx 39 (st1 ls 4 (.int (x + (nI 1)))) st h) Q := G_unf rfl rfl
theorem g171_39 : G d 171 39 ls st h Q ↔ GN d 171 39 ls h (nx 3 ls st h) Q := G_unf rfl rfl
theorem g171_42 : G d 171 42 ls st h Q ↔ GN d 171 42 ls h (nx 43 ls (.int (-1) :: st) h) Q := G_unf rfl rfl
theorem g171_43 : G d 171 43 ls st h Q ↔ GN d 171 43 ls h (pIe st fun x => rtn (some (.int x))) Q := G_unf rfl rfl
theorem g172_0 : G d 172 0 ls st h Q ↔ GN d 172 0 ls h (ldR ls 0 fun a => nx 1 ls (.ref a :: st) h) Q := G_unf rfl rfl
theorem g172_1 : G d 172 1 ls st h Q ↔ GN d 172 1 ls h (pA 0 st fun as r => pR r fun a r => ck (r.length ≤ 4 ∧ arr h a 9) (cll 163 (.ref a :: as) r)) Q := G_unf rfl rfl
theorem g172_4 : G d 172 4 ls st h Q ↔ GN d 172 4 ls h (ldR ls 0 fun a => nx 5 ls (.ref a :: st) h) Q := G_unf rfl rfl
theorem g172_5 : G d 172 5 ls st h Q ↔ GN d 172 5 ls h (pR st fun a r => ck (arr h a 9) (nx 8 ls (.int (hI h a 8) :: r) h)) Q := G_unf rfl rfl
theorem g172_8 : G d 172 8 ls st h Q ↔ GN d 172 8 ls h (pI st fun x r => br (x ≤ 0) (nx 13 ls r h) (nx 11 ls r h)) Q := G_unf rfl rfl
theorem g172_11 : G d 172 11 ls st h Q ↔ GN d 172 11 ls h (nx 12 ls (.int (nI 0) :: st) h) Q := G_unf rfl rfl
theorem g172_12 : G d 172 12 ls st h Q ↔ GN d 172 12 ls h (pIe st fun x => rtn (some (.int x))) Q := G_unf rfl rfl
theorem g172_13 : G d 172 13 ls st h Q ↔ GN d 172 13 ls h (ldR ls 0 fun a => nx 14 ls (.ref a :: st) h) Q := G_unf rfl rfl
theorem g172_14 : G d 172 14 ls st h Q ↔ GN d 172 14 ls h (pR st fun a r => ck (arr h a 9) (nx 17 ls (.int (hI h a 3) :: r) h)) Q := G_unf rfl rfl
theorem g172_17 : G d 172 17 ls st h Q ↔ GN d 172 17 ls h (nx 18 ls (.int (nI 2) :: st) h) Q := G_unf rfl rfl
theorem g172_18 : G d 172 18 ls st h Q ↔ GN d 172 18 ls h (pII st fun x y r => br (x = y) (nx 30 ls r h) (nx 21 ls r h)) Q := G_unf rfl rfl
theorem g172_21 : G d 172 21 ls st h Q ↔ GN d 172 21 ls h (ldR ls 0 fun a => nx 22 ls (.ref a :: st) h) Q := G_unf rfl rfl
theorem g172_22 : G d 172 22 ls st h Q ↔ GN d 172 22 ls h (nx 23 ls (.int (nI 1) :: st) h) Q := G_unf rfl rfl
theorem g172_23 : G d 172 23 ls st h Q ↔ GN d 172 23 ls h (ldR ls 0 fun a => nx 24 ls (.ref a :: st) h) Q := G_unf rfl rfl
theorem g172_24 : G d 172 24 ls st h Q ↔ GN d 172 24 ls h (pR st fun a r => ck (arr h a 9) (nx 27 ls (.int (hI h a 4) :: r) h)) Q := G_unf rfl rfl
theorem g172_27 : G d 172 27 ls st h Q ↔ GN d 172 27 ls h (pA 2 st fun as r => pR r fun a r => ck (r.length ≤ 4 ∧ arr h a 9) (cll 160 (.ref a :: as) r)) Q := G_unf rfl rfl
theorem g172_30 : G d 172 30 ls st h Q ↔ GN d 172 30 ls h (ldR ls 0 fun a => nx 31 ls (.ref a :: st) h) Q := G_unf rfl rfl
theorem g172_31 : G d 172 31 ls st h Q ↔ GN d 172 31 ls h (pR st fun a r => ck (arr h a 9) (nx 34 ls (.int (hI h a 8) :: r) h)) Q := G_unf rfl rfl
theorem g172_34 : G d 172 34 ls st h Q ↔ GN d 172 34 ls h (pI st fun x r => br (¬ x = 0) (nx 58 ls r h) (nx 37 ls r h)) Q := G_unf rfl rfl
theorem g172_37 : G d 172 37 ls st h Q ↔ GN d 172 37 ls h (ldR ls 0 fun a => nx 38 ls (.ref a :: st) h) Q := G_unf rfl rfl
theorem g172_38 : G d 172 38 ls st h Q ↔ GN d 172 38 ls h (pR st fun a r => ck (arr h a 9) (nx 41 ls (.int (hI h a 6) :: r) h)) Q := G_unf rfl rfl
theorem g172_41 : G d 172 41 ls st h Q ↔ GN d 172 41 ls h (ldI ls 1 fun x => nx 42 ls (.int x :: st) h) Q := G_unf rfl rfl
theorem g172_42 : G d 172 42 ls st h Q ↔ GN d 172 42 ls h (ldI ls 2 fun x => nx 43 ls (.int x :: st) h) Q := G_unf rfl rfl
theorem g172_43 : G d 172 43 ls st h Q ↔ GN d 172 43 ls h (pA 3 st fun as r => ck (r.length ≤ 4) (cll 156 as r)) Q := G_unf rfl rfl
theorem g172_46 : G d 172 46 ls st h Q ↔ GN d 172 46 ls h (pI st fun x r => br (¬ x = 0) (nx 58 ls r h) (nx 49 ls r h)) Q := G_unf rfl rfl
theorem g172_49 : G d 172 49 ls st h Q ↔ GN d 172 49 ls h (ldR ls 0 fun a => nx 50 ls (.ref a :: st) h) Q := G_unf rfl rfl
theorem g172_50 : G d 172 50 ls st h Q ↔ GN d 172 50 ls h (nx 51 ls (.int (nI 4) :: st) h) Q := G_unf rfl rfl
theorem g172_51 : G d 172 51 ls st h Q ↔ GN d 172 51 ls h (ldR ls 0 fun a => nx 52 ls (.ref a :: st) h) Q := G_unf rfl rfl
theorem g172_52 : G d 172 52 ls st h Q ↔ GN d 172 52 ls h (pR st fun a r => ck (arr h a 9) (nx 55 ls (.int (hI h a 4) :: r) h)) Q := G_unf rfl rfl
theorem g172_55 : G d 172 55 ls st h Q ↔ GN d 172 55 ls h (pA 2 st fun as r => pR r fun a r => ck (r.length ≤ 4 ∧ arr h a 9) (cll 160 (.ref a :: as) r)) Q := G_unf rfl rfl
theorem g172_58 : G d 172 58 ls st h Q ↔ GN d 172 58 ls h (ldR ls 0 fun a => nx 59 ls (.ref a :: st) h) Q := G_unf rfl rfl
theorem g172_59 : G d 172 59 ls st h Q ↔ GN d 172 59 ls h (pR st fun a r => ck (arr h a 9) (nx 62 ls (.int (hI h a 6) :: r) h)) Q := G_unf rfl rfl
theorem g172_62 : G d 172 62 ls st h Q ↔ GN d 172 62 ls h (pI st fun x r => ck (3 < ls.length) (nx 63 (st1 ls 3 (.int x)) r h)) Q := G_unf rfl rfl
theorem g172_63 : G d 172 63 ls st h Q ↔ GN d 172 63 ls h (ldR ls 0 fun a => nx 64 ls (.ref a :: st) h) Q := G_unf rfl rfl
theorem g172_64 : G d 172 64 ls st h Q ↔ GN d 172 64 ls h (pR st fun a r => ck (arr h a 9) (nx 67 ls (.int (hI h a 8) :: r) h)) Q := G_unf rfl rfl
theorem g172_67 : G d 172 67 ls st h Q ↔ GN d 172 67 ls h (pI st fun x r => br (¬ x = 0) (nx 74 ls r h) (nx 70 ls r h)) Q := G_unf rfl rfl
theorem g172_70 : G d 172 70 ls st h Q ↔ GN d 172 70 ls h (ldR ls 0 fun a => nx 71 ls (.ref a :: st) h) Q := G_unf rfl rfl
theorem g172_71 : G d 172 71 ls st h Q ↔ GN d 172 71 ls h (pA 0 st fun as r => pR r fun a r => ck (r.length ≤ 4 ∧ arr h a 9) (cll 164 (.ref a :: as) r)) Q := G_unf rfl rfl
theorem g172_74 : G d 172 74 ls st h Q ↔ GN d 172 74 ls h (ldI ls 3 fun x => nx 75 ls (.int x :: st) h) Q := G_unf rfl rfl
theorem g172_75 : G d 172 75 ls st h Q ↔ GN d 172 75 ls h (pIe st fun x => rtn (some (.int x))) Q := G_unf rfl rfl
theorem g173_0 : G d 173 0 ls st h Q ↔ GN d 173 0 ls h (ldR ls 0 fun a => nx 1 ls (.ref a :: st) h) Q := G_unf rfl rfl
theorem g173_1 : G d 173 1 ls st h Q ↔ GN d 173 1 ls h (pR st fun a r => ck (arr h a 9) (nx 4 ls (rv (hR h a 34) :: r) h)) Q := G_unf rfl rfl
theorem g173_4 : G d 173 4 ls st h Q ↔ GN d 173 4 ls h (nx 7 ls (.int (nI 1600) :: st) h) Q := G_unf rfl rfl
theorem g173_7 : G d 173 7 ls st h Q ↔ GN d 173 7 ls h (ldR ls 0 fun a => nx 8 ls (.ref a :: st) h) Q := G_unf rfl rfl
theorem g173_8 : G d 173 8 ls st h Q ↔ GN d 173 8 ls h (pR st fun a r => ck (arr h a 9) (nx 11 ls (.int (hI h a 39) :: r) h)) Q := G_unf rfl rfl
theorem g173_11 : G d 173 11 ls st h Q ↔ GN d 173 11 ls h (pII st fun x y r => nx 12 ls (.int (x * y) :: r) h) Q := G_unf rfl rfl
theorem g173_12 : G d 173 12 ls st h Q ↔ GN d 173 12 ls h (ldR ls 0 fun a => nx 13 ls (.ref a :: st) h) Q := G_unf rfl rfl
theorem g173_13 : G d 173 13 ls st h Q ↔ GN d 173 13 ls h (pR st fun a r => ck (arr h a 9) (nx 16 ls (.int (hI h a 38) :: r) h)) Q := G_unf rfl rfl
theorem g173_16 : G d 173 16 ls st h Q ↔ GN d 173 16 ls h (pII st fun x y r => nx 17 ls (.int (x + y) :: r) h) Q := G_unf rfl rfl
theorem g173_17 : G d 173 17 ls st h Q ↔ GN d 173 17 ls h (ldI ls 1 fun x => nx 18 ls (.int x :: st) h) Q := G_unf rfl rfl
theorem g173_18 : G d 173 18 ls st h Q ↔ GN d 173 18 ls h (pRII st fun a i x r => ck (arr h a 10 ∧ inb i (hLn h a)) (nx 19 ls r (sI h a i.toNatClampNeg x))) Q := G_unf rfl rfl
theorem g173_19 : G d 173 19 ls st h Q ↔ GN d 173 19 ls h (ldR ls 0 fun a => nx 20 ls (.ref a :: st) h) Q := G_unf rfl rfl
theorem g173_20 : G d 173 20 ls st h Q ↔ GN d 173 20 ls h (pR st fun a r => ck (arr h a 9) (nx 23 ls (rv (hR h a 35) :: r) h)) Q := G_unf rfl rfl
theorem g173_23 : G d 173 23 ls st h Q ↔ GN d 173 23 ls h (nx 26 ls (.int (nI 1600) :: st) h) Q := G_unf rfl rfl
theorem g173_26 : G d 173 26 ls st h Q ↔ GN d 173 26 ls h (ldR ls 0 fun a => nx 27 ls (.ref a :: st) h) Q := G_unf rfl rfl
theorem g173_27 : G d 173 27 ls st h Q ↔ GN d 173 27 ls h (pR st fun a r => ck (arr h a 9) (nx 30 ls (.int (hI h a 39) :: r) h)) Q := G_unf rfl rfl
theorem g173_30 : G d 173 30 ls st h Q ↔ GN d 173 30 ls h (pII st fun x y r => nx 31 ls (.int (x * y) :: r) h) Q := G_unf rfl rfl
theorem g173_31 : G d 173 31 ls st h Q ↔ GN d 173 31 ls h (ldR ls 0 fun a => nx 32 ls (.ref a :: st) h) Q := G_unf rfl rfl
theorem g173_32 : G d 173 32 ls st h Q ↔ GN d 173 32 ls h (pR st fun a r => ck (arr h a 9) (nx 35 ls (.int (hI h a 38) :: r) h)) Q := G_unf rfl rfl
theorem g173_35 : G d 173 35 ls st h Q ↔ GN d 173 35 ls h (pII st fun x y r => nx 36 ls (.int (x + y) :: r) h) Q := G_unf rfl rfl
theorem g173_36 : G d 173 36 ls st h Q ↔ GN d 173 36 ls h (ldI ls 2 fun x => nx 37 ls (.int x :: st) h) Q := G_unf rfl rfl
theorem g173_37 : G d 173 37 ls st h Q ↔ GN d 173 37 ls h (pRII st fun a i x r => ck (arr h a 10 ∧ inb i (hLn h a)) (nx 38 ls r (sI h a i.toNatClampNeg x))) Q := G_unf rfl rfl
theorem g173_38 : G d 173 38 ls st h Q ↔ GN d 173 38 ls h (ldR ls 0 fun a => nx 39 ls (.ref a :: st) h) Q := G_unf rfl rfl
theorem g173_39 : G d 173 39 ls st h Q ↔ GN d 173 39 ls h (p1 st fun v r => nx 40 ls (v :: v :: r) h) Q := G_unf rfl rfl
theorem g173_40 : G d 173 40 ls st h Q ↔ GN d 173 40 ls h (pR st fun a r => ck (arr h a 9) (nx 43 ls (.int (hI h a 38) :: r) h)) Q := G_unf rfl rfl
theorem g173_43 : G d 173 43 ls st h Q ↔ GN d 173 43 ls h (nx 44 ls (.int (nI 1) :: st) h) Q := G_unf rfl rfl
theorem g173_44 : G d 173 44 ls st h Q ↔ GN d 173 44 ls h (pII st fun x y r => nx 45 ls (.int (x + y) :: r) h) Q := G_unf rfl rfl
theorem g173_45 : G d 173 45 ls st h Q ↔ GN d 173 45 ls h (pRI st fun a x r => ck (arr h a 9) (nx 48 ls r (sI h a 38 x))) Q := G_unf rfl rfl
theorem g173_48 : G d 173 48 ls st h Q ↔ GN d 173 48 ls h (pE st (rtn none)) Q := G_unf rfl rfl
theorem g174_0 : G d 174 0 ls st h Q ↔ GN d 174 0 ls h (ldI ls 0 fun x => nx 1 ls (.int x :: st) h) Q := G_unf rfl rfl
theorem g174_1 : G d 174 1 ls st h Q ↔ GN d 174 1 ls h (nx 3 ls (.int (nI 21) :: st) h) Q := G_unf rfl rfl
theorem g174_3 : G d 174 3 ls st h Q ↔ GN d 174 3 ls h (pII st fun x y r => br (¬ x = y) (nx 10 ls r h) (nx 6 ls r h)) Q := G_unf rfl rfl
theorem g174_6 : G d 174 6 ls st h Q ↔ GN d 174 6 ls h (nx 7 ls (.int (nI 1) :: st) h) Q := G_unf rfl rfl
theorem g174_7 : G d 174 7 ls st h Q ↔ GN d 174 7 ls h (nx 70 ls st h) Q := G_unf rfl rfl
theorem g174_10 : G d 174 10 ls st h Q ↔ GN d 174 10 ls h (ldI ls 0 fun x => nx 11 ls (.int x :: st) h) Q := G_unf rfl rfl
theorem g174_11 : G d 174 11 ls st h Q ↔ GN d 174 11 ls h (nx 13 ls (.int (nI 20) :: st) h) Q := G_unf rfl rfl
theorem g174_13 : G d 174 13 ls st h Q ↔ GN d 174 13 ls h (pII st fun x y r => br (¬ x = y) (nx 20 ls r h) (nx 16 ls r h)) Q := G_unf rfl rfl
theorem g174_16 : G d 174 16 ls st h Q ↔ GN d 174 16 ls h (nx 17 ls (.int (nI 2) :: st) h) Q := G_unf rfl rfl
theorem g174_17 : G d 174 17 ls st h Q ↔ GN d 174 17 ls h (nx 70 ls st h) Q := G_unf rfl rfl
theorem g174_20 : G d 174 20 ls st h Q ↔ GN d 174 20 ls h (ldI ls 0 fun x => nx 21 ls (.int x :: st) h) Q := G_unf rfl rfl
theorem g174_21 : G d 174 21 ls st h Q ↔ GN d 174 21 ls h (nx 23 ls (.int (nI 22) :: st) h) Q := G_unf rfl rfl
theorem g174_23 : G d 174 23 ls st h Q ↔ GN d 174 23 ls h (pII st fun x y r => br (¬ x = y) (nx 30 ls r h) (nx 26 ls r h)) Q := G_unf rfl rfl
theorem g174_26 : G d 174 26 ls st h Q ↔ GN d 174 26 ls h (nx 27 ls (.int (nI 3) :: st) h) Q := G_unf rfl rfl
theorem g174_27 : G d 174 27 ls st h Q ↔ GN d 174 27 ls h (nx 70 ls st h) Q := G_unf rfl rfl
theorem g174_30 : G d 174 30 ls st h Q ↔ GN d 174 30 ls h (ldI ls 0 fun x => nx 31 ls (.int x :: st) h) Q := G_unf rfl rfl
theorem g174_31 : G d 174 31 ls st h Q ↔ GN d 174 31 ls h (nx 33 ls (.int (nI 17) :: st) h) Q := G_unf rfl rfl
theorem g174_33 : G d 174 33 ls st h Q ↔ GN d 174 33 ls h (pII st fun x y r => br (x = y) (nx 48 ls r h) (nx 36 ls r h)) Q := G_unf rfl rfl
theorem g174_36 : G d 174 36 ls st h Q ↔ GN d 174 36 ls h (ldI ls 0 fun x => nx 37 ls (.int x :: st) h) Q := G_unf rfl rfl
theorem g174_37 : G d 174 37 ls st h Q ↔ GN d 174 37 ls h (nx 39 ls (.int (nI 18) :: st) h) Q := G_unf rfl rfl
theorem g174_39 : G d 174 39 ls st h Q ↔ GN d 174 39 ls h (pII st fun x y r => br (x = y) (nx 48 ls r h) (nx 42 ls r h)) Q := G_unf rfl rfl
theorem g174_42 : G d 174 42 ls st h Q ↔ GN d 174 42 ls h (ldI ls 0 fun x => nx 43 ls (.int x :: st) h) Q := G_unf rfl rfl
theorem g174_43 : G d 174 43 ls st h Q ↔ GN d 174 43 ls h (nx 45 ls (.int (nI 19) :: st) h) Q := G_unf rfl rfl
theorem g174_45 : G d 174 45 ls st h Q ↔ GN d 174 45 ls h (pII st fun x y r => br (¬ x = y) (nx 52 ls r h) (nx 48 ls r h)) Q := G_unf rfl rfl
theorem g174_48 : G d 174 48 ls st h Q ↔ GN d 174 48 ls h (nx 49 ls (.int (nI 4) :: st) h) Q := G_unf rfl rfl
theorem g174_49 : G d 174 49 ls st h Q ↔ GN d 174 49 ls h (nx 70 ls st h) Q := G_unf rfl rfl
theorem g174_52 : G d 174 52 ls st h Q ↔ GN d 174 52 ls h (ldI ls 0 fun x => nx 53 ls (.int x :: st) h) Q := G_unf rfl rfl
theorem g174_53 : G d 174 53 ls st h Q ↔ GN d 174 53 ls h (nx 55 ls (.int (nI 10) :: st) h) Q := G_unf rfl rfl
theorem g174_55 : G d 174 55 ls st h Q ↔ GN d 174 55 ls h (pII st fun x y r => br (x = y) (nx 64 ls r h) (nx 58 ls r h)) Q := G_unf rfl rfl
theorem g174_58 : G d 174 58 ls st h Q ↔ GN d 174 58 ls h (ldI ls 0 fun x => nx 59 ls (.int x :: st) h) Q := G_unf rfl rfl
theorem g174_59 : G d 174 59 ls st h Q ↔ GN d 174 59 ls h (nx 61 ls (.int (nI 11) :: st) h) Q := G_unf rfl rfl
theorem g174_61 : G d 174 61 ls st h Q ↔ GN d 174 61 ls h (pII st fun x y r => br (¬ x = y) (nx 68 ls r h) (nx 64 ls r h)) Q := G_unf rfl rfl
theorem g174_64 : G d 174 64 ls st h Q ↔ GN d 174 64 ls h (nx 65 ls (.int (nI 5) :: st) h) Q := G_unf rfl rfl
theorem g174_65 : G d 174 65 ls st h Q ↔ GN d 174 65 ls h (nx 70 ls st h) Q := G_unf rfl rfl
theorem g174_68 : G d 174 68 ls st h Q ↔ GN d 174 68 ls h (nx 70 ls (.int (nI 6) :: st) h) Q := G_unf rfl rfl
theorem g174_70 : G d 174 70 ls st h Q ↔ GN d 174 70 ls h (pIe st fun x => rtn (some (.int x))) Q := G_unf rfl rfl
theorem g175_0 : G d 175 0 ls st h Q ↔ GN d 175 0 ls h (ldR ls 0 fun a => nx 1 ls (.ref a :: st) h) Q := G_unf rfl rfl
theorem g175_1 : G d 175 1 ls st h Q ↔ GN d 175 1 ls h (pR st fun a r => ck (arr h a 9) (nx 4 ls (.int (hI h a 48) :: r) h)) Q := G_unf rfl rfl
theorem g175_4 : G d 175 4 ls st h Q ↔ GN d 175 4 ls h (ldR ls 0 fun a => nx 5 ls (.ref a :: st) h) Q := G_unf rfl rfl
theorem g175_5 : G d 175 5 ls st h Q ↔ GN d 175 5 ls h (pR st fun a r => ck (arr h a 9) (nx 8 ls (rv (hR h a 44) :: r) h)) Q := G_unf rfl rfl
theorem g175_8 : G d 175 8 ls st h Q ↔ GN d 175 8 ls h (ldR ls 0 fun a => nx 9 ls (.ref a :: st) h) Q := G_unf rfl rfl
theorem g175_9 : G d 175 9 ls st h Q ↔ GN d 175 9 ls h (pR st fun a r => ck (arr h a 9) (nx 12 ls (.int (hI h a 45) :: r) h)) Q := G_unf rfl rfl
theorem g175_12 : G d 175 12 ls st h Q ↔ GN d 175 12 ls h (nx 13 ls (.int (nI 1) :: st) h) Q := G_unf rfl rfl
theorem g175_13 : G d 175 13 ls st h Q ↔ GN d 175 13 ls h (pII st fun x y r => nx 14 ls (.int (x - y) :: r) h) Q := G_unf rfl rfl
theorem g175_14 : G d 175 14 ls st h Q ↔ GN d 175 14 ls h (pRI st fun a i r => br (a = 1000003) (ck (inb i (hS h).1) (nx 15 ls (.int ((hS h).2 i.toNatClampNeg) :: r) h)) (ck (arr h a 10 ∧ inb i (hLn h a)) (nx 15 ls (.int (hI h a i.toNatClampNeg) :: r) h))) Q := G_unf rfl rfl
theorem g175_15 : G d 175 15 ls st h Q ↔ GN d 175 15 ls h (pII st fun x y r => br (x ≤ y) (nx 87 ls r h) (nx 18 ls r h)) Q := G_unf rfl rfl
theorem g175_18 : G d 175 18 ls st h Q ↔ GN d 175 18 ls h (ldR ls 0 fun a => nx 19 ls (.ref a :: st) h) Q := G_unf rfl rfl
theorem g175_19 : G d 175 19 ls st h Q ↔ GN d 175 19 ls h (pR st fun a r => ck (arr h a 9) (nx 22 ls (rv (hR h a 47) :: r) h)) Q := G_unf rfl rfl
theorem g175_22 : G d 175 22 ls st h Q ↔ GN d 175 22 ls h (ldR ls 0 fun a => nx 23 ls (.ref a :: st) h) Q := G_unf rfl rfl
theorem g175_23 : G d 175 23 ls st h Q ↔ GN d 175 23 ls h (pR st fun a r => ck (arr h a 9) (nx 26 ls (.int (hI h a 48) :: r) h)) Q := G_unf rfl rfl
theorem g175_26 : G d 175 26 ls st h Q ↔ GN d 175 26 ls h (nx 27 ls (.int (nI 1) :: st) h) Q := G_unf rfl rfl
theorem g175_27 : G d 175 27 ls st h Q ↔ GN d 175 27 ls h (pII st fun x y r => nx 28 ls (.int (x - y) :: r) h) Q := G_unf rfl rfl
theorem g175_28 : G d 175 28 ls st h Q ↔ GN d 175 28 ls h (pRI st fun a i r => br (a = 1000003) (ck (inb i (hS h).1) (nx 29 ls (.int ((hS h).2 i.toNatClampNeg) :: r) h)) (ck (arr h a 10 ∧ inb i (hLn h a)) (nx 29 ls (.int (hI h a i.toNatClampNeg) :: r) h))) Q := G_unf rfl rfl
theorem g175_29 : G d 175 29 ls st h Q ↔ GN d 175 29 ls h (pA 1 st fun as r => ck (r.length ≤ 4) (cll 174 as r)) Q := G_unf rfl rfl
theorem g175_32 : G d 175 32 ls st h Q ↔ GN d 175 32 ls h (ldI ls 1 fun x => nx 33 ls (.int x :: st) h) Q := G_unf rfl rfl
theorem g175_33 : G d 175 33 ls st h Q ↔ GN d 175 33 ls h (pII st fun x y r => br (x < y) (nx 87 ls r h) (nx 36 ls r h)) Q := G_unf rfl rfl
theorem g175_36 : G d 175 36 ls st h Q ↔ GN d 175 36 ls h (ldR ls 0 fun a => nx 37 ls (.ref a :: st) h) Q := G_unf rfl rfl
theorem g175_37 : G d 175 37 ls st h Q ↔ GN d 175 37 ls h (p1 st fun v r => nx 38 ls (v :: v :: r) h) Q := G_unf rfl rfl
theorem g175_38 : G d 175 38 ls st h Q ↔ GN d 175 38 ls h (pR st fun a r => ck (arr h a 9) (nx 41 ls (.int (hI h a 48) :: r) h)) Q := G_unf rfl rfl
theorem g175_41 : G d 175 41 ls st h Q ↔ GN d 175 41 ls h (nx 42 ls (.int (nI 1) :: st) h) Q := G_unf rfl rfl
theorem g175_42 : G d 175 42 ls st h Q ↔ GN d 175 42 ls h (pII st fun x y r => nx 43 ls (.int (x - y) :: r) h) Q := G_unf rfl rfl
theorem g175_43 : G d 175 43 ls st h Q ↔ GN d 175 43 ls h (pRI st fun a x r => ck (arr h a 9) (nx 46 ls r (sI h a 48 x))) Q := G_unf rfl rfl
theorem g175_46 : G d 175 46 ls st h Q ↔ GN d 175 46 ls h (ldR ls 0 fun a => nx 47 ls (.ref a :: st) h) Q := G_unf rfl rfl
theorem g175_47 : G d 175 47 ls st h Q ↔ GN d 175 47 ls h (ldR ls 0 fun a => nx 48 ls (.ref a :: st) h) Q := G_unf rfl rfl
theorem g175_48 : G d 175 48 ls st h Q ↔ GN d 175 48 ls h (pR st fun a r => ck (arr h a 9) (nx 51 ls (rv (hR h a 47) :: r) h)) Q := G_unf rfl rfl
theorem g175_51 : G d 175 51 ls st h Q ↔ GN d 175 51 ls h (ldR ls 0 fun a => nx 52 ls (.ref a :: st) h) Q := G_unf rfl rfl
theorem g175_52 : G d 175 52 ls st h Q ↔ GN d 175 52 ls h (pR st fun a r => ck (arr h a 9) (nx 55 ls (.int (hI h a 48) :: r) h)) Q := G_unf rfl rfl
theorem g175_55 : G d 175 55 ls st h Q ↔ GN d 175 55 ls h (pRI st fun a i r => br (a = 1000003) (ck (inb i (hS h).1) (nx 56 ls (.int ((hS h).2 i.toNatClampNeg) :: r) h)) (ck (arr h a 10 ∧ inb i (hLn h a)) (nx 56 ls (.int (hI h a i.toNatClampNeg) :: r) h))) Q := G_unf rfl rfl
theorem g175_56 : G d 175 56 ls st h Q ↔ GN d 175 56 ls h (nx 57 ls (.int (nI 0) :: st) h) Q := G_unf rfl rfl
theorem g175_57 : G d 175 57 ls st h Q ↔ GN d 175 57 ls h (pA 2 st fun as r => pR r fun a r => ck (r.length ≤ 4 ∧ arr h a 9) (cll 173 (.ref a :: as) r)) Q := G_unf rfl rfl
theorem g175_60 : G d 175 60 ls st h Q ↔ GN d 175 60 ls h (ldR ls 0 fun a => nx 61 ls (.ref a :: st) h) Q := G_unf rfl rfl
theorem g175_61 : G d 175 61 ls st h Q ↔ GN d 175 61 ls h (pR st fun a r => ck (arr h a 9) (nx 64 ls (rv (hR h a 47) :: r) h)) Q := G_unf rfl rfl
theorem g175_64 : G d 175 64 ls st h Q ↔ GN d 175 64 ls h (ldR ls 0 fun a => nx 65 ls (.ref a :: st) h) Q := G_unf rfl rfl
theorem g175_65 : G d 175 65 ls st h Q ↔ GN d 175 65 ls h (pR st fun a r => ck (arr h a 9) (nx 68 ls (.int (hI h a 48) :: r) h)) Q := G_unf rfl rfl
theorem g175_68 : G d 175 68 ls st h Q ↔ GN d 175 68 ls h (pRI st fun a i r => br (a = 1000003) (ck (inb i (hS h).1) (nx 69 ls (.int ((hS h).2 i.toNatClampNeg) :: r) h)) (ck (arr h a 10 ∧ inb i (hLn h a)) (nx 69 ls (.int (hI h a i.toNatClampNeg) :: r) h))) Q := G_unf rfl rfl
theorem g175_69 : G d 175 69 ls st h Q ↔ GN d 175 69 ls h (nx 71 ls (.int (nI 22) :: st) h) Q := G_unf rfl rfl
theorem g175_71 : G d 175 71 ls st h Q ↔ GN d 175 71 ls h (pII st fun x y r => br (¬ x = y) (nx 0 ls r h) (nx 74 ls r h)) Q := G_unf rfl rfl
theorem g175_74 : G d 175 74 ls st h Q ↔ GN d 175 74 ls h (ldR ls 0 fun a => nx 75 ls (.ref a :: st) h) Q := G_unf rfl rfl
theorem g175_75 : G d 175 75 ls st h Q ↔ GN d 175 75 ls h (p1 st fun v r => nx 76 ls (v :: v :: r) h) Q := G_unf rfl rfl
theorem g175_76 : G d 175 76 ls st h Q ↔ GN d 175 76 ls h (pR st fun a r => ck (arr h a 9) (nx 79 ls (.int (hI h a 46) :: r) h)) Q := G_unf rfl rfl
theorem g175_79 : G d 175 79 ls st h Q ↔ GN d 175 79 ls h (nx 80 ls (.int (nI 1) :: st) h) Q := G_unf rfl rfl
theorem g175_80 : G d 175 80 ls st h Q ↔ GN d 175 80 ls h (pII st fun x y r => nx 81 ls (.int (x - y) :: r) h) Q := G_unf rfl rfl
theorem g175_81 : G d 175 81 ls st h Q ↔ GN d 175 81 ls h (pRI st fun a x r => ck (arr h a 9) (nx 84 ls r (sI h a 46 x))) Q := G_unf rfl rfl
theorem g175_84 : G d 175 84 ls st h Q ↔ GN d 175 84 ls h (nx 0 ls st h) Q := G_unf rfl rfl
theorem g175_87 : G d 175 87 ls st h Q ↔ GN d 175 87 ls h (pE st (rtn none)) Q := G_unf rfl rfl
theorem g176_0 : G d 176 0 ls st h Q ↔ GN d 176 0 ls h (ldR ls 0 fun a => nx 1 ls (.ref a :: st) h) Q := G_unf rfl rfl
theorem g176_1 : G d 176 1 ls st h Q ↔ GN d 176 1 ls h (pR st fun a r => ck (arr h a 9) (nx 4 ls (rv (hR h a 47) :: r) h)) Q := G_unf rfl rfl
theorem g176_4 : G d 176 4 ls st h Q ↔ GN d 176 4 ls h (ldR ls 0 fun a => nx 5 ls (.ref a :: st) h) Q := G_unf rfl rfl
theorem g176_5 : G d 176 5 ls st h Q ↔ GN d 176 5 ls h (pR st fun a r => ck (arr h a 9) (nx 8 ls (.int (hI h a 48) :: r) h)) Q := G_unf rfl rfl
theorem g176_8 : G d 176 8 ls st h Q ↔ GN d 176 8 ls h (ldI ls 1 fun x => nx 9 ls (.int x :: st) h) Q := G_unf rfl rfl
theorem g176_9 : G d 176 9 ls st h Q ↔ GN d 176 9 ls h (pRII st fun a i x r => ck (arr h a 10 ∧ inb i (hLn h a)) (nx 10 ls r (sI h a i.toNatClampNeg x))) Q := G_unf rfl rfl
theorem g176_10 : G d 176 10 ls st h Q ↔ GN d 176 10 ls h (ldR ls 0 fun a => nx 11 ls (.ref a :: st) h) Q := G_unf rfl rfl
theorem g176_11 : G d 176 11 ls st h Q ↔ GN d 176 11 ls h (p1 st fun v r => nx 12 ls (v :: v :: r) h) Q := G_unf rfl rfl
theorem g176_12 : G d 176 12 ls st h Q ↔ GN d 176 12 ls h (pR st fun a r => ck (arr h a 9) (nx 15 ls (.int (hI h a 48) :: r) h)) Q := G_unf rfl rfl
theorem g176_15 : G d 176 15 ls st h Q ↔ GN d 176 15 ls h (nx 16 ls (.int (nI 1) :: st) h) Q := G_unf rfl rfl
theorem g176_16 : G d 176 16 ls st h Q ↔ GN d 176 16 ls h (pII st fun x y r => nx 17 ls (.int (x + y) :: r) h) Q := G_unf rfl rfl
theorem g176_17 : G d 176 17 ls st h Q ↔ GN d 176 17 ls h (pRI st fun a x r => ck (arr h a 9) (nx 20 ls r (sI h a 48 x))) Q := G_unf rfl rfl
theorem g176_20 : G d 176 20 ls st h Q ↔ GN d 176 20 ls h (pE st (rtn none)) Q := G_unf rfl rfl
theorem g177_0 : G d 177 0 ls st h Q ↔ GN d 177 0 ls h (ldR ls 0 fun a => nx 1 ls (.ref a :: st) h) Q := G_unf rfl rfl
theorem g177_1 : G d 177 1 ls st h Q ↔ GN d 177 1 ls h (pR st fun a r => ck (arr h a 9) (nx 4 ls (rv (hR h a 40) :: r) h)) Q := G_unf rfl rfl
theorem g177_4 : G d 177 4 ls st h Q ↔ GN d 177 4 ls h (ldR ls 0 fun a => nx 5 ls (.ref a :: st) h) Q := G_unf rfl rfl
theorem g177_5 : G d 177 5 ls st h Q ↔ GN d 177 5 ls h (pR st fun a r => ck (arr h a 9) (nx 8 ls (.int (hI h a 45) :: r) h)) Q := G_unf rfl rfl
theorem g177_8 : G d 177 8 ls st h Q ↔ GN d 177 8 ls h (ldI ls 1 fun x => nx 9 ls (.int x :: st) h) Q := G_unf rfl rfl
theorem g177_9 : G d 177 9 ls st h Q ↔ GN d 177 9 ls h (pRII st fun a i x r => ck (arr h a 10 ∧ inb i (hLn h a)) (nx 10 ls r (sI h a i.toNatClampNeg x))) Q := G_unf rfl rfl
theorem g177_10 : G d 177 10 ls st h Q ↔ GN d 177 10 ls h (ldR ls 0 fun a => nx 11 ls (.ref a :: st) h) Q := G_unf rfl rfl
theorem g177_11 : G d 177 11 ls st h Q ↔ GN d 177 11 ls h (pR st fun a r => ck (arr h a 9) (nx 14 ls (rv (hR h a 41) :: r) h)) Q := G_unf rfl rfl
theorem g177_14 : G d 177 14 ls st h Q ↔ GN d 177 14 ls h (ldR ls 0 fun a => nx 15 ls (.ref a :: st) h) Q := G_unf rfl rfl
theorem g177_15 : G d 177 15 ls st h Q ↔ GN d 177 15 ls h (pR st fun a r => ck (arr h a 9) (nx 18 ls (.int (hI h a 45) :: r) h)) Q := G_unf rfl rfl
theorem g177_18 : G d 177 18 ls st h Q ↔ GN d 177 18 ls h (nx 19 ls (.int (nI 0) :: st) h) Q := G_unf rfl rfl
theorem g177_19 : G d 177 19 ls st h Q ↔ GN d 177 19 ls h (pRII st fun a i x r => ck (arr h a 10 ∧ inb i (hLn h a)) (nx 20 ls r (sI h a i.toNatClampNeg x))) Q := G_unf rfl rfl
theorem g177_20 : G d 177 20 ls st h Q ↔ GN d 177 20 ls h (ldR ls 0 fun a => nx 21 ls (.ref a :: st) h) Q := G_unf rfl rfl
theorem g177_21 : G d 177 21 ls st h Q ↔ GN d 177 21 ls h (pR st fun a r => ck (arr h a 9) (nx 24 ls (rv (hR h a 42) :: r) h)) Q := G_unf rfl rfl
theorem g177_24 : G d 177 24 ls st h Q ↔ GN d 177 24 ls h (ldR ls 0 fun a => nx 25 ls (.ref a :: st) h) Q := G_unf rfl rfl
theorem g177_25 : G d 177 25 ls st h Q ↔ GN d 177 25 ls h (pR st fun a r => ck (arr h a 9) (nx 28 ls (.int (hI h a 45) :: r) h)) Q := G_unf rfl rfl
theorem g177_28 : G d 177 28 ls st h Q ↔ GN d 177 28 ls h (nx 29 ls (.int (nI 1) :: st) h) Q := G_unf rfl rfl
theorem g177_29 : G d 177 29 ls st h Q ↔ GN d 177 29 ls h (pRII st fun a i x r => ck ((arr h a 11 ∨ arr h a 12) ∧ inb i (hLn h a)) (nx 30 ls r (sI h a i.toNatClampNeg (if lay a = 11 then vp_nar .byte x else vp_nar .boolean x)))) Q := G_unf rfl rfl
theorem g177_30 : G d 177 30 ls st h Q ↔ GN d 177 30 ls h (ldR ls 0 fun a => nx 31 ls (.ref a :: st) h) Q := G_unf rfl rfl
theorem g177_31 : G d 177 31 ls st h Q ↔ GN d 177 31 ls h (pR st fun a r => ck (arr h a 9) (nx 34 ls (rv (hR h a 44) :: r) h)) Q := G_unf rfl rfl
theorem g177_34 : G d 177 34 ls st h Q ↔ GN d 177 34 ls h (ldR ls 0 fun a => nx 35 ls (.ref a :: st) h) Q := G_unf rfl rfl
theorem g177_35 : G d 177 35 ls st h Q ↔ GN d 177 35 ls h (pR st fun a r => ck (arr h a 9) (nx 38 ls (.int (hI h a 45) :: r) h)) Q := G_unf rfl rfl
theorem g177_38 : G d 177 38 ls st h Q ↔ GN d 177 38 ls h (ldR ls 0 fun a => nx 39 ls (.ref a :: st) h) Q := G_unf rfl rfl
theorem g177_39 : G d 177 39 ls st h Q ↔ GN d 177 39 ls h (pR st fun a r => ck (arr h a 9) (nx 42 ls (.int (hI h a 48) :: r) h)) Q := G_unf rfl rfl
theorem g177_42 : G d 177 42 ls st h Q ↔ GN d 177 42 ls h (pRII st fun a i x r => ck (arr h a 10 ∧ inb i (hLn h a)) (nx 43 ls r (sI h a i.toNatClampNeg x))) Q := G_unf rfl rfl
theorem g177_43 : G d 177 43 ls st h Q ↔ GN d 177 43 ls h (ldR ls 0 fun a => nx 44 ls (.ref a :: st) h) Q := G_unf rfl rfl
theorem g177_44 : G d 177 44 ls st h Q ↔ GN d 177 44 ls h (p1 st fun v r => nx 45 ls (v :: v :: r) h) Q := G_unf rfl rfl
theorem g177_45 : G d 177 45 ls st h Q ↔ GN d 177 45 ls h (pR st fun a r => ck (arr h a 9) (nx 48 ls (.int (hI h a 45) :: r) h)) Q := G_unf rfl rfl
theorem g177_48 : G d 177 48 ls st h Q ↔ GN d 177 48 ls h (nx 49 ls (.int (nI 1) :: st) h) Q := G_unf rfl rfl
theorem g177_49 : G d 177 49 ls st h Q ↔ GN d 177 49 ls h (pII st fun x y r => nx 50 ls (.int (x + y) :: r) h) Q := G_unf rfl rfl
theorem g177_50 : G d 177 50 ls st h Q ↔ GN d 177 50 ls h (pRI st fun a x r => ck (arr h a 9) (nx 53 ls r (sI h a 45 x))) Q := G_unf rfl rfl
theorem g177_53 : G d 177 53 ls st h Q ↔ GN d 177 53 ls h (pE st (rtn none)) Q := G_unf rfl rfl
theorem g178_0 : G d 178 0 ls st h Q ↔ GN d 178 0 ls h (ldR ls 0 fun a => nx 1 ls (.ref a :: st) h) Q := G_unf rfl rfl
theorem g178_1 : G d 178 1 ls st h Q ↔ GN d 178 1 ls h (pR st fun a r => ck (arr h a 9) (nx 4 ls (.int (hI h a 46) :: r) h)) Q := G_unf rfl rfl
theorem g178_4 : G d 178 4 ls st h Q ↔ GN d 178 4 ls h (nx 6 ls (.int (nI 7) :: st) h) Q := G_unf rfl rfl
theorem g178_6 : G d 178 6 ls st h Q ↔ GN d 178 6 ls h (pII st fun x y r => br (¬ x = y) (nx 18 ls r h) (nx 9 ls r h)) Q := G_unf rfl rfl
theorem g178_9 : G d 178 9 ls st h Q ↔ GN d 178 9 ls h (ldR ls 0 fun a => nx 10 ls (.ref a :: st) h) Q := G_unf rfl rfl
theorem g178_10 : G d 178 10 ls st h Q ↔ GN d 178 10 ls h (nx 11 ls (.int (nI 5) :: st) h) Q := G_unf rfl rfl
theorem g178_11 : G d 178 11 ls st h Q ↔ GN d 178 11 ls h (ldR ls 0 fun a => nx 12 ls (.ref a :: st) h) Q := G_unf rfl rfl
theorem g178_12 : G d 178 12 ls st h Q ↔ GN d 178 12 ls h (pR st fun a r => ck (arr h a 9) (nx 15 ls (.int (hI h a 4) :: r) h)) Q := G_unf rfl rfl
theorem g178_15 : G d 178 15 ls st h Q ↔ GN d 178 15 ls h (pA 2 st fun as r => pR r fun a r => ck (r.length ≤ 4 ∧ arr h a 9) (cll 160 (.ref a :: as) r)) Q := G_unf rfl rfl
theorem g178_18 : G d 178 18 ls st h Q ↔ GN d 178 18 ls h (ldR ls 0 fun a => nx 19 ls (.ref a :: st) h) Q := G_unf rfl rfl
theorem g178_19 : G d 178 19 ls st h Q ↔ GN d 178 19 ls h (pR st fun a r => ck (arr h a 9) (nx 22 ls (.int (hI h a 8) :: r) h)) Q := G_unf rfl rfl
theorem g178_22 : G d 178 22 ls st h Q ↔ GN d 178 22 ls h (pI st fun x r => br (x ≤ 0) (nx 26 ls r h) (nx 25 ls r h)) Q := G_unf rfl rfl
theorem g178_25 : G d 178 25 ls st h Q ↔ GN d 178 25 ls h (pE st (rtn none)) Q := G_unf rfl rfl
theorem g178_26 : G d 178 26 ls st h Q ↔ GN d 178 26 ls h (ldR ls 0 fun a => nx 27 ls (.ref a :: st) h) Q := G_unf rfl rfl
theorem g178_27 : G d 178 27 ls st h Q ↔ GN d 178 27 ls h (p1 st fun v r => nx 28 ls (v :: v :: r) h) Q := G_unf rfl rfl
theorem g178_28 : G d 178 28 ls st h Q ↔ GN d 178 28 ls h (pR st fun a r => ck (arr h a 9) (nx 31 ls (.int (hI h a 46) :: r) h)) Q := G_unf rfl rfl
theorem g178_31 : G d 178 31 ls st h Q ↔ GN d 178 31 ls h (nx 32 ls (.int (nI 1) :: st) h) Q := G_unf rfl rfl
theorem g178_32 : G d 178 32 ls st h Q ↔ GN d 178 32 ls h (pII st fun x y r => nx 33 ls (.int (x + y) :: r) h) Q := G_unf rfl rfl
theorem g178_33 : G d 178 33 ls st h Q ↔ GN d 178 33 ls h (pRI st fun a x r => ck (arr h a 9) (nx 36 ls r (sI h a 46 x))) Q := G_unf rfl rfl
theorem g178_36 : G d 178 36 ls st h Q ↔ GN d 178 36 ls h (ldR ls 0 fun a => nx 37 ls (.ref a :: st) h) Q := G_unf rfl rfl
theorem g178_37 : G d 178 37 ls st h Q ↔ GN d 178 37 ls h (pA 0 st fun as r => pR r fun a r => ck (r.length ≤ 4 ∧ arr h a 9) (cll 164 (.ref a :: as) r)) Q := G_unf rfl rfl
theorem g178_40 : G d 178 40 ls st h Q ↔ GN d 178 40 ls h (ldR ls 0 fun a => nx 41 ls (.ref a :: st) h) Q := G_unf rfl rfl
theorem g178_41 : G d 178 41 ls st h Q ↔ GN d 178 41 ls h (ldI ls 1 fun x => nx 42 ls (.int x :: st) h) Q := G_unf rfl rfl
theorem g178_42 : G d 178 42 ls st h Q ↔ GN d 178 42 ls h (pA 1 st fun as r => pR r fun a r => ck (r.length ≤ 4 ∧ arr h a 9) (cll 177 (.ref a :: as) r)) Q := G_unf rfl rfl
theorem g178_45 : G d 178 45 ls st h Q ↔ GN d 178 45 ls h (pE st (rtn none)) Q := G_unf rfl rfl
theorem g179_0 : G d 179 0 ls st h Q ↔ GN d 179 0 ls h (ldI ls 0 fun x => nx 1 ls (.int x :: st) h) Q := G_unf rfl rfl
theorem g179_1 : G d 179 1 ls st h Q ↔ GN d 179 1 ls h (nx 2 ls (.int (nI 1) :: st) h) Q := G_unf rfl rfl
theorem g179_2 : G d 179 2 ls st h Q ↔ GN d 179 2 ls h (pII st fun x y r => br (x = y) (nx 10 ls r h) (nx 5 ls r h)) Q := G_unf rfl rfl
theorem g179_5 : G d 179 5 ls st h Q ↔ GN d 179 5 ls h (ldI ls 0 fun x => nx 6 ls (.int x :: st) h) Q := G_unf rfl rfl
theorem g179_6 : G d 179 6 ls st h Q ↔ GN d 179 6 ls h (nx 7 ls (.int (nI 5) :: st) h) Q := G_unf rfl rfl
theorem g179_7 : G d 179 7 ls st h Q ↔ GN d 179 7 ls h (pII st fun x y r => br (¬ x = y) (nx 14 ls r h) (nx 10 ls r h)) Q := G_unf rfl rfl
theorem g179_10 : G d 179 10 ls st h Q ↔ GN d 179 10 ls h (nx 11 ls (.int (nI 1) :: st) h) Q := G_unf rfl rfl
theorem g179_11 : G d 179 11 ls st h Q ↔ GN d 179 11 ls h (nx 15 ls st h) Q := G_unf rfl rfl
theorem g179_14 : G d 179 14 ls st h Q ↔ GN d 179 14 ls h (nx 15 ls (.int (nI 0) :: st) h) Q := G_unf rfl rfl
theorem g179_15 : G d 179 15 ls st h Q ↔ GN d 179 15 ls h (pIe st fun x => ck (x = 0 ∨ x = 1) (rtn (some (.int x)))) Q := G_unf rfl rfl
theorem g180_0 : G d 180 0 ls st h Q ↔ GN d 180 0 ls h (ldR ls 0 fun a => nx 1 ls (.ref a :: st) h) Q := G_unf rfl rfl
theorem g180_1 : G d 180 1 ls st h Q ↔ GN d 180 1 ls h (pA 0 st fun as r => pR r fun a r => ck (r.length ≤ 4 ∧ arr h a 9) (cll 163 (.ref a :: as) r)) Q := G_unf rfl rfl
theorem g180_4 : G d 180 4 ls st h Q ↔ GN d 180 4 ls h (ldR ls 0 fun a => nx 5 ls (.ref a :: st) h) Q := G_unf rfl rfl
theorem g180_5 : G d 180 5 ls st h Q ↔ GN d 180 5 ls h (pR st fun a r => ck (arr h a 9) (nx 8 ls (.int (hI h a 8) :: r) h)) Q := G_unf rfl rfl
theorem g180_8 : G d 180 8 ls st h Q ↔ GN d 180 8 ls h (pI st fun x r => br (x ≤ 0) (nx 13 ls r h) (nx 11 ls r h)) Q := G_unf rfl rfl
theorem g180_11 : G d 180 11 ls st h Q ↔ GN d 180 11 ls h (nx 12 ls (.int (nI 1) :: st) h) Q := G_unf rfl rfl
theorem g180_12 : G d 180 12 ls st h Q ↔ GN d 180 12 ls h (pIe st fun x => ck (x = 0 ∨ x = 1) (rtn (some (.int x)))) Q := G_unf rfl rfl
theorem g180_13 : G d 180 13 ls st h Q ↔ GN d 180 13 ls h (ldR ls 0 fun a => nx 14 ls (.ref a :: st) h) Q := G_unf rfl rfl
theorem g180_14 : G d 180 14 ls st h Q ↔ GN d 180 14 ls h (pR st fun a r => ck (arr h a 9) (nx 17 ls (.int (hI h a 45) :: r) h)) Q := G_unf rfl rfl
theorem g180_17 : G d 180 17 ls st h Q ↔ GN d 180 17 ls h (nx 18 ls (.int (nI 1) :: st) h) Q := G_unf rfl rfl
theorem g180_18 : G d 180 18 ls st h Q ↔ GN d 180 18 ls h (pII st fun x y r => nx 19 ls (.int (x - y) :: r) h) Q := G_unf rfl rfl
theorem g180_19 : G d 180 19 ls st h Q ↔ GN d 180 19 ls h (pI st fun x r => ck (1 < ls.length) (nx 20 (st1 ls 1 (.int x)) r h)) Q := G_unf rfl rfl
theorem g180_20 : G d 180 20 ls st h Q ↔ GN d 180 20 ls h (ldR ls 0 fun a => nx 21 ls (.ref a :: st) h) Q := G_unf rfl rfl
theorem g180_21 : G d 180 21 ls st h Q ↔ GN d 180 21 ls h (pR st fun a r => ck (arr h a 9) (nx 24 ls (rv (hR h a 40) :: r) h)) Q := G_unf rfl rfl
theorem g180_24 : G d 180 24 ls st h Q ↔ GN d 180 24 ls h (ldI ls 1 fun x => nx 25 ls (.int x :: st) h) Q := G_unf rfl rfl
theorem g180_25 : G d 180 25 ls st h Q ↔ GN d 180 25 ls h (pRI st fun a i r => br (a = 1000003) (ck (inb i (hS h).1) (nx 26 ls (.int ((hS h).2 i.toNatClampNeg) :: r) h)) (ck (arr h a 10 ∧ inb i (hLn h a)) (nx 26 ls (.int (hI h a i.toNatClampNeg) :: r) h))) Q := G_unf rfl rfl
theorem g180_26 : G d 180 26 ls st h Q ↔ GN d 180 26 ls h (pA 1 st fun as r => ck (r.length ≤ 4) (cll 179 as r)) Q := G_unf rfl rfl
theorem g180_29 : G d 180 29 ls st h Q ↔ GN d 180 29 ls h (pI st fun x r => br (x = 0) (nx 45 ls r h) (nx 32 ls r h)) Q := G_unf rfl rfl
theorem g180_32 : G d 180 32 ls st h Q ↔ GN d 180 32 ls h (ldR ls 0 fun a => nx 33 ls (.ref a :: st) h) Q := G_unf rfl rfl
theorem g180_33 : G d 180 33 ls st h Q ↔ GN d 180 33 ls h (pR st fun a r => ck (arr h a 9) (nx 36 ls (rv (hR h a 42) :: r) h)) Q := G_unf rfl rfl
theorem g180_36 : G d 180 36 ls st h Q ↔ GN d 180 36 ls h (ldI ls 1 fun x => nx 37 ls (.int x :: st) h) Q := G_unf rfl rfl
theorem g180_37 : G d 180 37 ls st h Q ↔ GN d 180 37 ls h (pRI st fun a i r => br (a = 1000002) (ck (inb i 208) (nx 38 ls (.int (ownB i.toNatClampNeg) :: r) h)) (ck ((arr h a 11 ∨ arr h a 12) ∧ inb i (hLn h a)) (nx 38 ls (.int (hI h a i.toNatClampNeg) :: r) h))) Q := G_unf rfl rfl
theorem g180_38 : G d 180 38 ls st h Q ↔ GN d 180 38 ls h (pI st fun x r => br (x = 0) (nx 45 ls r h) (nx 41 ls r h)) Q := G_unf rfl rfl
theorem g180_41 : G d 180 41 ls st h Q ↔ GN d 180 41 ls h (nx 42 ls (.int (nI 1) :: st) h) Q := G_unf rfl rfl
theorem g180_42 : G d 180 42 ls st h Q ↔ GN d 180 42 ls h (nx 46 ls st h) Q := G_unf rfl rfl
theorem g180_45 : G d 180 45 ls st h Q ↔ GN d 180 45 ls h (nx 46 ls (.int (nI 0) :: st) h) Q := G_unf rfl rfl
theorem g180_46 : G d 180 46 ls st h Q ↔ GN d 180 46 ls h (pI st fun x r => ck (2 < ls.length) (nx 47 (st1 ls 2 (.int x)) r h)) Q := G_unf rfl rfl
theorem g180_47 : G d 180 47 ls st h Q ↔ GN d 180 47 ls h (ldI ls 2 fun x => nx 48 ls (.int x :: st) h) Q := G_unf rfl rfl
theorem g180_48 : G d 180 48 ls st h Q ↔ GN d 180 48 ls h (pI st fun x r => br (x = 0) (nx 110 ls r h) (nx 51 ls r h)) Q := G_unf rfl rfl
theorem g180_51 : G d 180 51 ls st h Q ↔ GN d 180 51 ls h (ldR ls 0 fun a => nx 52 ls (.ref a :: st) h) Q := G_unf rfl rfl
theorem g180_52 : G d 180 52 ls st h Q ↔ GN d 180 52 ls h (nx 55 ls (.long (lN 7237492) :: st) h) Q := G_unf rfl rfl
theorem g180_55 : G d 180 55 ls st h Q ↔ GN d 180 55 ls h (pA 1 st fun as r => pR r fun a r => ck (r.length ≤ 4 ∧ arr h a 9) (cll 166 (.ref a :: as) r)) Q := G_unf rfl rfl
theorem g180_58 : G d 180 58 ls st h Q ↔ GN d 180 58 ls h (pI st fun x r => br (x = 0) (nx 110 ls r h) (nx 61 ls r h)) Q := G_unf rfl rfl
theorem g180_61 : G d 180 61 ls st h Q ↔ GN d 180 61 ls h (ldR ls 0 fun a => nx 62 ls (.ref a :: st) h) Q := G_unf rfl rfl
theorem g180_62 : G d 180 62 ls st h Q ↔ GN d 180 62 ls h (pR st fun a r => ck (arr h a 9) (nx 65 ls (.int (hI h a 46) :: r) h)) Q := G_unf rfl rfl
theorem g180_65 : G d 180 65 ls st h Q ↔ GN d 180 65 ls h (nx 67 ls (.int (nI 7) :: st) h) Q := G_unf rfl rfl
theorem g180_67 : G d 180 67 ls st h Q ↔ GN d 180 67 ls h (pII st fun x y r => br (¬ x = y) (nx 79 ls r h) (nx 70 ls r h)) Q := G_unf rfl rfl
theorem g180_70 : G d 180 70 ls st h Q ↔ GN d 180 70 ls h (ldR ls 0 fun a => nx 71 ls (.ref a :: st) h) Q := G_unf rfl rfl
theorem g180_71 : G d 180 71 ls st h Q ↔ GN d 180 71 ls h (nx 72 ls (.int (nI 5) :: st) h) Q := G_unf rfl rfl
theorem g180_72 : G d 180 72 ls st h Q ↔ GN d 180 72 ls h (ldR ls 0 fun a => nx 73 ls (.ref a :: st) h) Q := G_unf rfl rfl
theorem g180_73 : G d 180 73 ls st h Q ↔ GN d 180 73 ls h (pR st fun a r => ck (arr h a 9) (nx 76 ls (.int (hI h a 4) :: r) h)) Q := G_unf rfl rfl
theorem g180_76 : G d 180 76 ls st h Q ↔ GN d 180 76 ls h (pA 2 st fun as r => pR r fun a r => ck (r.length ≤ 4 ∧ arr h a 9) (cll 160 (.ref a :: as) r)) Q := G_unf rfl rfl
theorem g180_79 : G d 180 79 ls st h Q ↔ GN d 180 79 ls h (ldR ls 0 fun a => nx 80 ls (.ref a :: st) h) Q := G_unf rfl rfl
theorem g180_80 : G d 180 80 ls st h Q ↔ GN d 180 80 ls h (pR st fun a r => ck (arr h a 9) (nx 83 ls (.int (hI h a 8) :: r) h)) Q := G_unf rfl rfl
theorem g180_83 : G d 180 83 ls st h Q ↔ GN d 180 83 ls h (pI st fun x r => br (x ≤ 0) (nx 88 ls r h) (nx 86 ls r h)) Q := G_unf rfl rfl
theorem g180_86 : G d 180 86 ls st h Q ↔ GN d 180 86 ls h (nx 87 ls (.int (nI 1) :: st) h) Q := G_unf rfl rfl
theorem g180_87 : G d 180 87 ls st h Q ↔ GN d 180 87 ls h (pIe st fun x => ck (x = 0 ∨ x = 1) (rtn (some (.int x)))) Q := G_unf rfl rfl
theorem g180_88 : G d 180 88 ls st h Q ↔ GN d 180 88 ls h (ldR ls 0 fun a => nx 89 ls (.ref a :: st) h) Q := G_unf rfl rfl
theorem g180_89 : G d 180 89 ls st h Q ↔ GN d 180 89 ls h (p1 st fun v r => nx 90 ls (v :: v :: r) h) Q := G_unf rfl rfl
theorem g180_90 : G d 180 90 ls st h Q ↔ GN d 180 90 ls h (pR st fun a r => ck (arr h a 9) (nx 93 ls (.int (hI h a 46) :: r) h)) Q := G_unf rfl rfl
theorem g180_93 : G d 180 93 ls st h Q ↔ GN d 180 93 ls h (nx 94 ls (.int (nI 1) :: st) h) Q := G_unf rfl rfl
theorem g180_94 : G d 180 94 ls st h Q ↔ GN d 180 94 ls h (pII st fun x y r => nx 95 ls (.int (x + y) :: r) h) Q := G_unf rfl rfl
theorem g180_95 : G d 180 95 ls st h Q ↔ GN d 180 95 ls h (pRI st fun a x r => ck (arr h a 9) (nx 98 ls r (sI h a 46 x))) Q := G_unf rfl rfl
theorem g180_98 : G d 180 98 ls st h Q ↔ GN d 180 98 ls h (ldR ls 0 fun a => nx 99 ls (.ref a :: st) h) Q := G_unf rfl rfl
theorem g180_99 : G d 180 99 ls st h Q ↔ GN d 180 99 ls h (nx 101 ls (.int (nI 22) :: st) h) Q := G_unf rfl rfl
theorem g180_101 : G d 180 101 ls st h Q ↔ GN d 180 101 ls h (pA 1 st fun as r => pR r fun a r => ck (r.length ≤ 4 ∧ arr h a 9) (cll 176 (.ref a :: as) r)) Q := G_unf rfl rfl
theorem g180_104 : G d 180 104 ls st h Q ↔ GN d 180 104 ls h (ldR ls 0 fun a => nx 105 ls (.ref a :: st) h) Q := G_unf rfl rfl
theorem g180_105 : G d 180 105 ls st h Q ↔ GN d 180 105 ls h (pA 0 st fun as r => pR r fun a r => ck (r.length ≤ 4 ∧ arr h a 9) (cll 164 (.ref a :: as) r)) Q := G_unf rfl rfl
theorem g180_108 : G d 180 108 ls st h Q ↔ GN d 180 108 ls h (nx 109 ls (.int (nI 0) :: st) h) Q := G_unf rfl rfl
theorem g180_109 : G d 180 109 ls st h Q ↔ GN d 180 109 ls h (pIe st fun x => ck (x = 0 ∨ x = 1) (rtn (some (.int x)))) Q := G_unf rfl rfl
theorem g180_110 : G d 180 110 ls st h Q ↔ GN d 180 110 ls h (ldR ls 0 fun a => nx 111 ls (.ref a :: st) h) Q := G_unf rfl rfl
theorem g180_111 : G d 180 111 ls st h Q ↔ GN d 180 111 ls h (pR st fun a r => ck (arr h a 9) (nx 114 ls (rv (hR h a 42) :: r) h)) Q := G_unf rfl rfl
theorem g180_114 : G d 180 114 ls st h Q ↔ GN d 180 114 ls h (ldI ls 1 fun x => nx 115 ls (.int x :: st) h) Q := G_unf rfl rfl
theorem g180_115 : G d 180 115 ls st h Q ↔ GN d 180 115 ls h (nx 116 ls (.int (nI 0) :: st) h) Q := G_unf rfl rfl
theorem g180_116 : G d 180 116 ls st h Q ↔ GN d 180 116 ls h (pRII st fun a i x r => ck ((arr h a 11 ∨ arr h a 12) ∧ inb i (hLn h a)) (nx 117 ls r (sI h a i.toNatClampNeg (if lay a = 11 then vp_nar .byte x else vp_nar .boolean x)))) Q := G_unf rfl rfl
theorem g180_117 : G d 180 117 ls st h Q ↔ GN d 180 117 ls h (ldI ls 2 fun x => nx 118 ls (.int x :: st) h) Q := G_unf rfl rfl
theorem g180_118 : G d 180 118 ls st h Q ↔ GN d 180 118 ls h (pI st fun x r => br (x = 0) (nx 137 ls r h) (nx 121 ls r h)) Q := G_unf rfl rfl
theorem g180_121 : G d 180 121 ls st h Q ↔ GN d 180 121 ls h (ldR ls 0 fun a => nx 122 ls (.ref a :: st) h) Q := G_unf rfl rfl
theorem g180_122 : G d 180 122 ls st h Q ↔ GN d 180 122 ls h (nx 124 ls (.int (nI 91) :: st) h) Q := G_unf rfl rfl
theorem g180_124 : G d 180 124 ls st h Q ↔ GN d 180 124 ls h (pA 1 st fun as r => pR r fun a r => ck (r.length ≤ 4 ∧ arr h a 9) (cll 165 (.ref a :: as) r)) Q := G_unf rfl rfl
theorem g180_127 : G d 180 127 ls st h Q ↔ GN d 180 127 ls h (pI st fun x r => br (x = 0) (nx 137 ls r h) (nx 130 ls r h)) Q := G_unf rfl rfl
theorem g180_130 : G d 180 130 ls st h Q ↔ GN d 180 130 ls h (ldR ls 0 fun a => nx 131 ls (.ref a :: st) h) Q := G_unf rfl rfl
theorem g180_131 : G d 180 131 ls st h Q ↔ GN d 180 131 ls h (nx 132 ls (.int (nI 5) :: st) h) Q := G_unf rfl rfl
theorem g180_132 : G d 180 132 ls st h Q ↔ GN d 180 132 ls h (pA 1 st fun as r => pR r fun a r => ck (r.length ≤ 4 ∧ arr h a 9) (cll 178 (.ref a :: as) r)) Q := G_unf rfl rfl
theorem g180_135 : G d 180 135 ls st h Q ↔ GN d 180 135 ls h (nx 136 ls (.int (nI 0) :: st) h) Q := G_unf rfl rfl
theorem g180_136 : G d 180 136 ls st h Q ↔ GN d 180 136 ls h (pIe st fun x => ck (x = 0 ∨ x = 1) (rtn (some (.int x)))) Q := G_unf rfl rfl
theorem g180_137 : G d 180 137 ls st h Q ↔ GN d 180 137 ls h (ldI ls 2 fun x => nx 138 ls (.int x :: st) h) Q := G_unf rfl rfl
theorem g180_138 : G d 180 138 ls st h Q ↔ GN d 180 138 ls h (pI st fun x r => br (x = 0) (nx 171 ls r h) (nx 141 ls r h)) Q := G_unf rfl rfl
theorem g180_141 : G d 180 141 ls st h Q ↔ GN d 180 141 ls h (ldR ls 0 fun a => nx 142 ls (.ref a :: st) h) Q := G_unf rfl rfl
theorem g180_142 : G d 180 142 ls st h Q ↔ GN d 180 142 ls h (nx 145 ls (.long (lN 6384748) :: st) h) Q := G_unf rfl rfl
theorem g180_145 : G d 180 145 ls st h Q ↔ GN d 180 145 ls h (pA 1 st fun as r => pR r fun a r => ck (r.length ≤ 4 ∧ arr h a 9) (cll 166 (.ref a :: as) r)) Q := G_unf rfl rfl
set_option maxRecDepth 100000 in
theorem g180_148 : G d 180 148 ls st h Q ↔ GN d 180 148 ls h (pI st fun x r => br (x = 0) (nx 171 ls r h) (nx 151 ls r h)) Q := G_unf rfl rfl
set_option maxRecDepth 100000 in
theorem g180_151 : G d 180 151 ls st h Q ↔ GN d 180 151 ls h (ldR ls 0 fun a => nx 152 ls (.ref a :: st) h) Q := G_unf rfl rfl
set_option maxRecDepth 100000 in
theorem g180_152 : G d 180 152 ls st h Q ↔ GN d 180 152 ls h (nx 154 ls (.int (nI 9) :: st) h) Q := G_unf rfl rfl
set_option maxRecDepth 100000 in
theorem g180_154 : G d 180 154 ls st h Q ↔ GN d 180 154 ls h (nx 155 ls (.int (nI 0) :: st) h) Q := G_unf rfl rfl
set_option maxRecDepth 100000 in
theorem g180_155 : G d 180 155 ls st h Q ↔ GN d 180 155 ls h (pA 2 st fun as r => pR r fun a r => ck (r.length ≤ 4 ∧ arr h a 9) (cll 173 (.ref a :: as) r)) Q := G_unf rfl rfl
set_option maxRecDepth 100000 in
theorem g180_158 : G d 180 158 ls st h Q ↔ GN d 180 158 ls h (ldR ls 0 fun a => nx 159 ls (.ref a :: st) h) Q := G_unf rfl rfl
set_option maxRecDepth 100000 in
theorem g180_159 : G d 180 159 ls st h Q ↔ GN d 180 159 ls h (pR st fun a r => ck (arr h a 9) (nx 162 ls (rv (hR h a 41) :: r) h)) Q := G_unf rfl rfl
set_option maxRecDepth 100000 in
theorem g180_162 : G d 180 162 ls st h Q ↔ GN d 180 162 ls h (ldI ls 1 fun x => nx 163 ls (.int x :: st) h) Q := G_unf rfl rfl
set_option maxRecDepth 100000 in
theorem g180_163 : G d 180 163 ls st h Q ↔ GN d 180 163 ls h (nx 164 ls (.int (nI 2) :: st) h) Q := G_unf rfl rfl
set_option maxRecDepth 100000 in
theorem g180_164 : G d 180 164 ls st h Q ↔ GN d 180 164 ls h (pRII st fun a i x r => ck (arr h a 10 ∧ inb i (hLn h a)) (nx 165 ls r (sI h a i.toNatClampNeg x))) Q := G_unf rfl rfl
set_option maxRecDepth 100000 in
theorem g180_165 : G d 180 165 ls st h Q ↔ GN d 180 165 ls h (ldR ls 0 fun a => nx 166 ls (.ref a :: st) h) Q := G_unf rfl rfl
set_option maxRecDepth 100000 in
theorem g180_166 : G d 180 166 ls st h Q ↔ GN d 180 166 ls h (pA 0 st fun as r => pR r fun a r => ck (r.length ≤ 4 ∧ arr h a 9) (cll 164 (.ref a :: as) r)) Q := G_unf rfl rfl
set_option maxRecDepth 100000 in
theorem g180_169 : G d 180 169 ls st h Q ↔ GN d 180 169 ls h (nx 170 ls (.int (nI 1) :: st) h) Q := G_unf rfl rfl
set_option maxRecDepth 100000 in
theorem g180_170 : G d 180 170 ls st h Q ↔ GN d 180 170 ls h (pIe st fun x => ck (x = 0 ∨ x = 1) (rtn (some (.int x)))) Q := G_unf rfl rfl
set_option maxRecDepth 100000 in
theorem g180_171 : G d 180 171 ls st h Q ↔ GN d 180 171 ls h (ldR ls 0 fun a => nx 172 ls (.ref a :: st) h) Q := G_unf rfl rfl
set_option maxRecDepth 100000 in
theorem g180_172 : G d 180 172 ls st h Q ↔ GN d 180 172 ls h (nx 174 ls (.int (nI 40) :: st) h) Q := G_unf rfl rfl
set_option maxRecDepth 100000 in
theorem g180_174 : G d 180 174 ls st h Q ↔ GN d 180 174 ls h (pA 1 st fun as r => pR r fun a r => ck (r.length ≤ 4 ∧ arr h a 9) (cll 165 (.ref a :: as) r)) Q := G_unf rfl rfl
set_option maxRecDepth 100000 in
theorem g180_177 : G d 180 177 ls st h Q ↔ GN d 180 177 ls h (pI st fun x r => br (x = 0) (nx 187 ls r h) (nx 180 ls r h)) Q := G_unf rfl rfl
set_option maxRecDepth 100000 in
theorem g180_180 : G d 180 180 ls st h Q ↔ GN d 180 180 ls h (ldR ls 0 fun a => nx 181 ls (.ref a :: st) h) Q := G_unf rfl rfl
set_option maxRecDepth 100000 in
theorem g180_181 : G d 180 181 ls st h Q ↔ GN d 180 181 ls h (nx 182 ls (.int (nI 2) :: st) h) Q := G_unf rfl rfl
set_option maxRecDepth 100000 in
theorem g180_182 : G d 180 182 ls st h Q ↔ GN d 180 182 ls h (pA 1 st fun as r => pR r fun a r => ck (r.length ≤ 4 ∧ arr h a 9) (cll 178 (.ref a :: as) r)) Q := G_unf rfl rfl
set_option maxRecDepth 100000 in
theorem g180_185 : G d 180 185 ls st h Q ↔ GN d 180 185 ls h (nx 186 ls (.int (nI 0) :: st) h) Q := G_unf rfl rfl
set_option maxRecDepth 100000 in
theorem g180_186 : G d 180 186 ls st h Q ↔ GN d 180 186 ls h (pIe st fun x => ck (x = 0 ∨ x = 1) (rtn (some (.int x)))) Q := G_unf rfl rfl
set_option maxRecDepth 100000 in
theorem g180_187 : G d 180 187 ls st h Q ↔ GN d 180 187 ls h (ldR ls 0 fun a => nx 188 ls (.ref a :: st) h) Q := G_unf rfl rfl
set_option maxRecDepth 100000 in
theorem g180_188 : G d 180 188 ls st h Q ↔ GN d 180 188 ls h (nx 191 ls (.long (lN 7170414) :: st) h) Q := G_unf rfl rfl
set_option maxRecDepth 100000 in
theorem g180_191 : G d 180 191 ls st h Q ↔ GN d 180 191 ls h (pA 1 st fun as r => pR r fun a r => ck (r.length ≤ 4 ∧ arr h a 9) (cll 166 (.ref a :: as) r)) Q := G_unf rfl rfl
set_option maxRecDepth 100000 in
theorem g180_194 : G d 180 194 ls st h Q ↔ GN d 180 194 ls h (pI st fun x r => br (¬ x = 0) (nx 207 ls r h) (nx 197 ls r h)) Q := G_unf rfl rfl
set_option maxRecDepth 100000 in
theorem g180_197 : G d 180 197 ls st h Q ↔ GN d 180 197 ls h (ldR ls 0 fun a => nx 198 ls (.ref a :: st) h) Q := G_unf rfl rfl
set_option maxRecDepth 100000 in
theorem g180_198 : G d 180 198 ls st h Q ↔ GN d 180 198 ls h (nx 201 ls (.long (lN 7168376) :: st) h) Q := G_unf rfl rfl
set_option maxRecDepth 100000 in
theorem g180_201 : G d 180 201 ls st h Q ↔ GN d 180 201 ls h (pA 1 st fun as r => pR r fun a r => ck (r.length ≤ 4 ∧ arr h a 9) (cll 166 (.ref a :: as) r)) Q := G_unf rfl rfl
set_option maxRecDepth 100000 in
theorem g180_204 : G d 180 204 ls st h Q ↔ GN d 180 204 ls h (pI st fun x r => br (x = 0) (nx 277 ls r h) (nx 207 ls r h)) Q := G_unf rfl rfl
set_option maxRecDepth 100000 in
theorem g180_207 : G d 180 207 ls st h Q ↔ GN d 180 207 ls h (ldR ls 0 fun a => nx 208 ls (.ref a :: st) h) Q := G_unf rfl rfl
set_option maxRecDepth 100000 in
theorem g180_208 : G d 180 208 ls st h Q ↔ GN d 180 208 ls h (nx 211 ls (.long (lN 7170414) :: st) h) Q := G_unf rfl rfl
set_option maxRecDepth 100000 in
theorem g180_211 : G d 180 211 ls st h Q ↔ GN d 180 211 ls h (pA 1 st fun as r => pR r fun a r => ck (r.length ≤ 4 ∧ arr h a 9) (cll 166 (.ref a :: as) r)) Q := G_unf rfl rfl
set_option maxRecDepth 100000 in
theorem g180_214 : G d 180 214 ls st h Q ↔ GN d 180 214 ls h (pI st fun x r => br (x = 0) (nx 222 ls r h) (nx 217 ls r h)) Q := G_unf rfl rfl
set_option maxRecDepth 100000 in
theorem g180_217 : G d 180 217 ls st h Q ↔ GN d 180 217 ls h (nx 219 ls (.int (nI 15) :: st) h) Q := G_unf rfl rfl
set_option maxRecDepth 100000 in
theorem g180_219 : G d 180 219 ls st h Q ↔ GN d 180 219 ls h (nx 224 ls st h) Q := G_unf rfl rfl
set_option maxRecDepth 100000 in
theorem g180_222 : G d 180 222 ls st h Q ↔ GN d 180 222 ls h (nx 224 ls (.int (nI 16) :: st) h) Q := G_unf rfl rfl
set_option maxRecDepth 100000 in
theorem g180_224 : G d 180 224 ls st h Q ↔ GN d 180 224 ls h (pI st fun x r => ck (3 < ls.length) (nx 225 (st1 ls 3 (.int x)) r h)) Q := G_unf rfl rfl
set_option maxRecDepth 100000 in
theorem g180_225 : G d 180 225 ls st h Q ↔ GN d 180 225 ls h (ldR ls 0 fun a => nx 226 ls (.ref a :: st) h) Q := G_unf rfl rfl
set_option maxRecDepth 100000 in
theorem g180_226 : G d 180 226 ls st h Q ↔ GN d 180 226 ls h (pA 0 st fun as r => pR r fun a r => ck (r.length ≤ 4 ∧ arr h a 9) (cll 164 (.ref a :: as) r)) Q := G_unf rfl rfl
set_option maxRecDepth 100000 in
theorem g180_229 : G d 180 229 ls st h Q ↔ GN d 180 229 ls h (ldR ls 0 fun a => nx 230 ls (.ref a :: st) h) Q := G_unf rfl rfl
set_option maxRecDepth 100000 in
theorem g180_230 : G d 180 230 ls st h Q ↔ GN d 180 230 ls h (pA 0 st fun as r => pR r fun a r => ck (r.length ≤ 4 ∧ arr h a 9) (cll 163 (.ref a :: as) r)) Q := G_unf rfl rfl
set_option maxRecDepth 100000 in
theorem g180_233 : G d 180 233 ls st h Q ↔ GN d 180 233 ls h (ldR ls 0 fun a => nx 234 ls (.ref a :: st) h) Q := G_unf rfl rfl
set_option maxRecDepth 100000 in
theorem g180_234 : G d 180 234 ls st h Q ↔ GN d 180 234 ls h (nx 236 ls (.int (nI 40) :: st) h) Q := G_unf rfl rfl
set_option maxRecDepth 100000 in
theorem g180_236 : G d 180 236 ls st h Q ↔ GN d 180 236 ls h (pA 1 st fun as r => pR r fun a r => ck (r.length ≤ 4 ∧ arr h a 9) (cll 165 (.ref a :: as) r)) Q := G_unf rfl rfl
set_option maxRecDepth 100000 in
theorem g180_239 : G d 180 239 ls st h Q ↔ GN d 180 239 ls h (pI st fun x r => br (¬ x = 0) (nx 251 ls r h) (nx 242 ls r h)) Q := G_unf rfl rfl
set_option maxRecDepth 100000 in
theorem g180_242 : G d 180 242 ls st h Q ↔ GN d 180 242 ls h (ldR ls 0 fun a => nx 243 ls (.ref a :: st) h) Q := G_unf rfl rfl
set_option maxRecDepth 100000 in
theorem g180_243 : G d 180 243 ls st h Q ↔ GN d 180 243 ls h (nx 244 ls (.int (nI 1) :: st) h) Q := G_unf rfl rfl
set_option maxRecDepth 100000 in
theorem g180_244 : G d 180 244 ls st h Q ↔ GN d 180 244 ls h (ldR ls 0 fun a => nx 245 ls (.ref a :: st) h) Q := G_unf rfl rfl
set_option maxRecDepth 100000 in
theorem g180_245 : G d 180 245 ls st h Q ↔ GN d 180 245 ls h (pR st fun a r => ck (arr h a 9) (nx 248 ls (.int (hI h a 4) :: r) h)) Q := G_unf rfl rfl
set_option maxRecDepth 100000 in
theorem g180_248 : G d 180 248 ls st h Q ↔ GN d 180 248 ls h (pA 2 st fun as r => pR r fun a r => ck (r.length ≤ 4 ∧ arr h a 9) (cll 160 (.ref a :: as) r)) Q := G_unf rfl rfl
set_option maxRecDepth 100000 in
theorem g180_251 : G d 180 251 ls st h Q ↔ GN d 180 251 ls h (ldR ls 0 fun a => nx 252 ls (.ref a :: st) h) Q := G_unf rfl rfl
set_option maxRecDepth 100000 in
theorem g180_252 : G d 180 252 ls st h Q ↔ GN d 180 252 ls h (nx 253 ls (.int (nI 3) :: st) h) Q := G_unf rfl rfl
set_option maxRecDepth 100000 in
theorem g180_253 : G d 180 253 ls st h Q ↔ GN d 180 253 ls h (pA 1 st fun as r => pR r fun a r => ck (r.length ≤ 4 ∧ arr h a 9) (cll 178 (.ref a :: as) r)) Q := G_unf rfl rfl
set_option maxRecDepth 100000 in
theorem g180_256 : G d 180 256 ls st h Q ↔ GN d 180 256 ls h (ldR ls 0 fun a => nx 257 ls (.ref a :: st) h) Q := G_unf rfl rfl
set_option maxRecDepth 100000 in
theorem g180_257 : G d 180 257 ls st h Q ↔ GN d 180 257 ls h (pR st fun a r => ck (arr h a 9) (nx 260 ls (.int (hI h a 8) :: r) h)) Q := G_unf rfl rfl
set_option maxRecDepth 100000 in
theorem g180_260 : G d 180 260 ls st h Q ↔ GN d 180 260 ls h (pI st fun x r => br (¬ x = 0) (nx 275 ls r h) (nx 263 ls r h)) Q := G_unf rfl rfl
set_option maxRecDepth 100000 in
theorem g180_263 : G d 180 263 ls st h Q ↔ GN d 180 263 ls h (ldR ls 0 fun a => nx 264 ls (.ref a :: st) h) Q := G_unf rfl rfl
set_option maxRecDepth 100000 in
theorem g180_264 : G d 180 264 ls st h Q ↔ GN d 180 264 ls h (pR st fun a r => ck (arr h a 9) (nx 267 ls (rv (hR h a 43) :: r) h)) Q := G_unf rfl rfl
set_option maxRecDepth 100000 in
theorem g180_267 : G d 180 267 ls st h Q ↔ GN d 180 267 ls h (ldR ls 0 fun a => nx 268 ls (.ref a :: st) h) Q := G_unf rfl rfl
set_option maxRecDepth 100000 in
theorem g180_268 : G d 180 268 ls st h Q ↔ GN d 180 268 ls h (pR st fun a r => ck (arr h a 9) (nx 271 ls (.int (hI h a 45) :: r) h)) Q := G_unf rfl rfl
set_option maxRecDepth 100000 in
theorem g180_271 : G d 180 271 ls st h Q ↔ GN d 180 271 ls h (nx 272 ls (.int (nI 1) :: st) h) Q := G_unf rfl rfl
set_option maxRecDepth 100000 in
theorem g180_272 : G d 180 272 ls st h Q ↔ GN d 180 272 ls h (pII st fun x y r => nx 273 ls (.int (x - y) :: r) h) Q := G_unf rfl rfl
set_option maxRecDepth 100000 in
theorem g180_273 : G d 180 273 ls st h Q ↔ GN d 180 273 ls h (ldI ls 3 fun x => nx 274 ls (.int x :: st) h) Q := G_unf rfl rfl
set_option maxRecDepth 100000 in
theorem g180_274 : G d 180 274 ls st h Q ↔ GN d 180 274 ls h (pRII st fun a i x r => ck (arr h a 10 ∧ inb i (hLn h a)) (nx 275 ls r (sI h a i.toNatClampNeg x))) Q := G_unf rfl rfl
set_option maxRecDepth 100000 in
theorem g180_275 : G d 180 275 ls st h Q ↔ GN d 180 275 ls h (nx 276 ls (.int (nI 0) :: st) h) Q := G_unf rfl rfl
set_option maxRecDepth 100000 in
theorem g180_276 : G d 180 276 ls st h Q ↔ GN d 180 276 ls h (pIe st fun x => ck (x = 0 ∨ x = 1) (rtn (some (.int x)))) Q := G_unf rfl rfl
set_option maxRecDepth 100000 in
theorem g180_277 : G d 180 277 ls st h Q ↔ GN d 180 277 ls h (ldR ls 0 fun a => nx 278 ls (.ref a :: st) h) Q := G_unf rfl rfl
set_option maxRecDepth 100000 in
theorem g180_278 : G d 180 278 ls st h Q ↔ GN d 180 278 ls h (pR st fun a r => ck (arr h a 9) (nx 281 ls (.int (hI h a 3) :: r) h)) Q := G_unf rfl rfl
set_option maxRecDepth 100000 in
theorem g180_281 : G d 180 281 ls st h Q ↔ GN d 180 281 ls h (nx 282 ls (.int (nI 2) :: st) h) Q := G_unf rfl rfl
set_option maxRecDepth 100000 in
theorem g180_282 : G d 180 282 ls st h Q ↔ GN d 180 282 ls h (pII st fun x y r => br (¬ x = y) (nx 289 ls r h) (nx 285 ls r h)) Q := G_unf rfl rfl
set_option maxRecDepth 100000 in
theorem g180_285 : G d 180 285 ls st h Q ↔ GN d 180 285 ls h (nx 286 ls (.int (nI 0) :: st) h) Q := G_unf rfl rfl
set_option maxRecDepth 100000 in
theorem g180_286 : G d 180 286 ls st h Q ↔ GN d 180 286 ls h (nx 405 ls st h) Q := G_unf rfl rfl
set_option maxRecDepth 100000 in
theorem g180_289 : G d 180 289 ls st h Q ↔ GN d 180 289 ls h (ldR ls 0 fun a => nx 290 ls (.ref a :: st) h) Q := G_unf rfl rfl
set_option maxRecDepth 100000 in
theorem g180_290 : G d 180 290 ls st h Q ↔ GN d 180 290 ls h (nx 293 ls (.long (lN 512970880104) :: st) h) Q := G_unf rfl rfl
set_option maxRecDepth 100000 in
theorem g180_293 : G d 180 293 ls st h Q ↔ GN d 180 293 ls h (pA 1 st fun as r => pR r fun a r => ck (r.length ≤ 4 ∧ arr h a 9) (cll 166 (.ref a :: as) r)) Q := G_unf rfl rfl
set_option maxRecDepth 100000 in
theorem g180_296 : G d 180 296 ls st h Q ↔ GN d 180 296 ls h (pI st fun x r => br (x = 0) (nx 303 ls r h) (nx 299 ls r h)) Q := G_unf rfl rfl
set_option maxRecDepth 100000 in
theorem g180_299 : G d 180 299 ls st h Q ↔ GN d 180 299 ls h (nx 300 ls (.int (nI 1) :: st) h) Q := G_unf rfl rfl
set_option maxRecDepth 100000 in
theorem g180_300 : G d 180 300 ls st h Q ↔ GN d 180 300 ls h (nx 405 ls st h) Q := G_unf rfl rfl
set_option maxRecDepth 100000 in
theorem g180_303 : G d 180 303 ls st h Q ↔ GN d 180 303 ls h (ldR ls 0 fun a => nx 304 ls (.ref a :: st) h) Q := G_unf rfl rfl
set_option maxRecDepth 100000 in
theorem g180_304 : G d 180 304 ls st h Q ↔ GN d 180 304 ls h (nx 307 ls (.long (lN 6578553) :: st) h) Q := G_unf rfl rfl
set_option maxRecDepth 100000 in
theorem g180_307 : G d 180 307 ls st h Q ↔ GN d 180 307 ls h (pA 1 st fun as r => pR r fun a r => ck (r.length ≤ 4 ∧ arr h a 9) (cll 166 (.ref a :: as) r)) Q := G_unf rfl rfl
set_option maxRecDepth 100000 in
theorem g180_310 : G d 180 310 ls st h Q ↔ GN d 180 310 ls h (pI st fun x r => br (x = 0) (nx 317 ls r h) (nx 313 ls r h)) Q := G_unf rfl rfl
set_option maxRecDepth 100000 in
theorem g180_313 : G d 180 313 ls st h Q ↔ GN d 180 313 ls h (nx 314 ls (.int (nI 2) :: st) h) Q := G_unf rfl rfl
set_option maxRecDepth 100000 in
theorem g180_314 : G d 180 314 ls st h Q ↔ GN d 180 314 ls h (nx 405 ls st h) Q := G_unf rfl rfl
set_option maxRecDepth 100000 in
theorem g180_317 : G d 180 317 ls st h Q ↔ GN d 180 317 ls h (ldR ls 0 fun a => nx 318 ls (.ref a :: st) h) Q := G_unf rfl rfl
set_option maxRecDepth 100000 in
theorem g180_318 : G d 180 318 ls st h Q ↔ GN d 180 318 ls h (nx 321 ls (.long (lN 126943972648308) :: st) h) Q := G_unf rfl rfl
set_option maxRecDepth 100000 in
theorem g180_321 : G d 180 321 ls st h Q ↔ GN d 180 321 ls h (pA 1 st fun as r => pR r fun a r => ck (r.length ≤ 4 ∧ arr h a 9) (cll 166 (.ref a :: as) r)) Q := G_unf rfl rfl
set_option maxRecDepth 100000 in
theorem g180_324 : G d 180 324 ls st h Q ↔ GN d 180 324 ls h (pI st fun x r => br (x = 0) (nx 331 ls r h) (nx 327 ls r h)) Q := G_unf rfl rfl
set_option maxRecDepth 100000 in
theorem g180_327 : G d 180 327 ls st h Q ↔ GN d 180 327 ls h (nx 328 ls (.int (nI 3) :: st) h) Q := G_unf rfl rfl
set_option maxRecDepth 100000 in
theorem g180_328 : G d 180 328 ls st h Q ↔ GN d 180 328 ls h (nx 405 ls st h) Q := G_unf rfl rfl
set_option maxRecDepth 100000 in
theorem g180_331 : G d 180 331 ls st h Q ↔ GN d 180 331 ls h (ldR ls 0 fun a => nx 332 ls (.ref a :: st) h) Q := G_unf rfl rfl
set_option maxRecDepth 100000 in
theorem g180_332 : G d 180 332 ls st h Q ↔ GN d 180 332 ls h (nx 335 ls (.long (lN 478694368626) :: st) h) Q := G_unf rfl rfl
set_option maxRecDepth 100000 in
theorem g180_335 : G d 180 335 ls st h Q ↔ GN d 180 335 ls h (pA 1 st fun as r => pR r fun a r => ck (r.length ≤ 4 ∧ arr h a 9) (cll 166 (.ref a :: as) r)) Q := G_unf rfl rfl
set_option maxRecDepth 100000 in
theorem g180_338 : G d 180 338 ls st h Q ↔ GN d 180 338 ls h (pI st fun x r => br (x = 0) (nx 345 ls r h) (nx 341 ls r h)) Q := G_unf rfl rfl
set_option maxRecDepth 100000 in
theorem g180_341 : G d 180 341 ls st h Q ↔ GN d 180 341 ls h (nx 342 ls (.int (nI 4) :: st) h) Q := G_unf rfl rfl
set_option maxRecDepth 100000 in
theorem g180_342 : G d 180 342 ls st h Q ↔ GN d 180 342 ls h (nx 405 ls st h) Q := G_unf rfl rfl
set_option maxRecDepth 100000 in
theorem g180_345 : G d 180 345 ls st h Q ↔ GN d 180 345 ls h (ldR ls 0 fun a => nx 346 ls (.ref a :: st) h) Q := G_unf rfl rfl
set_option maxRecDepth 100000 in
theorem g180_346 : G d 180 346 ls st h Q ↔ GN d 180 346 ls h (nx 349 ls (.long (lN 1818584692) :: st) h) Q := G_unf rfl rfl
set_option maxRecDepth 100000 in
theorem g180_349 : G d 180 349 ls st h Q ↔ GN d 180 349 ls h (pA 1 st fun as r => pR r fun a r => ck (r.length ≤ 4 ∧ arr h a 9) (cll 166 (.ref a :: as) r)) Q := G_unf rfl rfl
set_option maxRecDepth 100000 in
theorem g180_352 : G d 180 352 ls st h Q ↔ GN d 180 352 ls h (pI st fun x r => br (x = 0) (nx 359 ls r h) (nx 355 ls r h)) Q := G_unf rfl rfl
set_option maxRecDepth 100000 in
theorem g180_355 : G d 180 355 ls st h Q ↔ GN d 180 355 ls h (nx 356 ls (.int (nI 5) :: st) h) Q := G_unf rfl rfl
set_option maxRecDepth 100000 in
theorem g180_356 : G d 180 356 ls st h Q ↔ GN d 180 356 ls h (nx 405 ls st h) Q := G_unf rfl rfl
set_option maxRecDepth 100000 in
theorem g180_359 : G d 180 359 ls st h Q ↔ GN d 180 359 ls h (ldR ls 0 fun a => nx 360 ls (.ref a :: st) h) Q := G_unf rfl rfl
set_option maxRecDepth 100000 in
theorem g180_360 : G d 180 360 ls st h Q ↔ GN d 180 360 ls h (nx 363 ls (.long (lN 1684109683) :: st) h) Q := G_unf rfl rfl
set_option maxRecDepth 100000 in
theorem g180_363 : G d 180 363 ls st h Q ↔ GN d 180 363 ls h (pA 1 st fun as r => pR r fun a r => ck (r.length ≤ 4 ∧ arr h a 9) (cll 166 (.ref a :: as) r)) Q := G_unf rfl rfl
set_option maxRecDepth 100000 in
theorem g180_366 : G d 180 366 ls st h Q ↔ GN d 180 366 ls h (pI st fun x r => br (x = 0) (nx 374 ls r h) (nx 369 ls r h)) Q := G_unf rfl rfl
set_option maxRecDepth 100000 in
theorem g180_369 : G d 180 369 ls st h Q ↔ GN d 180 369 ls h (nx 371 ls (.int (nI 6) :: st) h) Q := G_unf rfl rfl
set_option maxRecDepth 100000 in
theorem g180_371 : G d 180 371 ls st h Q ↔ GN d 180 371 ls h (nx 405 ls st h) Q := G_unf rfl rfl
set_option maxRecDepth 100000 in
theorem g180_374 : G d 180 374 ls st h Q ↔ GN d 180 374 ls h (ldR ls 0 fun a => nx 375 ls (.ref a :: st) h) Q := G_unf rfl rfl
set_option maxRecDepth 100000 in
theorem g180_375 : G d 180 375 ls st h Q ↔ GN d 180 375 ls h (nx 378 ls (.long (lN 448545973363) :: st) h) Q := G_unf rfl rfl
set_option maxRecDepth 100000 in
theorem g180_378 : G d 180 378 ls st h Q ↔ GN d 180 378 ls h (pA 1 st fun as r => pR r fun a r => ck (r.length ≤ 4 ∧ arr h a 9) (cll 166 (.ref a :: as) r)) Q := G_unf rfl rfl
set_option maxRecDepth 100000 in
theorem g180_381 : G d 180 381 ls st h Q ↔ GN d 180 381 ls h (pI st fun x r => br (x = 0) (nx 389 ls r h) (nx 384 ls r h)) Q := G_unf rfl rfl
set_option maxRecDepth 100000 in
theorem g180_384 : G d 180 384 ls st h Q ↔ GN d 180 384 ls h (nx 386 ls (.int (nI 7) :: st) h) Q := G_unf rfl rfl
set_option maxRecDepth 100000 in
theorem g180_386 : G d 180 386 ls st h Q ↔ GN d 180 386 ls h (nx 405 ls st h) Q := G_unf rfl rfl
set_option maxRecDepth 100000 in
theorem g180_389 : G d 180 389 ls st h Q ↔ GN d 180 389 ls h (ldR ls 0 fun a => nx 390 ls (.ref a :: st) h) Q := G_unf rfl rfl
set_option maxRecDepth 100000 in
theorem g180_390 : G d 180 390 ls st h Q ↔ GN d 180 390 ls h (nx 393 ls (.long (lN 461414299507) :: st) h) Q := G_unf rfl rfl
set_option maxRecDepth 100000 in
theorem g180_393 : G d 180 393 ls st h Q ↔ GN d 180 393 ls h (pA 1 st fun as r => pR r fun a r => ck (r.length ≤ 4 ∧ arr h a 9) (cll 166 (.ref a :: as) r)) Q := G_unf rfl rfl
set_option maxRecDepth 100000 in
theorem g180_396 : G d 180 396 ls st h Q ↔ GN d 180 396 ls h (pI st fun x r => br (x = 0) (nx 404 ls r h) (nx 399 ls r h)) Q := G_unf rfl rfl
set_option maxRecDepth 100000 in
theorem g180_399 : G d 180 399 ls st h Q ↔ GN d 180 399 ls h (nx 401 ls (.int (nI 8) :: st) h) Q := G_unf rfl rfl
set_option maxRecDepth 100000 in
theorem g180_401 : G d 180 401 ls st h Q ↔ GN d 180 401 ls h (nx 405 ls st h) Q := G_unf rfl rfl
set_option maxRecDepth 100000 in
theorem g180_404 : G d 180 404 ls st h Q ↔ GN d 180 404 ls h (nx 405 ls (.int (-1) :: st) h) Q := G_unf rfl rfl
set_option maxRecDepth 100000 in
theorem g180_405 : G d 180 405 ls st h Q ↔ GN d 180 405 ls h (pI st fun x r => ck (3 < ls.length) (nx 406 (st1 ls 3 (.int x)) r h)) Q := G_unf rfl rfl
set_option maxRecDepth 100000 in
theorem g180_406 : G d 180 406 ls st h Q ↔ GN d 180 406 ls h (ldI ls 3 fun x => nx 407 ls (.int x :: st) h) Q := G_unf rfl rfl
set_option maxRecDepth 100000 in
theorem g180_407 : G d 180 407 ls st h Q ↔ GN d 180 407 ls h (nx 408 ls (.int (-1) :: st) h) Q := G_unf rfl rfl
set_option maxRecDepth 100000 in
theorem g180_408 : G d 180 408 ls st h Q ↔ GN d 180 408 ls h (pII st fun x y r => br (¬ x = y) (nx 420 ls r h) (nx 411 ls r h)) Q := G_unf rfl rfl
set_option maxRecDepth 100000 in
theorem g180_411 : G d 180 411 ls st h Q ↔ GN d 180 411 ls h (ldR ls 0 fun a => nx 412 ls (.ref a :: st) h) Q := G_unf rfl rfl
set_option maxRecDepth 100000 in
theorem g180_412 : G d 180 412 ls st h Q ↔ GN d 180 412 ls h (nx 413 ls (.int (nI 1) :: st) h) Q := G_unf rfl rfl
set_option maxRecDepth 100000 in
theorem g180_413 : G d 180 413 ls st h Q ↔ GN d 180 413 ls h (ldR ls 0 fun a => nx 414 ls (.ref a :: st) h) Q := G_unf rfl rfl
set_option maxRecDepth 100000 in
theorem g180_414 : G d 180 414 ls st h Q ↔ GN d 180 414 ls h (pR st fun a r => ck (arr h a 9) (nx 417 ls (.int (hI h a 4) :: r) h)) Q := G_unf rfl rfl
set_option maxRecDepth 100000 in
theorem g180_417 : G d 180 417 ls st h Q ↔ GN d 180 417 ls h (pA 2 st fun as r => pR r fun a r => ck (r.length ≤ 4 ∧ arr h a 9) (cll 160 (.ref a :: as) r)) Q := G_unf rfl rfl
set_option maxRecDepth 100000 in
theorem g180_420 : G d 180 420 ls st h Q ↔ GN d 180 420 ls h (ldR ls 0 fun a => nx 421 ls (.ref a :: st) h) Q := G_unf rfl rfl
set_option maxRecDepth 100000 in
theorem g180_421 : G d 180 421 ls st h Q ↔ GN d 180 421 ls h (pR st fun a r => ck (arr h a 9) (nx 424 ls (.int (hI h a 8) :: r) h)) Q := G_unf rfl rfl
set_option maxRecDepth 100000 in
theorem g180_424 : G d 180 424 ls st h Q ↔ GN d 180 424 ls h (pI st fun x r => br (x ≤ 0) (nx 429 ls r h) (nx 427 ls r h)) Q := G_unf rfl rfl
set_option maxRecDepth 100000 in
theorem g180_427 : G d 180 427 ls st h Q ↔ GN d 180 427 ls h (nx 428 ls (.int (nI 1) :: st) h) Q := G_unf rfl rfl
set_option maxRecDepth 100000 in
theorem g180_428 : G d 180 428 ls st h Q ↔ GN d 180 428 ls h (pIe st fun x => ck (x = 0 ∨ x = 1) (rtn (some (.int x)))) Q := G_unf rfl rfl
set_option maxRecDepth 100000 in
theorem g180_429 : G d 180 429 ls st h Q ↔ GN d 180 429 ls h (ldR ls 0 fun a => nx 430 ls (.ref a :: st) h) Q := G_unf rfl rfl
set_option maxRecDepth 100000 in
theorem g180_430 : G d 180 430 ls st h Q ↔ GN d 180 430 ls h (ldI ls 3 fun x => nx 431 ls (.int x :: st) h) Q := G_unf rfl rfl
set_option maxRecDepth 100000 in
theorem g180_431 : G d 180 431 ls st h Q ↔ GN d 180 431 ls h (ldR ls 0 fun a => nx 432 ls (.ref a :: st) h) Q := G_unf rfl rfl
set_option maxRecDepth 100000 in
theorem g180_432 : G d 180 432 ls st h Q ↔ GN d 180 432 ls h (pR st fun a r => ck (arr h a 9) (nx 435 ls (.int (hI h a 6) :: r) h)) Q := G_unf rfl rfl
set_option maxRecDepth 100000 in
theorem g180_435 : G d 180 435 ls st h Q ↔ GN d 180 435 ls h (pA 2 st fun as r => pR r fun a r => ck (r.length ≤ 4 ∧ arr h a 9) (cll 173 (.ref a :: as) r)) Q := G_unf rfl rfl
set_option maxRecDepth 100000 in
theorem g180_438 : G d 180 438 ls st h Q ↔ GN d 180 438 ls h (ldR ls 0 fun a => nx 439 ls (.ref a :: st) h) Q := G_unf rfl rfl
set_option maxRecDepth 100000 in
theorem g180_439 : G d 180 439 ls st h Q ↔ GN d 180 439 ls h (pA 0 st fun as r => pR r fun a r => ck (r.length ≤ 4 ∧ arr h a 9) (cll 164 (.ref a :: as) r)) Q := G_unf rfl rfl
set_option maxRecDepth 100000 in
theorem g180_442 : G d 180 442 ls st h Q ↔ GN d 180 442 ls h (nx 443 ls (.int (nI 1) :: st) h) Q := G_unf rfl rfl
set_option maxRecDepth 100000 in
theorem g180_443 : G d 180 443 ls st h Q ↔ GN d 180 443 ls h (pIe st fun x => ck (x = 0 ∨ x = 1) (rtn (some (.int x)))) Q := G_unf rfl rfl
theorem g181_0 : G d 181 0 ls st h Q ↔ GN d 181 0 ls h (ldR ls 0 fun a => nx 1 ls (.ref a :: st) h) Q := G_unf rfl rfl
theorem g181_1 : G d 181 1 ls st h Q ↔ GN d 181 1 ls h (pA 0 st fun as r => pR r fun a r => ck (r.length ≤ 4 ∧ arr h a 9) (cll 163 (.ref a :: as) r)) Q := G_unf rfl rfl
theorem g181_4 : G d 181 4 ls st h Q ↔ GN d 181 4 ls h (ldR ls 0 fun a => nx 5 ls (.ref a :: st) h) Q := G_unf rfl rfl
theorem g181_5 : G d 181 5 ls st h Q ↔ GN d 181 5 ls h (pR st fun a r => ck (arr h a 9) (nx 8 ls (.int (hI h a 8) :: r) h)) Q := G_unf rfl rfl
theorem g181_8 : G d 181 8 ls st h Q ↔ GN d 181 8 ls h (pI st fun x r => br (x ≤ 0) (nx 13 ls r h) (nx 11 ls r h)) Q := G_unf rfl rfl
theorem g181_11 : G d 181 11 ls st h Q ↔ GN d 181 11 ls h (nx 12 ls (.int (nI 0) :: st) h) Q := G_unf rfl rfl
theorem g181_12 : G d 181 12 ls st h Q ↔ GN d 181 12 ls h (pIe st fun x => ck (x = 0 ∨ x = 1) (rtn (some (.int x)))) Q := G_unf rfl rfl
theorem g181_13 : G d 181 13 ls st h Q ↔ GN d 181 13 ls h (ldR ls 0 fun a => nx 14 ls (.ref a :: st) h) Q := G_unf rfl rfl
theorem g181_14 : G d 181 14 ls st h Q ↔ GN d 181 14 ls h (pR st fun a r => ck (arr h a 9) (nx 17 ls (.int (hI h a 45) :: r) h)) Q := G_unf rfl rfl
theorem g181_17 : G d 181 17 ls st h Q ↔ GN d 181 17 ls h (nx 18 ls (.int (nI 1) :: st) h) Q := G_unf rfl rfl
theorem g181_18 : G d 181 18 ls st h Q ↔ GN d 181 18 ls h (pII st fun x y r => nx 19 ls (.int (x - y) :: r) h) Q := G_unf rfl rfl
theorem g181_19 : G d 181 19 ls st h Q ↔ GN d 181 19 ls h (pI st fun x r => ck (1 < ls.length) (nx 20 (st1 ls 1 (.int x)) r h)) Q := G_unf rfl rfl
theorem g181_20 : G d 181 20 ls st h Q ↔ GN d 181 20 ls h (ldR ls 0 fun a => nx 21 ls (.ref a :: st) h) Q := G_unf rfl rfl
theorem g181_21 : G d 181 21 ls st h Q ↔ GN d 181 21 ls h (pR st fun a r => ck (arr h a 9) (nx 24 ls (rv (hR h a 40) :: r) h)) Q := G_unf rfl rfl
theorem g181_24 : G d 181 24 ls st h Q ↔ GN d 181 24 ls h (ldI ls 1 fun x => nx 25 ls (.int x :: st) h) Q := G_unf rfl rfl
theorem g181_25 : G d 181 25 ls st h Q ↔ GN d 181 25 ls h (pRI st fun a i r => br (a = 1000003) (ck (inb i (hS h).1) (nx 26 ls (.int ((hS h).2 i.toNatClampNeg) :: r) h)) (ck (arr h a 10 ∧ inb i (hLn h a)) (nx 26 ls (.int (hI h a i.toNatClampNeg) :: r) h))) Q := G_unf rfl rfl
theorem g181_26 : G d 181 26 ls st h Q ↔ GN d 181 26 ls h (pI st fun x r => ck (2 < ls.length) (nx 27 (st1 ls 2 (.int x)) r h)) Q := G_unf rfl rfl
theorem g181_27 : G d 181 27 ls st h Q ↔ GN d 181 27 ls h (ldI ls 2 fun x => nx 28 ls (.int x :: st) h) Q := G_unf rfl rfl
theorem g181_28 : G d 181 28 ls st h Q ↔ GN d 181 28 ls h (pA 1 st fun as r => ck (r.length ≤ 4) (cll 179 as r)) Q := G_unf rfl rfl
theorem g181_31 : G d 181 31 ls st h Q ↔ GN d 181 31 ls h (pI st fun x r => ck (3 < ls.length) (nx 32 (st1 ls 3 (.int x)) r h)) Q := G_unf rfl rfl
theorem g181_32 : G d 181 32 ls st h Q ↔ GN d 181 32 ls h (ldR ls 0 fun a => nx 33 ls (.ref a :: st) h) Q := G_unf rfl rfl
theorem g181_33 : G d 181 33 ls st h Q ↔ GN d 181 33 ls h (pR st fun a r => ck (arr h a 9) (nx 36 ls (rv (hR h a 41) :: r) h)) Q := G_unf rfl rfl
theorem g181_36 : G d 181 36 ls st h Q ↔ GN d 181 36 ls h (ldI ls 1 fun x => nx 37 ls (.int x :: st) h) Q := G_unf rfl rfl
theorem g181_37 : G d 181 37 ls st h Q ↔ GN d 181 37 ls h (pRI st fun a i r => br (a = 1000003) (ck (inb i (hS h).1) (nx 38 ls (.int ((hS h).2 i.toNatClampNeg) :: r) h)) (ck (arr h a 10 ∧ inb i (hLn h a)) (nx 38 ls (.int (hI h a i.toNatClampNeg) :: r) h))) Q := G_unf rfl rfl
theorem g181_38 : G d 181 38 ls st h Q ↔ GN d 181 38 ls h (nx 39 ls (.int (nI 2) :: st) h) Q := G_unf rfl rfl
theorem g181_39 : G d 181 39 ls st h Q ↔ GN d 181 39 ls h (pII st fun x y r => br (y ≤ x) (nx 188 ls r h) (nx 42 ls r h)) Q := G_unf rfl rfl
theorem g181_42 : G d 181 42 ls st h Q ↔ GN d 181 42 ls h (ldR ls 0 fun a => nx 43 ls (.ref a :: st) h) Q := G_unf rfl rfl
theorem g181_43 : G d 181 43 ls st h Q ↔ GN d 181 43 ls h (nx 45 ls (.int (nI 43) :: st) h) Q := G_unf rfl rfl
theorem g181_45 : G d 181 45 ls st h Q ↔ GN d 181 45 ls h (pA 1 st fun as r => pR r fun a r => ck (r.length ≤ 4 ∧ arr h a 9) (cll 165 (.ref a :: as) r)) Q := G_unf rfl rfl
theorem g181_48 : G d 181 48 ls st h Q ↔ GN d 181 48 ls h (pI st fun x r => br (¬ x = 0) (nx 87 ls r h) (nx 51 ls r h)) Q := G_unf rfl rfl
theorem g181_51 : G d 181 51 ls st h Q ↔ GN d 181 51 ls h (ldR ls 0 fun a => nx 52 ls (.ref a :: st) h) Q := G_unf rfl rfl
theorem g181_52 : G d 181 52 ls st h Q ↔ GN d 181 52 ls h (nx 54 ls (.int (nI 45) :: st) h) Q := G_unf rfl rfl
theorem g181_54 : G d 181 54 ls st h Q ↔ GN d 181 54 ls h (pA 1 st fun as r => pR r fun a r => ck (r.length ≤ 4 ∧ arr h a 9) (cll 165 (.ref a :: as) r)) Q := G_unf rfl rfl
theorem g181_57 : G d 181 57 ls st h Q ↔ GN d 181 57 ls h (pI st fun x r => br (¬ x = 0) (nx 87 ls r h) (nx 60 ls r h)) Q := G_unf rfl rfl
theorem g181_60 : G d 181 60 ls st h Q ↔ GN d 181 60 ls h (ldR ls 0 fun a => nx 61 ls (.ref a :: st) h) Q := G_unf rfl rfl
theorem g181_61 : G d 181 61 ls st h Q ↔ GN d 181 61 ls h (nx 63 ls (.int (nI 42) :: st) h) Q := G_unf rfl rfl
theorem g181_63 : G d 181 63 ls st h Q ↔ GN d 181 63 ls h (pA 1 st fun as r => pR r fun a r => ck (r.length ≤ 4 ∧ arr h a 9) (cll 165 (.ref a :: as) r)) Q := G_unf rfl rfl
theorem g181_66 : G d 181 66 ls st h Q ↔ GN d 181 66 ls h (pI st fun x r => br (¬ x = 0) (nx 87 ls r h) (nx 69 ls r h)) Q := G_unf rfl rfl
theorem g181_69 : G d 181 69 ls st h Q ↔ GN d 181 69 ls h (ldR ls 0 fun a => nx 70 ls (.ref a :: st) h) Q := G_unf rfl rfl
theorem g181_70 : G d 181 70 ls st h Q ↔ GN d 181 70 ls h (nx 72 ls (.int (nI 47) :: st) h) Q := G_unf rfl rfl
theorem g181_72 : G d 181 72 ls st h Q ↔ GN d 181 72 ls h (pA 1 st fun as r => pR r fun a r => ck (r.length ≤ 4 ∧ arr h a 9) (cll 165 (.ref a :: as) r)) Q := G_unf rfl rfl
theorem g181_75 : G d 181 75 ls st h Q ↔ GN d 181 75 ls h (pI st fun x r => br (¬ x = 0) (nx 87 ls r h) (nx 78 ls r h)) Q := G_unf rfl rfl
theorem g181_78 : G d 181 78 ls st h Q ↔ GN d 181 78 ls h (ldR ls 0 fun a => nx 79 ls (.ref a :: st) h) Q := G_unf rfl rfl
theorem g181_79 : G d 181 79 ls st h Q ↔ GN d 181 79 ls h (nx 81 ls (.int (nI 37) :: st) h) Q := G_unf rfl rfl
theorem g181_81 : G d 181 81 ls st h Q ↔ GN d 181 81 ls h (pA 1 st fun as r => pR r fun a r => ck (r.length ≤ 4 ∧ arr h a 9) (cll 165 (.ref a :: as) r)) Q := G_unf rfl rfl
theorem g181_84 : G d 181 84 ls st h Q ↔ GN d 181 84 ls h (pI st fun x r => br (x = 0) (nx 188 ls r h) (nx 87 ls r h)) Q := G_unf rfl rfl
theorem g181_87 : G d 181 87 ls st h Q ↔ GN d 181 87 ls h (ldR ls 0 fun a => nx 88 ls (.ref a :: st) h) Q := G_unf rfl rfl
theorem g181_88 : G d 181 88 ls st h Q ↔ GN d 181 88 ls h (ldR ls 0 fun a => nx 89 ls (.ref a :: st) h) Q := G_unf rfl rfl
theorem g181_89 : G d 181 89 ls st h Q ↔ GN d 181 89 ls h (nx 91 ls (.int (nI 43) :: st) h) Q := G_unf rfl rfl
theorem g181_91 : G d 181 91 ls st h Q ↔ GN d 181 91 ls h (pA 1 st fun as r => pR r fun a r => ck (r.length ≤ 4 ∧ arr h a 9) (cll 165 (.ref a :: as) r)) Q := G_unf rfl rfl
theorem g181_94 : G d 181 94 ls st h Q ↔ GN d 181 94 ls h (pI st fun x r => br (¬ x = 0) (nx 106 ls r h) (nx 97 ls r h)) Q := G_unf rfl rfl
theorem g181_97 : G d 181 97 ls st h Q ↔ GN d 181 97 ls h (ldR ls 0 fun a => nx 98 ls (.ref a :: st) h) Q := G_unf rfl rfl
theorem g181_98 : G d 181 98 ls st h Q ↔ GN d 181 98 ls h (nx 100 ls (.int (nI 45) :: st) h) Q := G_unf rfl rfl
theorem g181_100 : G d 181 100 ls st h Q ↔ GN d 181 100 ls h (pA 1 st fun as r => pR r fun a r => ck (r.length ≤ 4 ∧ arr h a 9) (cll 165 (.ref a :: as) r)) Q := G_unf rfl rfl
theorem g181_103 : G d 181 103 ls st h Q ↔ GN d 181 103 ls h (pI st fun x r => br (x = 0) (nx 110 ls r h) (nx 106 ls r h)) Q := G_unf rfl rfl
theorem g181_106 : G d 181 106 ls st h Q ↔ GN d 181 106 ls h (nx 107 ls (.int (nI 5) :: st) h) Q := G_unf rfl rfl
theorem g181_107 : G d 181 107 ls st h Q ↔ GN d 181 107 ls h (nx 112 ls st h) Q := G_unf rfl rfl
theorem g181_110 : G d 181 110 ls st h Q ↔ GN d 181 110 ls h (nx 112 ls (.int (nI 6) :: st) h) Q := G_unf rfl rfl
theorem g181_112 : G d 181 112 ls st h Q ↔ GN d 181 112 ls h (pA 1 st fun as r => pR r fun a r => ck (r.length ≤ 4 ∧ arr h a 9) (cll 175 (.ref a :: as) r)) Q := G_unf rfl rfl
theorem g181_115 : G d 181 115 ls st h Q ↔ GN d 181 115 ls h (ldR ls 0 fun a => nx 116 ls (.ref a :: st) h) Q := G_unf rfl rfl
theorem g181_116 : G d 181 116 ls st h Q ↔ GN d 181 116 ls h (ldR ls 0 fun a => nx 117 ls (.ref a :: st) h) Q := G_unf rfl rfl
theorem g181_117 : G d 181 117 ls st h Q ↔ GN d 181 117 ls h (nx 119 ls (.int (nI 43) :: st) h) Q := G_unf rfl rfl
theorem g181_119 : G d 181 119 ls st h Q ↔ GN d 181 119 ls h (pA 1 st fun as r => pR r fun a r => ck (r.length ≤ 4 ∧ arr h a 9) (cll 165 (.ref a :: as) r)) Q := G_unf rfl rfl
theorem g181_122 : G d 181 122 ls st h Q ↔ GN d 181 122 ls h (pI st fun x r => br (x = 0) (nx 130 ls r h) (nx 125 ls r h)) Q := G_unf rfl rfl
theorem g181_125 : G d 181 125 ls st h Q ↔ GN d 181 125 ls h (nx 127 ls (.int (nI 10) :: st) h) Q := G_unf rfl rfl
theorem g181_127 : G d 181 127 ls st h Q ↔ GN d 181 127 ls h (nx 174 ls st h) Q := G_unf rfl rfl
theorem g181_130 : G d 181 130 ls st h Q ↔ GN d 181 130 ls h (ldR ls 0 fun a => nx 131 ls (.ref a :: st) h) Q := G_unf rfl rfl
theorem g181_131 : G d 181 131 ls st h Q ↔ GN d 181 131 ls h (nx 133 ls (.int (nI 45) :: st) h) Q := G_unf rfl rfl
theorem g181_133 : G d 181 133 ls st h Q ↔ GN d 181 133 ls h (pA 1 st fun as r => pR r fun a r => ck (r.length ≤ 4 ∧ arr h a 9) (cll 165 (.ref a :: as) r)) Q := G_unf rfl rfl
theorem g181_136 : G d 181 136 ls st h Q ↔ GN d 181 136 ls h (pI st fun x r => br (x = 0) (nx 144 ls r h) (nx 139 ls r h)) Q := G_unf rfl rfl
theorem g181_139 : G d 181 139 ls st h Q ↔ GN d 181 139 ls h (nx 141 ls (.int (nI 11) :: st) h) Q := G_unf rfl rfl
theorem g181_141 : G d 181 141 ls st h Q ↔ GN d 181 141 ls h (nx 174 ls st h) Q := G_unf rfl rfl
theorem g181_144 : G d 181 144 ls st h Q ↔ GN d 181 144 ls h (ldR ls 0 fun a => nx 145 ls (.ref a :: st) h) Q := G_unf rfl rfl
theorem g181_145 : G d 181 145 ls st h Q ↔ GN d 181 145 ls h (nx 147 ls (.int (nI 42) :: st) h) Q := G_unf rfl rfl
theorem g181_147 : G d 181 147 ls st h Q ↔ GN d 181 147 ls h (pA 1 st fun as r => pR r fun a r => ck (r.length ≤ 4 ∧ arr h a 9) (cll 165 (.ref a :: as) r)) Q := G_unf rfl rfl
theorem g181_150 : G d 181 150 ls st h Q ↔ GN d 181 150 ls h (pI st fun x r => br (x = 0) (nx 158 ls r h) (nx 153 ls r h)) Q := G_unf rfl rfl
theorem g181_153 : G d 181 153 ls st h Q ↔ GN d 181 153 ls h (nx 155 ls (.int (nI 12) :: st) h) Q := G_unf rfl rfl
theorem g181_155 : G d 181 155 ls st h Q ↔ GN d 181 155 ls h (nx 174 ls st h) Q := G_unf rfl rfl
theorem g181_158 : G d 181 158 ls st h Q ↔ GN d 181 158 ls h (ldR ls 0 fun a => nx 159 ls (.ref a :: st) h) Q := G_unf rfl rfl
theorem g181_159 : G d 181 159 ls st h Q ↔ GN d 181 159 ls h (nx 161 ls (.int (nI 47) :: st) h) Q := G_unf rfl rfl
theorem g181_161 : G d 181 161 ls st h Q ↔ GN d 181 161 ls h (pA 1 st fun as r => pR r fun a r => ck (r.length ≤ 4 ∧ arr h a 9) (cll 165 (.ref a :: as) r)) Q := G_unf rfl rfl
set_option maxRecDepth 100000 in
theorem g181_164 : G d 181 164 ls st h Q ↔ GN d 181 164 ls h (pI st fun x r => br (x = 0) (nx 172 ls r h) (nx 167 ls r h)) Q := G_unf rfl rfl
set_option maxRecDepth 100000 in
theorem g181_167 : G d 181 167 ls st h Q ↔ GN d 181 167 ls h (nx 169 ls (.int (nI 13) :: st) h) Q := G_unf rfl rfl
set_option maxRecDepth 100000 in
theorem g181_169 : G d 181 169 ls st h Q ↔ GN d 181 169 ls h (nx 174 ls st h) Q := G_unf rfl rfl
set_option maxRecDepth 100000 in
theorem g181_172 : G d 181 172 ls st h Q ↔ GN d 181 172 ls h (nx 174 ls (.int (nI 14) :: st) h) Q := G_unf rfl rfl
set_option maxRecDepth 100000 in
theorem g181_174 : G d 181 174 ls st h Q ↔ GN d 181 174 ls h (pA 1 st fun as r => pR r fun a r => ck (r.length ≤ 4 ∧ arr h a 9) (cll 176 (.ref a :: as) r)) Q := G_unf rfl rfl
set_option maxRecDepth 100000 in
theorem g181_177 : G d 181 177 ls st h Q ↔ GN d 181 177 ls h (ldR ls 0 fun a => nx 178 ls (.ref a :: st) h) Q := G_unf rfl rfl
set_option maxRecDepth 100000 in
theorem g181_178 : G d 181 178 ls st h Q ↔ GN d 181 178 ls h (pA 0 st fun as r => pR r fun a r => ck (r.length ≤ 4 ∧ arr h a 9) (cll 164 (.ref a :: as) r)) Q := G_unf rfl rfl
set_option maxRecDepth 100000 in
theorem g181_181 : G d 181 181 ls st h Q ↔ GN d 181 181 ls h (ldR ls 0 fun a => nx 182 ls (.ref a :: st) h) Q := G_unf rfl rfl
set_option maxRecDepth 100000 in
theorem g181_182 : G d 181 182 ls st h Q ↔ GN d 181 182 ls h (nx 183 ls (.int (nI 0) :: st) h) Q := G_unf rfl rfl
set_option maxRecDepth 100000 in
theorem g181_183 : G d 181 183 ls st h Q ↔ GN d 181 183 ls h (pRI st fun a x r => ck (arr h a 9 ∧ (x = 0 ∨ x = 1)) (nx 186 ls r (sI h a 49 x))) Q := G_unf rfl rfl
set_option maxRecDepth 100000 in
theorem g181_186 : G d 181 186 ls st h Q ↔ GN d 181 186 ls h (nx 187 ls (.int (nI 1) :: st) h) Q := G_unf rfl rfl
set_option maxRecDepth 100000 in
theorem g181_187 : G d 181 187 ls st h Q ↔ GN d 181 187 ls h (pIe st fun x => ck (x = 0 ∨ x = 1) (rtn (some (.int x)))) Q := G_unf rfl rfl
set_option maxRecDepth 100000 in
theorem g181_188 : G d 181 188 ls st h Q ↔ GN d 181 188 ls h (ldI ls 3 fun x => nx 189 ls (.int x :: st) h) Q := G_unf rfl rfl
set_option maxRecDepth 100000 in
theorem g181_189 : G d 181 189 ls st h Q ↔ GN d 181 189 ls h (pI st fun x r => br (x = 0) (nx 285 ls r h) (nx 192 ls r h)) Q := G_unf rfl rfl
set_option maxRecDepth 100000 in
theorem g181_192 : G d 181 192 ls st h Q ↔ GN d 181 192 ls h (ldR ls 0 fun a => nx 193 ls (.ref a :: st) h) Q := G_unf rfl rfl
set_option maxRecDepth 100000 in
theorem g181_193 : G d 181 193 ls st h Q ↔ GN d 181 193 ls h (pR st fun a r => ck (arr h a 9) (nx 196 ls (rv (hR h a 41) :: r) h)) Q := G_unf rfl rfl
set_option maxRecDepth 100000 in
theorem g181_196 : G d 181 196 ls st h Q ↔ GN d 181 196 ls h (ldI ls 1 fun x => nx 197 ls (.int x :: st) h) Q := G_unf rfl rfl
set_option maxRecDepth 100000 in
theorem g181_197 : G d 181 197 ls st h Q ↔ GN d 181 197 ls h (pRI st fun a i r => br (a = 1000003) (ck (inb i (hS h).1) (nx 198 ls (.int ((hS h).2 i.toNatClampNeg) :: r) h)) (ck (arr h a 10 ∧ inb i (hLn h a)) (nx 198 ls (.int (hI h a i.toNatClampNeg) :: r) h))) Q := G_unf rfl rfl
set_option maxRecDepth 100000 in
theorem g181_198 : G d 181 198 ls st h Q ↔ GN d 181 198 ls h (pI st fun x r => br (¬ x = 0) (nx 285 ls r h) (nx 201 ls r h)) Q := G_unf rfl rfl
set_option maxRecDepth 100000 in
theorem g181_201 : G d 181 201 ls st h Q ↔ GN d 181 201 ls h (ldR ls 0 fun a => nx 202 ls (.ref a :: st) h) Q := G_unf rfl rfl
set_option maxRecDepth 100000 in
theorem g181_202 : G d 181 202 ls st h Q ↔ GN d 181 202 ls h (nx 204 ls (.int (nI 60) :: st) h) Q := G_unf rfl rfl
set_option maxRecDepth 100000 in
theorem g181_204 : G d 181 204 ls st h Q ↔ GN d 181 204 ls h (pA 1 st fun as r => pR r fun a r => ck (r.length ≤ 4 ∧ arr h a 9) (cll 165 (.ref a :: as) r)) Q := G_unf rfl rfl
set_option maxRecDepth 100000 in
theorem g181_207 : G d 181 207 ls st h Q ↔ GN d 181 207 ls h (pI st fun x r => br (¬ x = 0) (nx 228 ls r h) (nx 210 ls r h)) Q := G_unf rfl rfl
set_option maxRecDepth 100000 in
theorem g181_210 : G d 181 210 ls st h Q ↔ GN d 181 210 ls h (ldR ls 0 fun a => nx 211 ls (.ref a :: st) h) Q := G_unf rfl rfl
set_option maxRecDepth 100000 in
theorem g181_211 : G d 181 211 ls st h Q ↔ GN d 181 211 ls h (nx 213 ls (.int (nI 62) :: st) h) Q := G_unf rfl rfl
set_option maxRecDepth 100000 in
theorem g181_213 : G d 181 213 ls st h Q ↔ GN d 181 213 ls h (pA 1 st fun as r => pR r fun a r => ck (r.length ≤ 4 ∧ arr h a 9) (cll 165 (.ref a :: as) r)) Q := G_unf rfl rfl
set_option maxRecDepth 100000 in
theorem g181_216 : G d 181 216 ls st h Q ↔ GN d 181 216 ls h (pI st fun x r => br (¬ x = 0) (nx 228 ls r h) (nx 219 ls r h)) Q := G_unf rfl rfl
set_option maxRecDepth 100000 in
theorem g181_219 : G d 181 219 ls st h Q ↔ GN d 181 219 ls h (ldR ls 0 fun a => nx 220 ls (.ref a :: st) h) Q := G_unf rfl rfl
set_option maxRecDepth 100000 in
theorem g181_220 : G d 181 220 ls st h Q ↔ GN d 181 220 ls h (nx 222 ls (.int (nI 61) :: st) h) Q := G_unf rfl rfl
set_option maxRecDepth 100000 in
theorem g181_222 : G d 181 222 ls st h Q ↔ GN d 181 222 ls h (pA 1 st fun as r => pR r fun a r => ck (r.length ≤ 4 ∧ arr h a 9) (cll 165 (.ref a :: as) r)) Q := G_unf rfl rfl
set_option maxRecDepth 100000 in
theorem g181_225 : G d 181 225 ls st h Q ↔ GN d 181 225 ls h (pI st fun x r => br (x = 0) (nx 285 ls r h) (nx 228 ls r h)) Q := G_unf rfl rfl
set_option maxRecDepth 100000 in
theorem g181_228 : G d 181 228 ls st h Q ↔ GN d 181 228 ls h (ldR ls 0 fun a => nx 229 ls (.ref a :: st) h) Q := G_unf rfl rfl
set_option maxRecDepth 100000 in
theorem g181_229 : G d 181 229 ls st h Q ↔ GN d 181 229 ls h (nx 230 ls (.int (nI 5) :: st) h) Q := G_unf rfl rfl
set_option maxRecDepth 100000 in
theorem g181_230 : G d 181 230 ls st h Q ↔ GN d 181 230 ls h (pA 1 st fun as r => pR r fun a r => ck (r.length ≤ 4 ∧ arr h a 9) (cll 175 (.ref a :: as) r)) Q := G_unf rfl rfl
set_option maxRecDepth 100000 in
theorem g181_233 : G d 181 233 ls st h Q ↔ GN d 181 233 ls h (ldR ls 0 fun a => nx 234 ls (.ref a :: st) h) Q := G_unf rfl rfl
set_option maxRecDepth 100000 in
theorem g181_234 : G d 181 234 ls st h Q ↔ GN d 181 234 ls h (ldR ls 0 fun a => nx 235 ls (.ref a :: st) h) Q := G_unf rfl rfl
set_option maxRecDepth 100000 in
theorem g181_235 : G d 181 235 ls st h Q ↔ GN d 181 235 ls h (nx 237 ls (.int (nI 60) :: st) h) Q := G_unf rfl rfl
set_option maxRecDepth 100000 in
theorem g181_237 : G d 181 237 ls st h Q ↔ GN d 181 237 ls h (pA 1 st fun as r => pR r fun a r => ck (r.length ≤ 4 ∧ arr h a 9) (cll 165 (.ref a :: as) r)) Q := G_unf rfl rfl
set_option maxRecDepth 100000 in
theorem g181_240 : G d 181 240 ls st h Q ↔ GN d 181 240 ls h (pI st fun x r => br (x = 0) (nx 248 ls r h) (nx 243 ls r h)) Q := G_unf rfl rfl
set_option maxRecDepth 100000 in
theorem g181_243 : G d 181 243 ls st h Q ↔ GN d 181 243 ls h (nx 245 ls (.int (nI 17) :: st) h) Q := G_unf rfl rfl
set_option maxRecDepth 100000 in
theorem g181_245 : G d 181 245 ls st h Q ↔ GN d 181 245 ls h (nx 264 ls st h) Q := G_unf rfl rfl
set_option maxRecDepth 100000 in
theorem g181_248 : G d 181 248 ls st h Q ↔ GN d 181 248 ls h (ldR ls 0 fun a => nx 249 ls (.ref a :: st) h) Q := G_unf rfl rfl
set_option maxRecDepth 100000 in
theorem g181_249 : G d 181 249 ls st h Q ↔ GN d 181 249 ls h (nx 251 ls (.int (nI 62) :: st) h) Q := G_unf rfl rfl
set_option maxRecDepth 100000 in
theorem g181_251 : G d 181 251 ls st h Q ↔ GN d 181 251 ls h (pA 1 st fun as r => pR r fun a r => ck (r.length ≤ 4 ∧ arr h a 9) (cll 165 (.ref a :: as) r)) Q := G_unf rfl rfl
set_option maxRecDepth 100000 in
theorem g181_254 : G d 181 254 ls st h Q ↔ GN d 181 254 ls h (pI st fun x r => br (x = 0) (nx 262 ls r h) (nx 257 ls r h)) Q := G_unf rfl rfl
set_option maxRecDepth 100000 in
theorem g181_257 : G d 181 257 ls st h Q ↔ GN d 181 257 ls h (nx 259 ls (.int (nI 18) :: st) h) Q := G_unf rfl rfl
set_option maxRecDepth 100000 in
theorem g181_259 : G d 181 259 ls st h Q ↔ GN d 181 259 ls h (nx 264 ls st h) Q := G_unf rfl rfl
set_option maxRecDepth 100000 in
theorem g181_262 : G d 181 262 ls st h Q ↔ GN d 181 262 ls h (nx 264 ls (.int (nI 19) :: st) h) Q := G_unf rfl rfl
set_option maxRecDepth 100000 in
theorem g181_264 : G d 181 264 ls st h Q ↔ GN d 181 264 ls h (pA 1 st fun as r => pR r fun a r => ck (r.length ≤ 4 ∧ arr h a 9) (cll 176 (.ref a :: as) r)) Q := G_unf rfl rfl
set_option maxRecDepth 100000 in
theorem g181_267 : G d 181 267 ls st h Q ↔ GN d 181 267 ls h (ldR ls 0 fun a => nx 268 ls (.ref a :: st) h) Q := G_unf rfl rfl
set_option maxRecDepth 100000 in
theorem g181_268 : G d 181 268 ls st h Q ↔ GN d 181 268 ls h (pR st fun a r => ck (arr h a 9) (nx 271 ls (rv (hR h a 41) :: r) h)) Q := G_unf rfl rfl
set_option maxRecDepth 100000 in
theorem g181_271 : G d 181 271 ls st h Q ↔ GN d 181 271 ls h (ldI ls 1 fun x => nx 272 ls (.int x :: st) h) Q := G_unf rfl rfl
set_option maxRecDepth 100000 in
theorem g181_272 : G d 181 272 ls st h Q ↔ GN d 181 272 ls h (nx 273 ls (.int (nI 1) :: st) h) Q := G_unf rfl rfl
set_option maxRecDepth 100000 in
theorem g181_273 : G d 181 273 ls st h Q ↔ GN d 181 273 ls h (pRII st fun a i x r => ck (arr h a 10 ∧ inb i (hLn h a)) (nx 274 ls r (sI h a i.toNatClampNeg x))) Q := G_unf rfl rfl
set_option maxRecDepth 100000 in
theorem g181_274 : G d 181 274 ls st h Q ↔ GN d 181 274 ls h (ldR ls 0 fun a => nx 275 ls (.ref a :: st) h) Q := G_unf rfl rfl
set_option maxRecDepth 100000 in
theorem g181_275 : G d 181 275 ls st h Q ↔ GN d 181 275 ls h (pA 0 st fun as r => pR r fun a r => ck (r.length ≤ 4 ∧ arr h a 9) (cll 164 (.ref a :: as) r)) Q := G_unf rfl rfl
set_option maxRecDepth 100000 in
theorem g181_278 : G d 181 278 ls st h Q ↔ GN d 181 278 ls h (ldR ls 0 fun a => nx 279 ls (.ref a :: st) h) Q := G_unf rfl rfl
set_option maxRecDepth 100000 in
theorem g181_279 : G d 181 279 ls st h Q ↔ GN d 181 279 ls h (nx 280 ls (.int (nI 0) :: st) h) Q := G_unf rfl rfl
set_option maxRecDepth 100000 in
theorem g181_280 : G d 181 280 ls st h Q ↔ GN d 181 280 ls h (pRI st fun a x r => ck (arr h a 9 ∧ (x = 0 ∨ x = 1)) (nx 283 ls r (sI h a 49 x))) Q := G_unf rfl rfl
set_option maxRecDepth 100000 in
theorem g181_283 : G d 181 283 ls st h Q ↔ GN d 181 283 ls h (nx 284 ls (.int (nI 1) :: st) h) Q := G_unf rfl rfl
set_option maxRecDepth 100000 in
theorem g181_284 : G d 181 284 ls st h Q ↔ GN d 181 284 ls h (pIe st fun x => ck (x = 0 ∨ x = 1) (rtn (some (.int x)))) Q := G_unf rfl rfl
set_option maxRecDepth 100000 in
theorem g181_285 : G d 181 285 ls st h Q ↔ GN d 181 285 ls h (ldI ls 3 fun x => nx 286 ls (.int x :: st) h) Q := G_unf rfl rfl
set_option maxRecDepth 100000 in
theorem g181_286 : G d 181 286 ls st h Q ↔ GN d 181 286 ls h (pI st fun x r => br (x = 0) (nx 400 ls r h) (nx 289 ls r h)) Q := G_unf rfl rfl
set_option maxRecDepth 100000 in
theorem g181_289 : G d 181 289 ls st h Q ↔ GN d 181 289 ls h (ldR ls 0 fun a => nx 290 ls (.ref a :: st) h) Q := G_unf rfl rfl
set_option maxRecDepth 100000 in
theorem g181_290 : G d 181 290 ls st h Q ↔ GN d 181 290 ls h (nx 293 ls (.long (lN 6385252) :: st) h) Q := G_unf rfl rfl
set_option maxRecDepth 100000 in
theorem g181_293 : G d 181 293 ls st h Q ↔ GN d 181 293 ls h (pA 1 st fun as r => pR r fun a r => ck (r.length ≤ 4 ∧ arr h a 9) (cll 166 (.ref a :: as) r)) Q := G_unf rfl rfl
set_option maxRecDepth 100000 in
theorem g181_296 : G d 181 296 ls st h Q ↔ GN d 181 296 ls h (pI st fun x r => br (¬ x = 0) (nx 309 ls r h) (nx 299 ls r h)) Q := G_unf rfl rfl
set_option maxRecDepth 100000 in
theorem g181_299 : G d 181 299 ls st h Q ↔ GN d 181 299 ls h (ldR ls 0 fun a => nx 300 ls (.ref a :: st) h) Q := G_unf rfl rfl
set_option maxRecDepth 100000 in
theorem g181_300 : G d 181 300 ls st h Q ↔ GN d 181 300 ls h (nx 303 ls (.long (lN 28530) :: st) h) Q := G_unf rfl rfl
set_option maxRecDepth 100000 in
theorem g181_303 : G d 181 303 ls st h Q ↔ GN d 181 303 ls h (pA 1 st fun as r => pR r fun a r => ck (r.length ≤ 4 ∧ arr h a 9) (cll 166 (.ref a :: as) r)) Q := G_unf rfl rfl
set_option maxRecDepth 100000 in
theorem g181_306 : G d 181 306 ls st h Q ↔ GN d 181 306 ls h (pI st fun x r => br (x = 0) (nx 400 ls r h) (nx 309 ls r h)) Q := G_unf rfl rfl
set_option maxRecDepth 100000 in
theorem g181_309 : G d 181 309 ls st h Q ↔ GN d 181 309 ls h (ldR ls 0 fun a => nx 310 ls (.ref a :: st) h) Q := G_unf rfl rfl
set_option maxRecDepth 100000 in
theorem g181_310 : G d 181 310 ls st h Q ↔ GN d 181 310 ls h (pR st fun a r => ck (arr h a 9) (nx 313 ls (rv (hR h a 41) :: r) h)) Q := G_unf rfl rfl
set_option maxRecDepth 100000 in
theorem g181_313 : G d 181 313 ls st h Q ↔ GN d 181 313 ls h (ldI ls 1 fun x => nx 314 ls (.int x :: st) h) Q := G_unf rfl rfl
set_option maxRecDepth 100000 in
theorem g181_314 : G d 181 314 ls st h Q ↔ GN d 181 314 ls h (pRI st fun a i r => br (a = 1000003) (ck (inb i (hS h).1) (nx 315 ls (.int ((hS h).2 i.toNatClampNeg) :: r) h)) (ck (arr h a 10 ∧ inb i (hLn h a)) (nx 315 ls (.int (hI h a i.toNatClampNeg) :: r) h))) Q := G_unf rfl rfl
set_option maxRecDepth 100000 in
theorem g181_315 : G d 181 315 ls st h Q ↔ GN d 181 315 ls h (pI st fun x r => br (¬ x = 0) (nx 327 ls r h) (nx 318 ls r h)) Q := G_unf rfl rfl
set_option maxRecDepth 100000 in
theorem g181_318 : G d 181 318 ls st h Q ↔ GN d 181 318 ls h (ldR ls 0 fun a => nx 319 ls (.ref a :: st) h) Q := G_unf rfl rfl
set_option maxRecDepth 100000 in
theorem g181_319 : G d 181 319 ls st h Q ↔ GN d 181 319 ls h (nx 320 ls (.int (nI 1) :: st) h) Q := G_unf rfl rfl
set_option maxRecDepth 100000 in
theorem g181_320 : G d 181 320 ls st h Q ↔ GN d 181 320 ls h (ldR ls 0 fun a => nx 321 ls (.ref a :: st) h) Q := G_unf rfl rfl
set_option maxRecDepth 100000 in
theorem g181_321 : G d 181 321 ls st h Q ↔ GN d 181 321 ls h (pR st fun a r => ck (arr h a 9) (nx 324 ls (.int (hI h a 4) :: r) h)) Q := G_unf rfl rfl
set_option maxRecDepth 100000 in
theorem g181_324 : G d 181 324 ls st h Q ↔ GN d 181 324 ls h (pA 2 st fun as r => pR r fun a r => ck (r.length ≤ 4 ∧ arr h a 9) (cll 160 (.ref a :: as) r)) Q := G_unf rfl rfl
set_option maxRecDepth 100000 in
theorem g181_327 : G d 181 327 ls st h Q ↔ GN d 181 327 ls h (ldR ls 0 fun a => nx 328 ls (.ref a :: st) h) Q := G_unf rfl rfl
set_option maxRecDepth 100000 in
theorem g181_328 : G d 181 328 ls st h Q ↔ GN d 181 328 ls h (pR st fun a r => ck (arr h a 9) (nx 331 ls (.int (hI h a 8) :: r) h)) Q := G_unf rfl rfl
set_option maxRecDepth 100000 in
theorem g181_331 : G d 181 331 ls st h Q ↔ GN d 181 331 ls h (pI st fun x r => br (x ≤ 0) (nx 336 ls r h) (nx 334 ls r h)) Q := G_unf rfl rfl
set_option maxRecDepth 100000 in
theorem g181_334 : G d 181 334 ls st h Q ↔ GN d 181 334 ls h (nx 335 ls (.int (nI 0) :: st) h) Q := G_unf rfl rfl
set_option maxRecDepth 100000 in
theorem g181_335 : G d 181 335 ls st h Q ↔ GN d 181 335 ls h (pIe st fun x => ck (x = 0 ∨ x = 1) (rtn (some (.int x)))) Q := G_unf rfl rfl
set_option maxRecDepth 100000 in
theorem g181_336 : G d 181 336 ls st h Q ↔ GN d 181 336 ls h (ldR ls 0 fun a => nx 337 ls (.ref a :: st) h) Q := G_unf rfl rfl
set_option maxRecDepth 100000 in
theorem g181_337 : G d 181 337 ls st h Q ↔ GN d 181 337 ls h (nx 340 ls (.long (lN 6385252) :: st) h) Q := G_unf rfl rfl
set_option maxRecDepth 100000 in
theorem g181_340 : G d 181 340 ls st h Q ↔ GN d 181 340 ls h (pA 1 st fun as r => pR r fun a r => ck (r.length ≤ 4 ∧ arr h a 9) (cll 166 (.ref a :: as) r)) Q := G_unf rfl rfl
set_option maxRecDepth 100000 in
theorem g181_343 : G d 181 343 ls st h Q ↔ GN d 181 343 ls h (pI st fun x r => ck (4 < ls.length) (nx 345 (st1 ls 4 (.int x)) r h)) Q := G_unf rfl rfl
set_option maxRecDepth 100000 in
theorem g181_345 : G d 181 345 ls st h Q ↔ GN d 181 345 ls h (ldR ls 0 fun a => nx 346 ls (.ref a :: st) h) Q := G_unf rfl rfl
set_option maxRecDepth 100000 in
theorem g181_346 : G d 181 346 ls st h Q ↔ GN d 181 346 ls h (ldI ls 4 fun x => nx 348 ls (.int x :: st) h) Q := G_unf rfl rfl
set_option maxRecDepth 100000 in
theorem g181_348 : G d 181 348 ls st h Q ↔ GN d 181 348 ls h (pI st fun x r => br (x = 0) (nx 355 ls r h) (nx 351 ls r h)) Q := G_unf rfl rfl
set_option maxRecDepth 100000 in
theorem g181_351 : G d 181 351 ls st h Q ↔ GN d 181 351 ls h (nx 352 ls (.int (nI 2) :: st) h) Q := G_unf rfl rfl
set_option maxRecDepth 100000 in
theorem g181_352 : G d 181 352 ls st h Q ↔ GN d 181 352 ls h (nx 356 ls st h) Q := G_unf rfl rfl
set_option maxRecDepth 100000 in
theorem g181_355 : G d 181 355 ls st h Q ↔ GN d 181 355 ls h (nx 356 ls (.int (nI 1) :: st) h) Q := G_unf rfl rfl
set_option maxRecDepth 100000 in
theorem g181_356 : G d 181 356 ls st h Q ↔ GN d 181 356 ls h (pA 1 st fun as r => pR r fun a r => ck (r.length ≤ 4 ∧ arr h a 9) (cll 175 (.ref a :: as) r)) Q := G_unf rfl rfl
set_option maxRecDepth 100000 in
theorem g181_359 : G d 181 359 ls st h Q ↔ GN d 181 359 ls h (ldR ls 0 fun a => nx 360 ls (.ref a :: st) h) Q := G_unf rfl rfl
set_option maxRecDepth 100000 in
theorem g181_360 : G d 181 360 ls st h Q ↔ GN d 181 360 ls h (ldI ls 4 fun x => nx 362 ls (.int x :: st) h) Q := G_unf rfl rfl
set_option maxRecDepth 100000 in
theorem g181_362 : G d 181 362 ls st h Q ↔ GN d 181 362 ls h (pI st fun x r => br (x = 0) (nx 370 ls r h) (nx 365 ls r h)) Q := G_unf rfl rfl
set_option maxRecDepth 100000 in
theorem g181_365 : G d 181 365 ls st h Q ↔ GN d 181 365 ls h (nx 367 ls (.int (nI 20) :: st) h) Q := G_unf rfl rfl
set_option maxRecDepth 100000 in
theorem g181_367 : G d 181 367 ls st h Q ↔ GN d 181 367 ls h (nx 372 ls st h) Q := G_unf rfl rfl
set_option maxRecDepth 100000 in
theorem g181_370 : G d 181 370 ls st h Q ↔ GN d 181 370 ls h (nx 372 ls (.int (nI 21) :: st) h) Q := G_unf rfl rfl
set_option maxRecDepth 100000 in
theorem g181_372 : G d 181 372 ls st h Q ↔ GN d 181 372 ls h (pA 1 st fun as r => pR r fun a r => ck (r.length ≤ 4 ∧ arr h a 9) (cll 176 (.ref a :: as) r)) Q := G_unf rfl rfl
set_option maxRecDepth 100000 in
theorem g181_375 : G d 181 375 ls st h Q ↔ GN d 181 375 ls h (ldR ls 0 fun a => nx 376 ls (.ref a :: st) h) Q := G_unf rfl rfl
set_option maxRecDepth 100000 in
theorem g181_376 : G d 181 376 ls st h Q ↔ GN d 181 376 ls h (pR st fun a r => ck (arr h a 9) (nx 379 ls (rv (hR h a 41) :: r) h)) Q := G_unf rfl rfl
set_option maxRecDepth 100000 in
theorem g181_379 : G d 181 379 ls st h Q ↔ GN d 181 379 ls h (ldI ls 1 fun x => nx 380 ls (.int x :: st) h) Q := G_unf rfl rfl
set_option maxRecDepth 100000 in
theorem g181_380 : G d 181 380 ls st h Q ↔ GN d 181 380 ls h (nx 381 ls (.int (nI 0) :: st) h) Q := G_unf rfl rfl
set_option maxRecDepth 100000 in
theorem g181_381 : G d 181 381 ls st h Q ↔ GN d 181 381 ls h (pRII st fun a i x r => ck (arr h a 10 ∧ inb i (hLn h a)) (nx 382 ls r (sI h a i.toNatClampNeg x))) Q := G_unf rfl rfl
set_option maxRecDepth 100000 in
theorem g181_382 : G d 181 382 ls st h Q ↔ GN d 181 382 ls h (ldR ls 0 fun a => nx 383 ls (.ref a :: st) h) Q := G_unf rfl rfl
set_option maxRecDepth 100000 in
theorem g181_383 : G d 181 383 ls st h Q ↔ GN d 181 383 ls h (pR st fun a r => ck (arr h a 9) (nx 386 ls (rv (hR h a 42) :: r) h)) Q := G_unf rfl rfl
set_option maxRecDepth 100000 in
theorem g181_386 : G d 181 386 ls st h Q ↔ GN d 181 386 ls h (ldI ls 1 fun x => nx 387 ls (.int x :: st) h) Q := G_unf rfl rfl
set_option maxRecDepth 100000 in
theorem g181_387 : G d 181 387 ls st h Q ↔ GN d 181 387 ls h (nx 388 ls (.int (nI 1) :: st) h) Q := G_unf rfl rfl
set_option maxRecDepth 100000 in
theorem g181_388 : G d 181 388 ls st h Q ↔ GN d 181 388 ls h (pRII st fun a i x r => ck ((arr h a 11 ∨ arr h a 12) ∧ inb i (hLn h a)) (nx 389 ls r (sI h a i.toNatClampNeg (if lay a = 11 then vp_nar .byte x else vp_nar .boolean x)))) Q := G_unf rfl rfl
set_option maxRecDepth 100000 in
theorem g181_389 : G d 181 389 ls st h Q ↔ GN d 181 389 ls h (ldR ls 0 fun a => nx 390 ls (.ref a :: st) h) Q := G_unf rfl rfl
set_option maxRecDepth 100000 in
theorem g181_390 : G d 181 390 ls st h Q ↔ GN d 181 390 ls h (pA 0 st fun as r => pR r fun a r => ck (r.length ≤ 4 ∧ arr h a 9) (cll 164 (.ref a :: as) r)) Q := G_unf rfl rfl
set_option maxRecDepth 100000 in
theorem g181_393 : G d 181 393 ls st h Q ↔ GN d 181 393 ls h (ldR ls 0 fun a => nx 394 ls (.ref a :: st) h) Q := G_unf rfl rfl
set_option maxRecDepth 100000 in
theorem g181_394 : G d 181 394 ls st h Q ↔ GN d 181 394 ls h (nx 395 ls (.int (nI 0) :: st) h) Q := G_unf rfl rfl
set_option maxRecDepth 100000 in
theorem g181_395 : G d 181 395 ls st h Q ↔ GN d 181 395 ls h (pRI st fun a x r => ck (arr h a 9 ∧ (x = 0 ∨ x = 1)) (nx 398 ls r (sI h a 49 x))) Q := G_unf rfl rfl
set_option maxRecDepth 100000 in
theorem g181_398 : G d 181 398 ls st h Q ↔ GN d 181 398 ls h (nx 399 ls (.int (nI 1) :: st) h) Q := G_unf rfl rfl
set_option maxRecDepth 100000 in
theorem g181_399 : G d 181 399 ls st h Q ↔ GN d 181 399 ls h (pIe st fun x => ck (x = 0 ∨ x = 1) (rtn (some (.int x)))) Q := G_unf rfl rfl
set_option maxRecDepth 100000 in
theorem g181_400 : G d 181 400 ls st h Q ↔ GN d 181 400 ls h (ldI ls 3 fun x => nx 401 ls (.int x :: st) h) Q := G_unf rfl rfl
set_option maxRecDepth 100000 in
theorem g181_401 : G d 181 401 ls st h Q ↔ GN d 181 401 ls h (pI st fun x r => br (x = 0) (nx 422 ls r h) (nx 404 ls r h)) Q := G_unf rfl rfl
set_option maxRecDepth 100000 in
theorem g181_404 : G d 181 404 ls st h Q ↔ GN d 181 404 ls h (ldR ls 0 fun a => nx 405 ls (.ref a :: st) h) Q := G_unf rfl rfl
set_option maxRecDepth 100000 in
theorem g181_405 : G d 181 405 ls st h Q ↔ GN d 181 405 ls h (pR st fun a r => ck (arr h a 9) (nx 408 ls (rv (hR h a 41) :: r) h)) Q := G_unf rfl rfl
set_option maxRecDepth 100000 in
theorem g181_408 : G d 181 408 ls st h Q ↔ GN d 181 408 ls h (ldI ls 1 fun x => nx 409 ls (.int x :: st) h) Q := G_unf rfl rfl
set_option maxRecDepth 100000 in
theorem g181_409 : G d 181 409 ls st h Q ↔ GN d 181 409 ls h (pRI st fun a i r => br (a = 1000003) (ck (inb i (hS h).1) (nx 410 ls (.int ((hS h).2 i.toNatClampNeg) :: r) h)) (ck (arr h a 10 ∧ inb i (hLn h a)) (nx 410 ls (.int (hI h a i.toNatClampNeg) :: r) h))) Q := G_unf rfl rfl
set_option maxRecDepth 100000 in
theorem g181_410 : G d 181 410 ls st h Q ↔ GN d 181 410 ls h (pI st fun x r => br (¬ x = 0) (nx 422 ls r h) (nx 413 ls r h)) Q := G_unf rfl rfl
set_option maxRecDepth 100000 in
theorem g181_413 : G d 181 413 ls st h Q ↔ GN d 181 413 ls h (ldR ls 0 fun a => nx 414 ls (.ref a :: st) h) Q := G_unf rfl rfl
set_option maxRecDepth 100000 in
theorem g181_414 : G d 181 414 ls st h Q ↔ GN d 181 414 ls h (nx 415 ls (.int (nI 1) :: st) h) Q := G_unf rfl rfl
set_option maxRecDepth 100000 in
theorem g181_415 : G d 181 415 ls st h Q ↔ GN d 181 415 ls h (ldR ls 0 fun a => nx 416 ls (.ref a :: st) h) Q := G_unf rfl rfl
set_option maxRecDepth 100000 in
theorem g181_416 : G d 181 416 ls st h Q ↔ GN d 181 416 ls h (pR st fun a r => ck (arr h a 9) (nx 419 ls (.int (hI h a 4) :: r) h)) Q := G_unf rfl rfl
set_option maxRecDepth 100000 in
theorem g181_419 : G d 181 419 ls st h Q ↔ GN d 181 419 ls h (pA 2 st fun as r => pR r fun a r => ck (r.length ≤ 4 ∧ arr h a 9) (cll 160 (.ref a :: as) r)) Q := G_unf rfl rfl
set_option maxRecDepth 100000 in
theorem g181_422 : G d 181 422 ls st h Q ↔ GN d 181 422 ls h (ldI ls 2 fun x => nx 423 ls (.int x :: st) h) Q := G_unf rfl rfl
set_option maxRecDepth 100000 in
theorem g181_423 : G d 181 423 ls st h Q ↔ GN d 181 423 ls h (nx 424 ls (.int (nI 2) :: st) h) Q := G_unf rfl rfl
set_option maxRecDepth 100000 in
theorem g181_424 : G d 181 424 ls st h Q ↔ GN d 181 424 ls h (pII st fun x y r => br (y ≤ x) (nx 441 ls r h) (nx 427 ls r h)) Q := G_unf rfl rfl
set_option maxRecDepth 100000 in
theorem g181_427 : G d 181 427 ls st h Q ↔ GN d 181 427 ls h (ldR ls 0 fun a => nx 428 ls (.ref a :: st) h) Q := G_unf rfl rfl
set_option maxRecDepth 100000 in
theorem g181_428 : G d 181 428 ls st h Q ↔ GN d 181 428 ls h (pR st fun a r => ck (arr h a 9) (nx 431 ls (.int (hI h a 8) :: r) h)) Q := G_unf rfl rfl
set_option maxRecDepth 100000 in
theorem g181_431 : G d 181 431 ls st h Q ↔ GN d 181 431 ls h (pI st fun x r => br (¬ x = 0) (nx 439 ls r h) (nx 434 ls r h)) Q := G_unf rfl rfl
set_option maxRecDepth 100000 in
theorem g181_434 : G d 181 434 ls st h Q ↔ GN d 181 434 ls h (ldR ls 0 fun a => nx 435 ls (.ref a :: st) h) Q := G_unf rfl rfl
set_option maxRecDepth 100000 in
theorem g181_435 : G d 181 435 ls st h Q ↔ GN d 181 435 ls h (nx 436 ls (.int (nI 1) :: st) h) Q := G_unf rfl rfl
set_option maxRecDepth 100000 in
theorem g181_436 : G d 181 436 ls st h Q ↔ GN d 181 436 ls h (pA 1 st fun as r => pR r fun a r => ck (r.length ≤ 4 ∧ arr h a 9) (cll 175 (.ref a :: as) r)) Q := G_unf rfl rfl
set_option maxRecDepth 100000 in
theorem g181_439 : G d 181 439 ls st h Q ↔ GN d 181 439 ls h (nx 440 ls (.int (nI 0) :: st) h) Q := G_unf rfl rfl
set_option maxRecDepth 100000 in
theorem g181_440 : G d 181 440 ls st h Q ↔ GN d 181 440 ls h (pIe st fun x => ck (x = 0 ∨ x = 1) (rtn (some (.int x)))) Q := G_unf rfl rfl
set_option maxRecDepth 100000 in
theorem g181_441 : G d 181 441 ls st h Q ↔ GN d 181 441 ls h (ldI ls 2 fun x => nx 442 ls (.int x :: st) h) Q := G_unf rfl rfl
set_option maxRecDepth 100000 in
theorem g181_442 : G d 181 442 ls st h Q ↔ GN d 181 442 ls h (nx 443 ls (.int (nI 3) :: st) h) Q := G_unf rfl rfl
set_option maxRecDepth 100000 in
theorem g181_443 : G d 181 443 ls st h Q ↔ GN d 181 443 ls h (pII st fun x y r => br (¬ x = y) (nx 496 ls r h) (nx 446 ls r h)) Q := G_unf rfl rfl
set_option maxRecDepth 100000 in
theorem g181_446 : G d 181 446 ls st h Q ↔ GN d 181 446 ls h (ldR ls 0 fun a => nx 447 ls (.ref a :: st) h) Q := G_unf rfl rfl
set_option maxRecDepth 100000 in
theorem g181_447 : G d 181 447 ls st h Q ↔ GN d 181 447 ls h (nx 449 ls (.int (nI 44) :: st) h) Q := G_unf rfl rfl
set_option maxRecDepth 100000 in
theorem g181_449 : G d 181 449 ls st h Q ↔ GN d 181 449 ls h (pA 1 st fun as r => pR r fun a r => ck (r.length ≤ 4 ∧ arr h a 9) (cll 165 (.ref a :: as) r)) Q := G_unf rfl rfl
set_option maxRecDepth 100000 in
theorem g181_452 : G d 181 452 ls st h Q ↔ GN d 181 452 ls h (pI st fun x r => br (¬ x = 0) (nx 464 ls r h) (nx 455 ls r h)) Q := G_unf rfl rfl
set_option maxRecDepth 100000 in
theorem g181_455 : G d 181 455 ls st h Q ↔ GN d 181 455 ls h (ldR ls 0 fun a => nx 456 ls (.ref a :: st) h) Q := G_unf rfl rfl
set_option maxRecDepth 100000 in
theorem g181_456 : G d 181 456 ls st h Q ↔ GN d 181 456 ls h (nx 457 ls (.int (nI 1) :: st) h) Q := G_unf rfl rfl
set_option maxRecDepth 100000 in
theorem g181_457 : G d 181 457 ls st h Q ↔ GN d 181 457 ls h (ldR ls 0 fun a => nx 458 ls (.ref a :: st) h) Q := G_unf rfl rfl
set_option maxRecDepth 100000 in
theorem g181_458 : G d 181 458 ls st h Q ↔ GN d 181 458 ls h (pR st fun a r => ck (arr h a 9) (nx 461 ls (.int (hI h a 4) :: r) h)) Q := G_unf rfl rfl
set_option maxRecDepth 100000 in
theorem g181_461 : G d 181 461 ls st h Q ↔ GN d 181 461 ls h (pA 2 st fun as r => pR r fun a r => ck (r.length ≤ 4 ∧ arr h a 9) (cll 160 (.ref a :: as) r)) Q := G_unf rfl rfl
set_option maxRecDepth 100000 in
theorem g181_464 : G d 181 464 ls st h Q ↔ GN d 181 464 ls h (ldR ls 0 fun a => nx 465 ls (.ref a :: st) h) Q := G_unf rfl rfl
set_option maxRecDepth 100000 in
theorem g181_465 : G d 181 465 ls st h Q ↔ GN d 181 465 ls h (pR st fun a r => ck (arr h a 9) (nx 468 ls (.int (hI h a 8) :: r) h)) Q := G_unf rfl rfl
set_option maxRecDepth 100000 in
theorem g181_468 : G d 181 468 ls st h Q ↔ GN d 181 468 ls h (pI st fun x r => br (x ≤ 0) (nx 473 ls r h) (nx 471 ls r h)) Q := G_unf rfl rfl
set_option maxRecDepth 100000 in
theorem g181_471 : G d 181 471 ls st h Q ↔ GN d 181 471 ls h (nx 472 ls (.int (nI 0) :: st) h) Q := G_unf rfl rfl
set_option maxRecDepth 100000 in
theorem g181_472 : G d 181 472 ls st h Q ↔ GN d 181 472 ls h (pIe st fun x => ck (x = 0 ∨ x = 1) (rtn (some (.int x)))) Q := G_unf rfl rfl
set_option maxRecDepth 100000 in
theorem g181_473 : G d 181 473 ls st h Q ↔ GN d 181 473 ls h (ldR ls 0 fun a => nx 474 ls (.ref a :: st) h) Q := G_unf rfl rfl
set_option maxRecDepth 100000 in
theorem g181_474 : G d 181 474 ls st h Q ↔ GN d 181 474 ls h (nx 475 ls (.int (nI 1) :: st) h) Q := G_unf rfl rfl
set_option maxRecDepth 100000 in
theorem g181_475 : G d 181 475 ls st h Q ↔ GN d 181 475 ls h (pA 1 st fun as r => pR r fun a r => ck (r.length ≤ 4 ∧ arr h a 9) (cll 175 (.ref a :: as) r)) Q := G_unf rfl rfl
set_option maxRecDepth 100000 in
theorem g181_478 : G d 181 478 ls st h Q ↔ GN d 181 478 ls h (ldR ls 0 fun a => nx 479 ls (.ref a :: st) h) Q := G_unf rfl rfl
set_option maxRecDepth 100000 in
theorem g181_479 : G d 181 479 ls st h Q ↔ GN d 181 479 ls h (pR st fun a r => ck (arr h a 9) (nx 482 ls (rv (hR h a 40) :: r) h)) Q := G_unf rfl rfl
set_option maxRecDepth 100000 in
theorem g181_482 : G d 181 482 ls st h Q ↔ GN d 181 482 ls h (ldI ls 1 fun x => nx 483 ls (.int x :: st) h) Q := G_unf rfl rfl
set_option maxRecDepth 100000 in
theorem g181_483 : G d 181 483 ls st h Q ↔ GN d 181 483 ls h (nx 484 ls (.int (nI 4) :: st) h) Q := G_unf rfl rfl
set_option maxRecDepth 100000 in
theorem g181_484 : G d 181 484 ls st h Q ↔ GN d 181 484 ls h (pRII st fun a i x r => ck (arr h a 10 ∧ inb i (hLn h a)) (nx 485 ls r (sI h a i.toNatClampNeg x))) Q := G_unf rfl rfl
set_option maxRecDepth 100000 in
theorem g181_485 : G d 181 485 ls st h Q ↔ GN d 181 485 ls h (ldR ls 0 fun a => nx 486 ls (.ref a :: st) h) Q := G_unf rfl rfl
set_option maxRecDepth 100000 in
theorem g181_486 : G d 181 486 ls st h Q ↔ GN d 181 486 ls h (pA 0 st fun as r => pR r fun a r => ck (r.length ≤ 4 ∧ arr h a 9) (cll 164 (.ref a :: as) r)) Q := G_unf rfl rfl
set_option maxRecDepth 100000 in
theorem g181_489 : G d 181 489 ls st h Q ↔ GN d 181 489 ls h (ldR ls 0 fun a => nx 490 ls (.ref a :: st) h) Q := G_unf rfl rfl
set_option maxRecDepth 100000 in
theorem g181_490 : G d 181 490 ls st h Q ↔ GN d 181 490 ls h (nx 491 ls (.int (nI 0) :: st) h) Q := G_unf rfl rfl
set_option maxRecDepth 100000 in
theorem g181_491 : G d 181 491 ls st h Q ↔ GN d 181 491 ls h (pRI st fun a x r => ck (arr h a 9 ∧ (x = 0 ∨ x = 1)) (nx 494 ls r (sI h a 49 x))) Q := G_unf rfl rfl
set_option maxRecDepth 100000 in
theorem g181_494 : G d 181 494 ls st h Q ↔ GN d 181 494 ls h (nx 495 ls (.int (nI 1) :: st) h) Q := G_unf rfl rfl
set_option maxRecDepth 100000 in
theorem g181_495 : G d 181 495 ls st h Q ↔ GN d 181 495 ls h (pIe st fun x => ck (x = 0 ∨ x = 1) (rtn (some (.int x)))) Q := G_unf rfl rfl
set_option maxRecDepth 100000 in
theorem g181_496 : G d 181 496 ls st h Q ↔ GN d 181 496 ls h (ldR ls 0 fun a => nx 497 ls (.ref a :: st) h) Q := G_unf rfl rfl
set_option maxRecDepth 100000 in
theorem g181_497 : G d 181 497 ls st h Q ↔ GN d 181 497 ls h (ldI ls 2 fun x => nx 498 ls (.int x :: st) h) Q := G_unf rfl rfl
set_option maxRecDepth 100000 in
theorem g181_498 : G d 181 498 ls st h Q ↔ GN d 181 498 ls h (nx 499 ls (.int (nI 5) :: st) h) Q := G_unf rfl rfl
set_option maxRecDepth 100000 in
theorem g181_499 : G d 181 499 ls st h Q ↔ GN d 181 499 ls h (pII st fun x y r => br (¬ x = y) (nx 507 ls r h) (nx 502 ls r h)) Q := G_unf rfl rfl
set_option maxRecDepth 100000 in
theorem g181_502 : G d 181 502 ls st h Q ↔ GN d 181 502 ls h (nx 504 ls (.int (nI 93) :: st) h) Q := G_unf rfl rfl
set_option maxRecDepth 100000 in
theorem g181_504 : G d 181 504 ls st h Q ↔ GN d 181 504 ls h (nx 509 ls st h) Q := G_unf rfl rfl
set_option maxRecDepth 100000 in
theorem g181_507 : G d 181 507 ls st h Q ↔ GN d 181 507 ls h (nx 509 ls (.int (nI 41) :: st) h) Q := G_unf rfl rfl
set_option maxRecDepth 100000 in
theorem g181_509 : G d 181 509 ls st h Q ↔ GN d 181 509 ls h (pA 1 st fun as r => pR r fun a r => ck (r.length ≤ 4 ∧ arr h a 9) (cll 165 (.ref a :: as) r)) Q := G_unf rfl rfl
set_option maxRecDepth 100000 in
theorem g181_512 : G d 181 512 ls st h Q ↔ GN d 181 512 ls h (pI st fun x r => br (¬ x = 0) (nx 524 ls r h) (nx 515 ls r h)) Q := G_unf rfl rfl
set_option maxRecDepth 100000 in
theorem g181_515 : G d 181 515 ls st h Q ↔ GN d 181 515 ls h (ldR ls 0 fun a => nx 516 ls (.ref a :: st) h) Q := G_unf rfl rfl
set_option maxRecDepth 100000 in
theorem g181_516 : G d 181 516 ls st h Q ↔ GN d 181 516 ls h (nx 517 ls (.int (nI 1) :: st) h) Q := G_unf rfl rfl
set_option maxRecDepth 100000 in
theorem g181_517 : G d 181 517 ls st h Q ↔ GN d 181 517 ls h (ldR ls 0 fun a => nx 518 ls (.ref a :: st) h) Q := G_unf rfl rfl
set_option maxRecDepth 100000 in
theorem g181_518 : G d 181 518 ls st h Q ↔ GN d 181 518 ls h (pR st fun a r => ck (arr h a 9) (nx 521 ls (.int (hI h a 4) :: r) h)) Q := G_unf rfl rfl
set_option maxRecDepth 100000 in
theorem g181_521 : G d 181 521 ls st h Q ↔ GN d 181 521 ls h (pA 2 st fun as r => pR r fun a r => ck (r.length ≤ 4 ∧ arr h a 9) (cll 160 (.ref a :: as) r)) Q := G_unf rfl rfl
set_option maxRecDepth 100000 in
theorem g181_524 : G d 181 524 ls st h Q ↔ GN d 181 524 ls h (ldR ls 0 fun a => nx 525 ls (.ref a :: st) h) Q := G_unf rfl rfl
set_option maxRecDepth 100000 in
theorem g181_525 : G d 181 525 ls st h Q ↔ GN d 181 525 ls h (pR st fun a r => ck (arr h a 9) (nx 528 ls (.int (hI h a 8) :: r) h)) Q := G_unf rfl rfl
set_option maxRecDepth 100000 in
theorem g181_528 : G d 181 528 ls st h Q ↔ GN d 181 528 ls h (pI st fun x r => br (x ≤ 0) (nx 533 ls r h) (nx 531 ls r h)) Q := G_unf rfl rfl
set_option maxRecDepth 100000 in
theorem g181_531 : G d 181 531 ls st h Q ↔ GN d 181 531 ls h (nx 532 ls (.int (nI 0) :: st) h) Q := G_unf rfl rfl
set_option maxRecDepth 100000 in
theorem g181_532 : G d 181 532 ls st h Q ↔ GN d 181 532 ls h (pIe st fun x => ck (x = 0 ∨ x = 1) (rtn (some (.int x)))) Q := G_unf rfl rfl
set_option maxRecDepth 100000 in
theorem g181_533 : G d 181 533 ls st h Q ↔ GN d 181 533 ls h (ldR ls 0 fun a => nx 534 ls (.ref a :: st) h) Q := G_unf rfl rfl
set_option maxRecDepth 100000 in
theorem g181_534 : G d 181 534 ls st h Q ↔ GN d 181 534 ls h (nx 535 ls (.int (nI 1) :: st) h) Q := G_unf rfl rfl
set_option maxRecDepth 100000 in
theorem g181_535 : G d 181 535 ls st h Q ↔ GN d 181 535 ls h (pA 1 st fun as r => pR r fun a r => ck (r.length ≤ 4 ∧ arr h a 9) (cll 175 (.ref a :: as) r)) Q := G_unf rfl rfl
set_option maxRecDepth 100000 in
theorem g181_538 : G d 181 538 ls st h Q ↔ GN d 181 538 ls h (ldR ls 0 fun a => nx 539 ls (.ref a :: st) h) Q := G_unf rfl rfl
set_option maxRecDepth 100000 in
theorem g181_539 : G d 181 539 ls st h Q ↔ GN d 181 539 ls h (p1 st fun v r => nx 540 ls (v :: v :: r) h) Q := G_unf rfl rfl
set_option maxRecDepth 100000 in
theorem g181_540 : G d 181 540 ls st h Q ↔ GN d 181 540 ls h (pR st fun a r => ck (arr h a 9) (nx 543 ls (.int (hI h a 45) :: r) h)) Q := G_unf rfl rfl
set_option maxRecDepth 100000 in
theorem g181_543 : G d 181 543 ls st h Q ↔ GN d 181 543 ls h (nx 544 ls (.int (nI 1) :: st) h) Q := G_unf rfl rfl
set_option maxRecDepth 100000 in
theorem g181_544 : G d 181 544 ls st h Q ↔ GN d 181 544 ls h (pII st fun x y r => nx 545 ls (.int (x - y) :: r) h) Q := G_unf rfl rfl
set_option maxRecDepth 100000 in
theorem g181_545 : G d 181 545 ls st h Q ↔ GN d 181 545 ls h (pRI st fun a x r => ck (arr h a 9) (nx 548 ls r (sI h a 45 x))) Q := G_unf rfl rfl
set_option maxRecDepth 100000 in
theorem g181_548 : G d 181 548 ls st h Q ↔ GN d 181 548 ls h (ldR ls 0 fun a => nx 549 ls (.ref a :: st) h) Q := G_unf rfl rfl
set_option maxRecDepth 100000 in
theorem g181_549 : G d 181 549 ls st h Q ↔ GN d 181 549 ls h (p1 st fun v r => nx 550 ls (v :: v :: r) h) Q := G_unf rfl rfl
set_option maxRecDepth 100000 in
theorem g181_550 : G d 181 550 ls st h Q ↔ GN d 181 550 ls h (pR st fun a r => ck (arr h a 9) (nx 553 ls (.int (hI h a 46) :: r) h)) Q := G_unf rfl rfl
set_option maxRecDepth 100000 in
theorem g181_553 : G d 181 553 ls st h Q ↔ GN d 181 553 ls h (nx 554 ls (.int (nI 1) :: st) h) Q := G_unf rfl rfl
set_option maxRecDepth 100000 in
theorem g181_554 : G d 181 554 ls st h Q ↔ GN d 181 554 ls h (pII st fun x y r => nx 555 ls (.int (x - y) :: r) h) Q := G_unf rfl rfl
set_option maxRecDepth 100000 in
theorem g181_555 : G d 181 555 ls st h Q ↔ GN d 181 555 ls h (pRI st fun a x r => ck (arr h a 9) (nx 558 ls r (sI h a 46 x))) Q := G_unf rfl rfl
set_option maxRecDepth 100000 in
theorem g181_558 : G d 181 558 ls st h Q ↔ GN d 181 558 ls h (ldI ls 2 fun x => nx 559 ls (.int x :: st) h) Q := G_unf rfl rfl
set_option maxRecDepth 100000 in
theorem g181_559 : G d 181 559 ls st h Q ↔ GN d 181 559 ls h (nx 560 ls (.int (nI 4) :: st) h) Q := G_unf rfl rfl
set_option maxRecDepth 100000 in
theorem g181_560 : G d 181 560 ls st h Q ↔ GN d 181 560 ls h (pII st fun x y r => br (¬ x = y) (nx 574 ls r h) (nx 563 ls r h)) Q := G_unf rfl rfl
set_option maxRecDepth 100000 in
theorem g181_563 : G d 181 563 ls st h Q ↔ GN d 181 563 ls h (ldR ls 0 fun a => nx 564 ls (.ref a :: st) h) Q := G_unf rfl rfl
set_option maxRecDepth 100000 in
theorem g181_564 : G d 181 564 ls st h Q ↔ GN d 181 564 ls h (ldR ls 0 fun a => nx 565 ls (.ref a :: st) h) Q := G_unf rfl rfl
set_option maxRecDepth 100000 in
theorem g181_565 : G d 181 565 ls st h Q ↔ GN d 181 565 ls h (pR st fun a r => ck (arr h a 9) (nx 568 ls (rv (hR h a 43) :: r) h)) Q := G_unf rfl rfl
set_option maxRecDepth 100000 in
theorem g181_568 : G d 181 568 ls st h Q ↔ GN d 181 568 ls h (ldI ls 1 fun x => nx 569 ls (.int x :: st) h) Q := G_unf rfl rfl
set_option maxRecDepth 100000 in
theorem g181_569 : G d 181 569 ls st h Q ↔ GN d 181 569 ls h (pRI st fun a i r => br (a = 1000003) (ck (inb i (hS h).1) (nx 570 ls (.int ((hS h).2 i.toNatClampNeg) :: r) h)) (ck (arr h a 10 ∧ inb i (hLn h a)) (nx 570 ls (.int (hI h a i.toNatClampNeg) :: r) h))) Q := G_unf rfl rfl
set_option maxRecDepth 100000 in
theorem g181_570 : G d 181 570 ls st h Q ↔ GN d 181 570 ls h (nx 571 ls (.int (nI 0) :: st) h) Q := G_unf rfl rfl
set_option maxRecDepth 100000 in
theorem g181_571 : G d 181 571 ls st h Q ↔ GN d 181 571 ls h (pA 2 st fun as r => pR r fun a r => ck (r.length ≤ 4 ∧ arr h a 9) (cll 173 (.ref a :: as) r)) Q := G_unf rfl rfl
set_option maxRecDepth 100000 in
theorem g181_574 : G d 181 574 ls st h Q ↔ GN d 181 574 ls h (ldI ls 2 fun x => nx 575 ls (.int x :: st) h) Q := G_unf rfl rfl
set_option maxRecDepth 100000 in
theorem g181_575 : G d 181 575 ls st h Q ↔ GN d 181 575 ls h (nx 576 ls (.int (nI 5) :: st) h) Q := G_unf rfl rfl
set_option maxRecDepth 100000 in
theorem g181_576 : G d 181 576 ls st h Q ↔ GN d 181 576 ls h (pII st fun x y r => br (¬ x = y) (nx 591 ls r h) (nx 579 ls r h)) Q := G_unf rfl rfl
set_option maxRecDepth 100000 in
theorem g181_579 : G d 181 579 ls st h Q ↔ GN d 181 579 ls h (ldR ls 0 fun a => nx 580 ls (.ref a :: st) h) Q := G_unf rfl rfl
set_option maxRecDepth 100000 in
theorem g181_580 : G d 181 580 ls st h Q ↔ GN d 181 580 ls h (pR st fun a r => ck (arr h a 9) (nx 583 ls (rv (hR h a 41) :: r) h)) Q := G_unf rfl rfl
set_option maxRecDepth 100000 in
theorem g181_583 : G d 181 583 ls st h Q ↔ GN d 181 583 ls h (ldR ls 0 fun a => nx 584 ls (.ref a :: st) h) Q := G_unf rfl rfl
set_option maxRecDepth 100000 in
theorem g181_584 : G d 181 584 ls st h Q ↔ GN d 181 584 ls h (pR st fun a r => ck (arr h a 9) (nx 587 ls (.int (hI h a 45) :: r) h)) Q := G_unf rfl rfl
set_option maxRecDepth 100000 in
theorem g181_587 : G d 181 587 ls st h Q ↔ GN d 181 587 ls h (nx 588 ls (.int (nI 1) :: st) h) Q := G_unf rfl rfl
set_option maxRecDepth 100000 in
theorem g181_588 : G d 181 588 ls st h Q ↔ GN d 181 588 ls h (pII st fun x y r => nx 589 ls (.int (x - y) :: r) h) Q := G_unf rfl rfl
set_option maxRecDepth 100000 in
theorem g181_589 : G d 181 589 ls st h Q ↔ GN d 181 589 ls h (nx 590 ls (.int (nI 2) :: st) h) Q := G_unf rfl rfl
set_option maxRecDepth 100000 in
theorem g181_590 : G d 181 590 ls st h Q ↔ GN d 181 590 ls h (pRII st fun a i x r => ck (arr h a 10 ∧ inb i (hLn h a)) (nx 591 ls r (sI h a i.toNatClampNeg x))) Q := G_unf rfl rfl
set_option maxRecDepth 100000 in
theorem g181_591 : G d 181 591 ls st h Q ↔ GN d 181 591 ls h (ldR ls 0 fun a => nx 592 ls (.ref a :: st) h) Q := G_unf rfl rfl
set_option maxRecDepth 100000 in
theorem g181_592 : G d 181 592 ls st h Q ↔ GN d 181 592 ls h (pA 0 st fun as r => pR r fun a r => ck (r.length ≤ 4 ∧ arr h a 9) (cll 164 (.ref a :: as) r)) Q := G_unf rfl rfl
set_option maxRecDepth 100000 in
theorem g181_595 : G d 181 595 ls st h Q ↔ GN d 181 595 ls h (nx 596 ls (.int (nI 1) :: st) h) Q := G_unf rfl rfl
set_option maxRecDepth 100000 in
theorem g181_596 : G d 181 596 ls st h Q ↔ GN d 181 596 ls h (pIe st fun x => ck (x = 0 ∨ x = 1) (rtn (some (.int x)))) Q := G_unf rfl rfl
theorem g182_0 : G d 182 0 ls st h Q ↔ GN d 182 0 ls h (ldR ls 0 fun a => nx 1 ls (.ref a :: st) h) Q := G_unf rfl rfl
theorem g182_1 : G d 182 1 ls st h Q ↔ GN d 182 1 ls h (pR st fun a r => ck (arr h a 9) (nx 4 ls (.int (hI h a 8) :: r) h)) Q := G_unf rfl rfl
theorem g182_4 : G d 182 4 ls st h Q ↔ GN d 182 4 ls h (pI st fun x r => br (x ≤ 0) (nx 8 ls r h) (nx 7 ls r h)) Q := G_unf rfl rfl
theorem g182_7 : G d 182 7 ls st h Q ↔ GN d 182 7 ls h (pE st (rtn none)) Q := G_unf rfl rfl
theorem g182_8 : G d 182 8 ls st h Q ↔ GN d 182 8 ls h (ldR ls 0 fun a => nx 9 ls (.ref a :: st) h) Q := G_unf rfl rfl
theorem g182_9 : G d 182 9 ls st h Q ↔ GN d 182 9 ls h (nx 10 ls (.int (nI 0) :: st) h) Q := G_unf rfl rfl
theorem g182_10 : G d 182 10 ls st h Q ↔ GN d 182 10 ls h (pRI st fun a x r => ck (arr h a 9) (nx 13 ls r (sI h a 45 x))) Q := G_unf rfl rfl
theorem g182_13 : G d 182 13 ls st h Q ↔ GN d 182 13 ls h (ldR ls 0 fun a => nx 14 ls (.ref a :: st) h) Q := G_unf rfl rfl
theorem g182_14 : G d 182 14 ls st h Q ↔ GN d 182 14 ls h (nx 15 ls (.int (nI 0) :: st) h) Q := G_unf rfl rfl
theorem g182_15 : G d 182 15 ls st h Q ↔ GN d 182 15 ls h (pRI st fun a x r => ck (arr h a 9) (nx 18 ls r (sI h a 46 x))) Q := G_unf rfl rfl
theorem g182_18 : G d 182 18 ls st h Q ↔ GN d 182 18 ls h (ldR ls 0 fun a => nx 19 ls (.ref a :: st) h) Q := G_unf rfl rfl
theorem g182_19 : G d 182 19 ls st h Q ↔ GN d 182 19 ls h (nx 20 ls (.int (nI 0) :: st) h) Q := G_unf rfl rfl
theorem g182_20 : G d 182 20 ls st h Q ↔ GN d 182 20 ls h (pRI st fun a x r => ck (arr h a 9) (nx 23 ls r (sI h a 48 x))) Q := G_unf rfl rfl
theorem g182_23 : G d 182 23 ls st h Q ↔ GN d 182 23 ls h (ldR ls 0 fun a => nx 24 ls (.ref a :: st) h) Q := G_unf rfl rfl
theorem g182_24 : G d 182 24 ls st h Q ↔ GN d 182 24 ls h (nx 25 ls (.int (nI 0) :: st) h) Q := G_unf rfl rfl
theorem g182_25 : G d 182 25 ls st h Q ↔ GN d 182 25 ls h (pRI st fun a x r => ck (arr h a 9 ∧ (x = 0 ∨ x = 1)) (nx 28 ls r (sI h a 49 x))) Q := G_unf rfl rfl
theorem g182_28 : G d 182 28 ls st h Q ↔ GN d 182 28 ls h (ldR ls 0 fun a => nx 29 ls (.ref a :: st) h) Q := G_unf rfl rfl
theorem g182_29 : G d 182 29 ls st h Q ↔ GN d 182 29 ls h (ldI ls 1 fun x => nx 30 ls (.int x :: st) h) Q := G_unf rfl rfl
theorem g182_30 : G d 182 30 ls st h Q ↔ GN d 182 30 ls h (pI st fun x r => br (x = 0) (nx 37 ls r h) (nx 33 ls r h)) Q := G_unf rfl rfl
theorem g182_33 : G d 182 33 ls st h Q ↔ GN d 182 33 ls h (nx 34 ls (.int (nI 1) :: st) h) Q := G_unf rfl rfl
theorem g182_34 : G d 182 34 ls st h Q ↔ GN d 182 34 ls h (nx 38 ls st h) Q := G_unf rfl rfl
theorem g182_37 : G d 182 37 ls st h Q ↔ GN d 182 37 ls h (nx 38 ls (.int (nI 0) :: st) h) Q := G_unf rfl rfl
theorem g182_38 : G d 182 38 ls st h Q ↔ GN d 182 38 ls h (pA 1 st fun as r => pR r fun a r => ck (r.length ≤ 4 ∧ arr h a 9) (cll 177 (.ref a :: as) r)) Q := G_unf rfl rfl
theorem g182_41 : G d 182 41 ls st h Q ↔ GN d 182 41 ls h (nx 42 ls (.int (nI 1) :: st) h) Q := G_unf rfl rfl
theorem g182_42 : G d 182 42 ls st h Q ↔ GN d 182 42 ls h (pI st fun x r => ck (2 < ls.length) (nx 43 (st1 ls 2 (.int x)) r h)) Q := G_unf rfl rfl
theorem g182_43 : G d 182 43 ls st h Q ↔ GN d 182 43 ls h (ldI ls 2 fun x => nx 44 ls (.int x :: st) h) Q := G_unf rfl rfl
theorem g182_44 : G d 182 44 ls st h Q ↔ GN d 182 44 ls h (pI st fun x r => br (x = 0) (nx 90 ls r h) (nx 47 ls r h)) Q := G_unf rfl rfl
theorem g182_47 : G d 182 47 ls st h Q ↔ GN d 182 47 ls h (ldR ls 0 fun a => nx 48 ls (.ref a :: st) h) Q := G_unf rfl rfl
theorem g182_48 : G d 182 48 ls st h Q ↔ GN d 182 48 ls h (pR st fun a r => ck (arr h a 9) (nx 51 ls (.int (hI h a 49) :: r) h)) Q := G_unf rfl rfl
theorem g182_51 : G d 182 51 ls st h Q ↔ GN d 182 51 ls h (pI st fun x r => br (¬ x = 0) (nx 65 ls r h) (nx 54 ls r h)) Q := G_unf rfl rfl
theorem g182_54 : G d 182 54 ls st h Q ↔ GN d 182 54 ls h (ldR ls 0 fun a => nx 55 ls (.ref a :: st) h) Q := G_unf rfl rfl
theorem g182_55 : G d 182 55 ls st h Q ↔ GN d 182 55 ls h (ldR ls 0 fun a => nx 56 ls (.ref a :: st) h) Q := G_unf rfl rfl
theorem g182_56 : G d 182 56 ls st h Q ↔ GN d 182 56 ls h (pA 0 st fun as r => pR r fun a r => ck (r.length ≤ 4 ∧ arr h a 9) (cll 180 (.ref a :: as) r)) Q := G_unf rfl rfl
theorem g182_59 : G d 182 59 ls st h Q ↔ GN d 182 59 ls h (pRI st fun a x r => ck (arr h a 9 ∧ (x = 0 ∨ x = 1)) (nx 62 ls r (sI h a 49 x))) Q := G_unf rfl rfl
theorem g182_62 : G d 182 62 ls st h Q ↔ GN d 182 62 ls h (nx 70 ls st h) Q := G_unf rfl rfl
theorem g182_65 : G d 182 65 ls st h Q ↔ GN d 182 65 ls h (ldR ls 0 fun a => nx 66 ls (.ref a :: st) h) Q := G_unf rfl rfl
theorem g182_66 : G d 182 66 ls st h Q ↔ GN d 182 66 ls h (pA 0 st fun as r => pR r fun a r => ck (r.length ≤ 4 ∧ arr h a 9) (cll 181 (.ref a :: as) r)) Q := G_unf rfl rfl
theorem g182_69 : G d 182 69 ls st h Q ↔ GN d 182 69 ls h (pI st fun x r => ck (2 < ls.length) (nx 70 (st1 ls 2 (.int x)) r h)) Q := G_unf rfl rfl
theorem g182_70 : G d 182 70 ls st h Q ↔ GN d 182 70 ls h (ldI ls 2 fun x => nx 71 ls (.int x :: st) h) Q := G_unf rfl rfl
theorem g182_71 : G d 182 71 ls st h Q ↔ GN d 182 71 ls h (pI st fun x r => br (x = 0) (nx 85 ls r h) (nx 74 ls r h)) Q := G_unf rfl rfl
theorem g182_74 : G d 182 74 ls st h Q ↔ GN d 182 74 ls h (ldR ls 0 fun a => nx 75 ls (.ref a :: st) h) Q := G_unf rfl rfl
theorem g182_75 : G d 182 75 ls st h Q ↔ GN d 182 75 ls h (pR st fun a r => ck (arr h a 9) (nx 78 ls (.int (hI h a 8) :: r) h)) Q := G_unf rfl rfl
theorem g182_78 : G d 182 78 ls st h Q ↔ GN d 182 78 ls h (pI st fun x r => br (¬ x = 0) (nx 85 ls r h) (nx 81 ls r h)) Q := G_unf rfl rfl
theorem g182_81 : G d 182 81 ls st h Q ↔ GN d 182 81 ls h (nx 82 ls (.int (nI 1) :: st) h) Q := G_unf rfl rfl
theorem g182_82 : G d 182 82 ls st h Q ↔ GN d 182 82 ls h (nx 86 ls st h) Q := G_unf rfl rfl
theorem g182_85 : G d 182 85 ls st h Q ↔ GN d 182 85 ls h (nx 86 ls (.int (nI 0) :: st) h) Q := G_unf rfl rfl
theorem g182_86 : G d 182 86 ls st h Q ↔ GN d 182 86 ls h (pI st fun x r => ck (2 < ls.length) (nx 87 (st1 ls 2 (.int x)) r h)) Q := G_unf rfl rfl
theorem g182_87 : G d 182 87 ls st h Q ↔ GN d 182 87 ls h (nx 43 ls st h) Q := G_unf rfl rfl
theorem g182_90 : G d 182 90 ls st h Q ↔ GN d 182 90 ls h (pE st (rtn none)) Q := G_unf rfl rfl
theorem g183_0 : G d 183 0 ls st h Q ↔ GN d 183 0 ls h (ldR ls 0 fun a => nx 1 ls (.ref a :: st) h) Q := G_unf rfl rfl
theorem g183_1 : G d 183 1 ls st h Q ↔ GN d 183 1 ls h (pR st fun a r => ck (arr h a 9) (nx 4 ls (.int (hI h a 8) :: r) h)) Q := G_unf rfl rfl
theorem g183_4 : G d 183 4 ls st h Q ↔ GN d 183 4 ls h (pI st fun x r => br (¬ x = 0) (nx 21 ls r h) (nx 7 ls r h)) Q := G_unf rfl rfl
theorem g183_7 : G d 183 7 ls st h Q ↔ GN d 183 7 ls h (ldI ls 1 fun x => nx 8 ls (.int x :: st) h) Q := G_unf rfl rfl
theorem g183_8 : G d 183 8 ls st h Q ↔ GN d 183 8 ls h (pI st fun x r => br (x = 0) (nx 21 ls r h) (nx 11 ls r h)) Q := G_unf rfl rfl
theorem g183_11 : G d 183 11 ls st h Q ↔ GN d 183 11 ls h (ldR ls 0 fun a => nx 12 ls (.ref a :: st) h) Q := G_unf rfl rfl
theorem g183_12 : G d 183 12 ls st h Q ↔ GN d 183 12 ls h (nx 14 ls (.int (nI 6) :: st) h) Q := G_unf rfl rfl
theorem g183_14 : G d 183 14 ls st h Q ↔ GN d 183 14 ls h (ldR ls 0 fun a => nx 15 ls (.ref a :: st) h) Q := G_unf rfl rfl
theorem g183_15 : G d 183 15 ls st h Q ↔ GN d 183 15 ls h (pR st fun a r => ck (arr h a 9) (nx 18 ls (.int (hI h a 4) :: r) h)) Q := G_unf rfl rfl
theorem g183_18 : G d 183 18 ls st h Q ↔ GN d 183 18 ls h (pA 2 st fun as r => pR r fun a r => ck (r.length ≤ 4 ∧ arr h a 9) (cll 160 (.ref a :: as) r)) Q := G_unf rfl rfl
theorem g183_21 : G d 183 21 ls st h Q ↔ GN d 183 21 ls h (ldR ls 0 fun a => nx 22 ls (.ref a :: st) h) Q := G_unf rfl rfl
theorem g183_22 : G d 183 22 ls st h Q ↔ GN d 183 22 ls h (pR st fun a r => ck (arr h a 9) (nx 25 ls (.int (hI h a 8) :: r) h)) Q := G_unf rfl rfl
theorem g183_25 : G d 183 25 ls st h Q ↔ GN d 183 25 ls h (pI st fun x r => br (¬ x = 0) (nx 32 ls r h) (nx 28 ls r h)) Q := G_unf rfl rfl
theorem g183_28 : G d 183 28 ls st h Q ↔ GN d 183 28 ls h (ldR ls 0 fun a => nx 29 ls (.ref a :: st) h) Q := G_unf rfl rfl
theorem g183_29 : G d 183 29 ls st h Q ↔ GN d 183 29 ls h (pA 0 st fun as r => pR r fun a r => ck (r.length ≤ 4 ∧ arr h a 9) (cll 164 (.ref a :: as) r)) Q := G_unf rfl rfl
theorem g183_32 : G d 183 32 ls st h Q ↔ GN d 183 32 ls h (ldR ls 0 fun a => nx 33 ls (.ref a :: st) h) Q := G_unf rfl rfl
theorem g183_33 : G d 183 33 ls st h Q ↔ GN d 183 33 ls h (pR st fun a r => ck (arr h a 9) (nx 36 ls (.int (hI h a 8) :: r) h)) Q := G_unf rfl rfl
theorem g183_36 : G d 183 36 ls st h Q ↔ GN d 183 36 ls h (pI st fun x r => br (¬ x = 0) (nx 43 ls r h) (nx 39 ls r h)) Q := G_unf rfl rfl
theorem g183_39 : G d 183 39 ls st h Q ↔ GN d 183 39 ls h (nx 40 ls (.int (nI 1) :: st) h) Q := G_unf rfl rfl
theorem g183_40 : G d 183 40 ls st h Q ↔ GN d 183 40 ls h (nx 44 ls st h) Q := G_unf rfl rfl
theorem g183_43 : G d 183 43 ls st h Q ↔ GN d 183 43 ls h (nx 44 ls (.int (nI 0) :: st) h) Q := G_unf rfl rfl
theorem g183_44 : G d 183 44 ls st h Q ↔ GN d 183 44 ls h (pIe st fun x => ck (x = 0 ∨ x = 1) (rtn (some (.int x)))) Q := G_unf rfl rfl
theorem g184_0 : G d 184 0 ls st h Q ↔ GN d 184 0 ls h (ldR ls 0 fun a => nx 1 ls (.ref a :: st) h) Q := G_unf rfl rfl
theorem g184_1 : G d 184 1 ls st h Q ↔ GN d 184 1 ls h (pA 0 st fun as r => pR r fun a r => ck (r.length ≤ 4 ∧ arr h a 9) (cll 163 (.ref a :: as) r)) Q := G_unf rfl rfl
theorem g184_4 : G d 184 4 ls st h Q ↔ GN d 184 4 ls h (ldR ls 0 fun a => nx 5 ls (.ref a :: st) h) Q := G_unf rfl rfl
theorem g184_5 : G d 184 5 ls st h Q ↔ GN d 184 5 ls h (pR st fun a r => ck (arr h a 9) (nx 8 ls (.int (hI h a 8) :: r) h)) Q := G_unf rfl rfl
theorem g184_8 : G d 184 8 ls st h Q ↔ GN d 184 8 ls h (pI st fun x r => br (x ≤ 0) (nx 12 ls r h) (nx 11 ls r h)) Q := G_unf rfl rfl
theorem g184_11 : G d 184 11 ls st h Q ↔ GN d 184 11 ls h (pE st (rtn none)) Q := G_unf rfl rfl
theorem g184_12 : G d 184 12 ls st h Q ↔ GN d 184 12 ls h (ldR ls 0 fun a => nx 13 ls (.ref a :: st) h) Q := G_unf rfl rfl
theorem g184_13 : G d 184 13 ls st h Q ↔ GN d 184 13 ls h (ldJ ls 1 fun x => nx 14 ls (.long x :: st) h) Q := G_unf rfl rfl
theorem g184_14 : G d 184 14 ls st h Q ↔ GN d 184 14 ls h (pA 1 st fun as r => pR r fun a r => ck (r.length ≤ 4 ∧ arr h a 9) (cll 166 (.ref a :: as) r)) Q := G_unf rfl rfl
theorem g184_17 : G d 184 17 ls st h Q ↔ GN d 184 17 ls h (pI st fun x r => br (¬ x = 0) (nx 29 ls r h) (nx 20 ls r h)) Q := G_unf rfl rfl
theorem g184_20 : G d 184 20 ls st h Q ↔ GN d 184 20 ls h (ldR ls 0 fun a => nx 21 ls (.ref a :: st) h) Q := G_unf rfl rfl
theorem g184_21 : G d 184 21 ls st h Q ↔ GN d 184 21 ls h (nx 22 ls (.int (nI 1) :: st) h) Q := G_unf rfl rfl
theorem g184_22 : G d 184 22 ls st h Q ↔ GN d 184 22 ls h (ldR ls 0 fun a => nx 23 ls (.ref a :: st) h) Q := G_unf rfl rfl
theorem g184_23 : G d 184 23 ls st h Q ↔ GN d 184 23 ls h (pR st fun a r => ck (arr h a 9) (nx 26 ls (.int (hI h a 4) :: r) h)) Q := G_unf rfl rfl
theorem g184_26 : G d 184 26 ls st h Q ↔ GN d 184 26 ls h (pA 2 st fun as r => pR r fun a r => ck (r.length ≤ 4 ∧ arr h a 9) (cll 160 (.ref a :: as) r)) Q := G_unf rfl rfl
theorem g184_29 : G d 184 29 ls st h Q ↔ GN d 184 29 ls h (ldR ls 0 fun a => nx 30 ls (.ref a :: st) h) Q := G_unf rfl rfl
theorem g184_30 : G d 184 30 ls st h Q ↔ GN d 184 30 ls h (pR st fun a r => ck (arr h a 9) (nx 33 ls (.int (hI h a 8) :: r) h)) Q := G_unf rfl rfl
theorem g184_33 : G d 184 33 ls st h Q ↔ GN d 184 33 ls h (pI st fun x r => br (¬ x = 0) (nx 40 ls r h) (nx 36 ls r h)) Q := G_unf rfl rfl
theorem g184_36 : G d 184 36 ls st h Q ↔ GN d 184 36 ls h (ldR ls 0 fun a => nx 37 ls (.ref a :: st) h) Q := G_unf rfl rfl
theorem g184_37 : G d 184 37 ls st h Q ↔ GN d 184 37 ls h (pA 0 st fun as r => pR r fun a r => ck (r.length ≤ 4 ∧ arr h a 9) (cll 164 (.ref a :: as) r)) Q := G_unf rfl rfl
theorem g184_40 : G d 184 40 ls st h Q ↔ GN d 184 40 ls h (pE st (rtn none)) Q := G_unf rfl rfl
theorem g185_0 : G d 185 0 ls st h Q ↔ GN d 185 0 ls h (ldR ls 0 fun a => nx 1 ls (.ref a :: st) h) Q := G_unf rfl rfl
theorem g185_1 : G d 185 1 ls st h Q ↔ GN d 185 1 ls h (pA 0 st fun as r => pR r fun a r => ck (r.length ≤ 4 ∧ arr h a 9) (cll 163 (.ref a :: as) r)) Q := G_unf rfl rfl
theorem g185_4 : G d 185 4 ls st h Q ↔ GN d 185 4 ls h (ldR ls 0 fun a => nx 5 ls (.ref a :: st) h) Q := G_unf rfl rfl
theorem g185_5 : G d 185 5 ls st h Q ↔ GN d 185 5 ls h (pR st fun a r => ck (arr h a 9) (nx 8 ls (.int (hI h a 8) :: r) h)) Q := G_unf rfl rfl
theorem g185_8 : G d 185 8 ls st h Q ↔ GN d 185 8 ls h (pI st fun x r => br (x ≤ 0) (nx 13 ls r h) (nx 11 ls r h)) Q := G_unf rfl rfl
theorem g185_11 : G d 185 11 ls st h Q ↔ GN d 185 11 ls h (nx 12 ls (.long (lN 0) :: st) h) Q := G_unf rfl rfl
theorem g185_12 : G d 185 12 ls st h Q ↔ GN d 185 12 ls h (pJe st fun x => rtn (some (.long x))) Q := G_unf rfl rfl
theorem g185_13 : G d 185 13 ls st h Q ↔ GN d 185 13 ls h (ldR ls 0 fun a => nx 14 ls (.ref a :: st) h) Q := G_unf rfl rfl
theorem g185_14 : G d 185 14 ls st h Q ↔ GN d 185 14 ls h (pR st fun a r => ck (arr h a 9) (nx 17 ls (.int (hI h a 3) :: r) h)) Q := G_unf rfl rfl
theorem g185_17 : G d 185 17 ls st h Q ↔ GN d 185 17 ls h (nx 18 ls (.int (nI 1) :: st) h) Q := G_unf rfl rfl
theorem g185_18 : G d 185 18 ls st h Q ↔ GN d 185 18 ls h (pII st fun x y r => br (¬ x = y) (nx 32 ls r h) (nx 21 ls r h)) Q := G_unf rfl rfl
theorem g185_21 : G d 185 21 ls st h Q ↔ GN d 185 21 ls h (ldR ls 0 fun a => nx 22 ls (.ref a :: st) h) Q := G_unf rfl rfl
theorem g185_22 : G d 185 22 ls st h Q ↔ GN d 185 22 ls h (ldR ls 0 fun a => nx 23 ls (.ref a :: st) h) Q := G_unf rfl rfl
theorem g185_23 : G d 185 23 ls st h Q ↔ GN d 185 23 ls h (pR st fun a r => ck (arr h a 9) (nx 26 ls (.long (hL h a 7) :: r) h)) Q := G_unf rfl rfl
theorem g185_26 : G d 185 26 ls st h Q ↔ GN d 185 26 ls h (pA 1 st fun as r => pR r fun a r => ck (r.length ≤ 4 ∧ arr h a 9) (cll 168 (.ref a :: as) r)) Q := G_unf rfl rfl
theorem g185_29 : G d 185 29 ls st h Q ↔ GN d 185 29 ls h (pI st fun x r => br (x = 0) (nx 41 ls r h) (nx 32 ls r h)) Q := G_unf rfl rfl
theorem g185_32 : G d 185 32 ls st h Q ↔ GN d 185 32 ls h (ldR ls 0 fun a => nx 33 ls (.ref a :: st) h) Q := G_unf rfl rfl
theorem g185_33 : G d 185 33 ls st h Q ↔ GN d 185 33 ls h (nx 34 ls (.int (nI 1) :: st) h) Q := G_unf rfl rfl
theorem g185_34 : G d 185 34 ls st h Q ↔ GN d 185 34 ls h (ldR ls 0 fun a => nx 35 ls (.ref a :: st) h) Q := G_unf rfl rfl
theorem g185_35 : G d 185 35 ls st h Q ↔ GN d 185 35 ls h (pR st fun a r => ck (arr h a 9) (nx 38 ls (.int (hI h a 4) :: r) h)) Q := G_unf rfl rfl
theorem g185_38 : G d 185 38 ls st h Q ↔ GN d 185 38 ls h (pA 2 st fun as r => pR r fun a r => ck (r.length ≤ 4 ∧ arr h a 9) (cll 160 (.ref a :: as) r)) Q := G_unf rfl rfl
theorem g185_41 : G d 185 41 ls st h Q ↔ GN d 185 41 ls h (nx 42 ls (.int (nI 0) :: st) h) Q := G_unf rfl rfl
theorem g185_42 : G d 185 42 ls st h Q ↔ GN d 185 42 ls h (pI st fun x r => ck (1 < ls.length) (nx 43 (st1 ls 1 (.int x)) r h)) Q := G_unf rfl rfl
theorem g185_43 : G d 185 43 ls st h Q ↔ GN d 185 43 ls h (ldI ls 1 fun x => nx 44 ls (.int x :: st) h) Q := G_unf rfl rfl
theorem g185_44 : G d 185 44 ls st h Q ↔ GN d 185 44 ls h (nx 45 ls (.int (nI 1) :: st) h) Q := G_unf rfl rfl
theorem g185_45 : G d 185 45 ls st h Q ↔ GN d 185 45 ls h (pII st fun x y r => br (y < x) (nx 83 ls r h) (nx 48 ls r h)) Q := G_unf rfl rfl
theorem g185_48 : G d 185 48 ls st h Q ↔ GN d 185 48 ls h (ldR ls 0 fun a => nx 49 ls (.ref a :: st) h) Q := G_unf rfl rfl
theorem g185_49 : G d 185 49 ls st h Q ↔ GN d 185 49 ls h (pR st fun a r => ck (arr h a 9) (nx 52 ls (.int (hI h a 8) :: r) h)) Q := G_unf rfl rfl
theorem g185_52 : G d 185 52 ls st h Q ↔ GN d 185 52 ls h (pI st fun x r => br (¬ x = 0) (nx 83 ls r h) (nx 55 ls r h)) Q := G_unf rfl rfl
theorem g185_55 : G d 185 55 ls st h Q ↔ GN d 185 55 ls h (ldR ls 0 fun a => nx 56 ls (.ref a :: st) h) Q := G_unf rfl rfl
theorem g185_56 : G d 185 56 ls st h Q ↔ GN d 185 56 ls h (ldI ls 1 fun x => nx 57 ls (.int x :: st) h) Q := G_unf rfl rfl
theorem g185_57 : G d 185 57 ls st h Q ↔ GN d 185 57 ls h (ldR ls 0 fun a => nx 58 ls (.ref a :: st) h) Q := G_unf rfl rfl
theorem g185_58 : G d 185 58 ls st h Q ↔ GN d 185 58 ls h (pR st fun a r => ck (arr h a 9) (nx 61 ls (.long (hL h a 7) :: r) h)) Q := G_unf rfl rfl
theorem g185_61 : G d 185 61 ls st h Q ↔ GN d 185 61 ls h (pA 2 st fun as r => pR r fun a r => ck (r.length ≤ 4 ∧ arr h a 9) (cll 171 (.ref a :: as) r)) Q := G_unf rfl rfl
theorem g185_64 : G d 185 64 ls st h Q ↔ GN d 185 64 ls h (nx 65 ls (.int (-1) :: st) h) Q := G_unf rfl rfl
theorem g185_65 : G d 185 65 ls st h Q ↔ GN d 185 65 ls h (pII st fun x y r => br (x = y) (nx 77 ls r h) (nx 68 ls r h)) Q := G_unf rfl rfl
theorem g185_68 : G d 185 68 ls st h Q ↔ GN d 185 68 ls h (ldR ls 0 fun a => nx 69 ls (.ref a :: st) h) Q := G_unf rfl rfl
theorem g185_69 : G d 185 69 ls st h Q ↔ GN d 185 69 ls h (nx 70 ls (.int (nI 2) :: st) h) Q := G_unf rfl rfl
theorem g185_70 : G d 185 70 ls st h Q ↔ GN d 185 70 ls h (ldR ls 0 fun a => nx 71 ls (.ref a :: st) h) Q := G_unf rfl rfl
theorem g185_71 : G d 185 71 ls st h Q ↔ GN d 185 71 ls h (pR st fun a r => ck (arr h a 9) (nx 74 ls (.int (hI h a 4) :: r) h)) Q := G_unf rfl rfl
theorem g185_74 : G d 185 74 ls st h Q ↔ GN d 185 74 ls h (pA 2 st fun as r => pR r fun a r => ck (r.length ≤ 4 ∧ arr h a 9) (cll 160 (.ref a :: as) r)) Q := G_unf rfl rfl
theorem g185_77 : G d 185 77 ls st h Q ↔ GN d 185 77 ls h (ldI ls 1 fun x => nx 80 (st1 ls 1 (.int (x + (nI 1)))) st h) Q := G_unf rfl rfl
theorem g185_80 : G d 185 80 ls st h Q ↔ GN d 185 80 ls h (nx 43 ls st h) Q := G_unf rfl rfl
theorem g185_83 : G d 185 83 ls st h Q ↔ GN d 185 83 ls h (ldR ls 0 fun a => nx 84 ls (.ref a :: st) h) Q := G_unf rfl rfl
theorem g185_84 : G d 185 84 ls st h Q ↔ GN d 185 84 ls h (pR st fun a r => ck (arr h a 9) (nx 87 ls (.long (hL h a 7) :: r) h)) Q := G_unf rfl rfl
theorem g185_87 : G d 185 87 ls st h Q ↔ GN d 185 87 ls h (pJ st fun x r => ck (2 < ls.length) (nx 88 (st2 ls 1 (.long x)) r h)) Q := G_unf rfl rfl
theorem g185_88 : G d 185 88 ls st h Q ↔ GN d 185 88 ls h (ldR ls 0 fun a => nx 89 ls (.ref a :: st) h) Q := G_unf rfl rfl
theorem g185_89 : G d 185 89 ls st h Q ↔ GN d 185 89 ls h (pR st fun a r => ck (arr h a 9) (nx 92 ls (.int (hI h a 8) :: r) h)) Q := G_unf rfl rfl
theorem g185_92 : G d 185 92 ls st h Q ↔ GN d 185 92 ls h (pI st fun x r => br (¬ x = 0) (nx 99 ls r h) (nx 95 ls r h)) Q := G_unf rfl rfl
theorem g185_95 : G d 185 95 ls st h Q ↔ GN d 185 95 ls h (ldR ls 0 fun a => nx 96 ls (.ref a :: st) h) Q := G_unf rfl rfl
theorem g185_96 : G d 185 96 ls st h Q ↔ GN d 185 96 ls h (pA 0 st fun as r => pR r fun a r => ck (r.length ≤ 4 ∧ arr h a 9) (cll 164 (.ref a :: as) r)) Q := G_unf rfl rfl
theorem g185_99 : G d 185 99 ls st h Q ↔ GN d 185 99 ls h (ldJ ls 1 fun x => nx 100 ls (.long x :: st) h) Q := G_unf rfl rfl
theorem g185_100 : G d 185 100 ls st h Q ↔ GN d 185 100 ls h (pJe st fun x => rtn (some (.long x))) Q := G_unf rfl rfl
theorem g186_0 : G d 186 0 ls st h Q ↔ GN d 186 0 ls h (ldR ls 0 fun a => nx 1 ls (.ref a :: st) h) Q := G_unf rfl rfl
theorem g186_1 : G d 186 1 ls st h Q ↔ GN d 186 1 ls h (pA 0 st fun as r => pR r fun a r => ck (r.length ≤ 4 ∧ arr h a 9) (cll 163 (.ref a :: as) r)) Q := G_unf rfl rfl
theorem g186_4 : G d 186 4 ls st h Q ↔ GN d 186 4 ls h (ldR ls 0 fun a => nx 5 ls (.ref a :: st) h) Q := G_unf rfl rfl
theorem g186_5 : G d 186 5 ls st h Q ↔ GN d 186 5 ls h (pR st fun a r => ck (arr h a 9) (nx 8 ls (.int (hI h a 8) :: r) h)) Q := G_unf rfl rfl
theorem g186_8 : G d 186 8 ls st h Q ↔ GN d 186 8 ls h (pI st fun x r => br (x ≤ 0) (nx 13 ls r h) (nx 11 ls r h)) Q := G_unf rfl rfl
theorem g186_11 : G d 186 11 ls st h Q ↔ GN d 186 11 ls h (nx 12 ls (.int (nI 0) :: st) h) Q := G_unf rfl rfl
theorem g186_12 : G d 186 12 ls st h Q ↔ GN d 186 12 ls h (pIe st fun x => rtn (some (.int x))) Q := G_unf rfl rfl
theorem g186_13 : G d 186 13 ls st h Q ↔ GN d 186 13 ls h (ldR ls 0 fun a => nx 14 ls (.ref a :: st) h) Q := G_unf rfl rfl
theorem g186_14 : G d 186 14 ls st h Q ↔ GN d 186 14 ls h (pR st fun a r => ck (arr h a 9) (nx 17 ls (.int (hI h a 3) :: r) h)) Q := G_unf rfl rfl
theorem g186_17 : G d 186 17 ls st h Q ↔ GN d 186 17 ls h (nx 18 ls (.int (nI 1) :: st) h) Q := G_unf rfl rfl
theorem g186_18 : G d 186 18 ls st h Q ↔ GN d 186 18 ls h (pII st fun x y r => br (¬ x = y) (nx 32 ls r h) (nx 21 ls r h)) Q := G_unf rfl rfl
theorem g186_21 : G d 186 21 ls st h Q ↔ GN d 186 21 ls h (ldR ls 0 fun a => nx 22 ls (.ref a :: st) h) Q := G_unf rfl rfl
theorem g186_22 : G d 186 22 ls st h Q ↔ GN d 186 22 ls h (ldR ls 0 fun a => nx 23 ls (.ref a :: st) h) Q := G_unf rfl rfl
theorem g186_23 : G d 186 23 ls st h Q ↔ GN d 186 23 ls h (pR st fun a r => ck (arr h a 9) (nx 26 ls (.long (hL h a 7) :: r) h)) Q := G_unf rfl rfl
theorem g186_26 : G d 186 26 ls st h Q ↔ GN d 186 26 ls h (pA 1 st fun as r => pR r fun a r => ck (r.length ≤ 4 ∧ arr h a 9) (cll 168 (.ref a :: as) r)) Q := G_unf rfl rfl
theorem g186_29 : G d 186 29 ls st h Q ↔ GN d 186 29 ls h (pI st fun x r => br (x = 0) (nx 41 ls r h) (nx 32 ls r h)) Q := G_unf rfl rfl
theorem g186_32 : G d 186 32 ls st h Q ↔ GN d 186 32 ls h (ldR ls 0 fun a => nx 33 ls (.ref a :: st) h) Q := G_unf rfl rfl
theorem g186_33 : G d 186 33 ls st h Q ↔ GN d 186 33 ls h (nx 34 ls (.int (nI 1) :: st) h) Q := G_unf rfl rfl
theorem g186_34 : G d 186 34 ls st h Q ↔ GN d 186 34 ls h (ldR ls 0 fun a => nx 35 ls (.ref a :: st) h) Q := G_unf rfl rfl
theorem g186_35 : G d 186 35 ls st h Q ↔ GN d 186 35 ls h (pR st fun a r => ck (arr h a 9) (nx 38 ls (.int (hI h a 4) :: r) h)) Q := G_unf rfl rfl
theorem g186_38 : G d 186 38 ls st h Q ↔ GN d 186 38 ls h (pA 2 st fun as r => pR r fun a r => ck (r.length ≤ 4 ∧ arr h a 9) (cll 160 (.ref a :: as) r)) Q := G_unf rfl rfl
theorem g186_41 : G d 186 41 ls st h Q ↔ GN d 186 41 ls h (ldR ls 0 fun a => nx 42 ls (.ref a :: st) h) Q := G_unf rfl rfl
theorem g186_42 : G d 186 42 ls st h Q ↔ GN d 186 42 ls h (pR st fun a r => ck (arr h a 9) (nx 45 ls (.int (hI h a 8) :: r) h)) Q := G_unf rfl rfl
theorem g186_45 : G d 186 45 ls st h Q ↔ GN d 186 45 ls h (pI st fun x r => br (x ≤ 0) (nx 52 ls r h) (nx 48 ls r h)) Q := G_unf rfl rfl
theorem g186_48 : G d 186 48 ls st h Q ↔ GN d 186 48 ls h (nx 49 ls (.int (nI 0) :: st) h) Q := G_unf rfl rfl
theorem g186_49 : G d 186 49 ls st h Q ↔ GN d 186 49 ls h (nx 61 ls st h) Q := G_unf rfl rfl
theorem g186_52 : G d 186 52 ls st h Q ↔ GN d 186 52 ls h (ldR ls 0 fun a => nx 53 ls (.ref a :: st) h) Q := G_unf rfl rfl
theorem g186_53 : G d 186 53 ls st h Q ↔ GN d 186 53 ls h (ldI ls 1 fun x => nx 54 ls (.int x :: st) h) Q := G_unf rfl rfl
theorem g186_54 : G d 186 54 ls st h Q ↔ GN d 186 54 ls h (ldR ls 0 fun a => nx 55 ls (.ref a :: st) h) Q := G_unf rfl rfl
theorem g186_55 : G d 186 55 ls st h Q ↔ GN d 186 55 ls h (pR st fun a r => ck (arr h a 9) (nx 58 ls (.long (hL h a 7) :: r) h)) Q := G_unf rfl rfl
theorem g186_58 : G d 186 58 ls st h Q ↔ GN d 186 58 ls h (pA 2 st fun as r => pR r fun a r => ck (r.length ≤ 4 ∧ arr h a 9) (cll 171 (.ref a :: as) r)) Q := G_unf rfl rfl
theorem g186_61 : G d 186 61 ls st h Q ↔ GN d 186 61 ls h (pI st fun x r => ck (2 < ls.length) (nx 62 (st1 ls 2 (.int x)) r h)) Q := G_unf rfl rfl
theorem g186_62 : G d 186 62 ls st h Q ↔ GN d 186 62 ls h (ldR ls 0 fun a => nx 63 ls (.ref a :: st) h) Q := G_unf rfl rfl
theorem g186_63 : G d 186 63 ls st h Q ↔ GN d 186 63 ls h (pR st fun a r => ck (arr h a 9) (nx 66 ls (.int (hI h a 8) :: r) h)) Q := G_unf rfl rfl
theorem g186_66 : G d 186 66 ls st h Q ↔ GN d 186 66 ls h (pI st fun x r => br (¬ x = 0) (nx 83 ls r h) (nx 69 ls r h)) Q := G_unf rfl rfl
theorem g186_69 : G d 186 69 ls st h Q ↔ GN d 186 69 ls h (ldI ls 2 fun x => nx 70 ls (.int x :: st) h) Q := G_unf rfl rfl
theorem g186_70 : G d 186 70 ls st h Q ↔ GN d 186 70 ls h (nx 71 ls (.int (-1) :: st) h) Q := G_unf rfl rfl
theorem g186_71 : G d 186 71 ls st h Q ↔ GN d 186 71 ls h (pII st fun x y r => br (¬ x = y) (nx 83 ls r h) (nx 74 ls r h)) Q := G_unf rfl rfl
theorem g186_74 : G d 186 74 ls st h Q ↔ GN d 186 74 ls h (ldR ls 0 fun a => nx 75 ls (.ref a :: st) h) Q := G_unf rfl rfl
theorem g186_75 : G d 186 75 ls st h Q ↔ GN d 186 75 ls h (nx 76 ls (.int (nI 3) :: st) h) Q := G_unf rfl rfl
theorem g186_76 : G d 186 76 ls st h Q ↔ GN d 186 76 ls h (ldR ls 0 fun a => nx 77 ls (.ref a :: st) h) Q := G_unf rfl rfl
theorem g186_77 : G d 186 77 ls st h Q ↔ GN d 186 77 ls h (pR st fun a r => ck (arr h a 9) (nx 80 ls (.int (hI h a 4) :: r) h)) Q := G_unf rfl rfl
theorem g186_80 : G d 186 80 ls st h Q ↔ GN d 186 80 ls h (pA 2 st fun as r => pR r fun a r => ck (r.length ≤ 4 ∧ arr h a 9) (cll 160 (.ref a :: as) r)) Q := G_unf rfl rfl
theorem g186_83 : G d 186 83 ls st h Q ↔ GN d 186 83 ls h (ldR ls 0 fun a => nx 84 ls (.ref a :: st) h) Q := G_unf rfl rfl
theorem g186_84 : G d 186 84 ls st h Q ↔ GN d 186 84 ls h (pR st fun a r => ck (arr h a 9) (nx 87 ls (.int (hI h a 8) :: r) h)) Q := G_unf rfl rfl
theorem g186_87 : G d 186 87 ls st h Q ↔ GN d 186 87 ls h (pI st fun x r => br (x ≤ 0) (nx 94 ls r h) (nx 90 ls r h)) Q := G_unf rfl rfl
theorem g186_90 : G d 186 90 ls st h Q ↔ GN d 186 90 ls h (nx 91 ls (.int (nI 0) :: st) h) Q := G_unf rfl rfl
theorem g186_91 : G d 186 91 ls st h Q ↔ GN d 186 91 ls h (nx 95 ls st h) Q := G_unf rfl rfl
theorem g186_94 : G d 186 94 ls st h Q ↔ GN d 186 94 ls h (ldI ls 2 fun x => nx 95 ls (.int x :: st) h) Q := G_unf rfl rfl
theorem g186_95 : G d 186 95 ls st h Q ↔ GN d 186 95 ls h (pIe st fun x => rtn (some (.int x))) Q := G_unf rfl rfl
theorem g187_0 : G d 187 0 ls st h Q ↔ GN d 187 0 ls h (ldR ls 0 fun a => nx 1 ls (.ref a :: st) h) Q := G_unf rfl rfl
theorem g187_1 : G d 187 1 ls st h Q ↔ GN d 187 1 ls h (ldI ls 1 fun x => nx 2 ls (.int x :: st) h) Q := G_unf rfl rfl
theorem g187_2 : G d 187 2 ls st h Q ↔ GN d 187 2 ls h (pA 1 st fun as r => pR r fun a r => ck (r.length ≤ 4 ∧ arr h a 9) (cll 186 (.ref a :: as) r)) Q := G_unf rfl rfl
theorem g187_5 : G d 187 5 ls st h Q ↔ GN d 187 5 ls h (pI st fun x r => ck (2 < ls.length) (nx 6 (st1 ls 2 (.int x)) r h)) Q := G_unf rfl rfl
theorem g187_6 : G d 187 6 ls st h Q ↔ GN d 187 6 ls h (ldR ls 0 fun a => nx 7 ls (.ref a :: st) h) Q := G_unf rfl rfl
theorem g187_7 : G d 187 7 ls st h Q ↔ GN d 187 7 ls h (pR st fun a r => ck (arr h a 9) (nx 10 ls (.int (hI h a 8) :: r) h)) Q := G_unf rfl rfl
theorem g187_10 : G d 187 10 ls st h Q ↔ GN d 187 10 ls h (pI st fun x r => br (¬ x = 0) (nx 17 ls r h) (nx 13 ls r h)) Q := G_unf rfl rfl
theorem g187_13 : G d 187 13 ls st h Q ↔ GN d 187 13 ls h (ldR ls 0 fun a => nx 14 ls (.ref a :: st) h) Q := G_unf rfl rfl
theorem g187_14 : G d 187 14 ls st h Q ↔ GN d 187 14 ls h (pA 0 st fun as r => pR r fun a r => ck (r.length ≤ 4 ∧ arr h a 9) (cll 164 (.ref a :: as) r)) Q := G_unf rfl rfl
theorem g187_17 : G d 187 17 ls st h Q ↔ GN d 187 17 ls h (ldR ls 0 fun a => nx 18 ls (.ref a :: st) h) Q := G_unf rfl rfl
theorem g187_18 : G d 187 18 ls st h Q ↔ GN d 187 18 ls h (pR st fun a r => ck (arr h a 9) (nx 21 ls (.int (hI h a 8) :: r) h)) Q := G_unf rfl rfl
theorem g187_21 : G d 187 21 ls st h Q ↔ GN d 187 21 ls h (pI st fun x r => br (x ≤ 0) (nx 28 ls r h) (nx 24 ls r h)) Q := G_unf rfl rfl
theorem g187_24 : G d 187 24 ls st h Q ↔ GN d 187 24 ls h (nx 25 ls (.int (nI 0) :: st) h) Q := G_unf rfl rfl
theorem g187_25 : G d 187 25 ls st h Q ↔ GN d 187 25 ls h (nx 29 ls st h) Q := G_unf rfl rfl
theorem g187_28 : G d 187 28 ls st h Q ↔ GN d 187 28 ls h (ldI ls 2 fun x => nx 29 ls (.int x :: st) h) Q := G_unf rfl rfl
theorem g187_29 : G d 187 29 ls st h Q ↔ GN d 187 29 ls h (pIe st fun x => rtn (some (.int x))) Q := G_unf rfl rfl
theorem g188_0 : G d 188 0 ls st h Q ↔ GN d 188 0 ls h (ldR ls 0 fun a => nx 1 ls (.ref a :: st) h) Q := G_unf rfl rfl
theorem g188_1 : G d 188 1 ls st h Q ↔ GN d 188 1 ls h (ldR ls 0 fun a => nx 2 ls (.ref a :: st) h) Q := G_unf rfl rfl
theorem g188_2 : G d 188 2 ls st h Q ↔ GN d 188 2 ls h (pR st fun a r => ck (arr h a 9) (nx 5 ls (rv (hR h a 14) :: r) h)) Q := G_unf rfl rfl
theorem g188_5 : G d 188 5 ls st h Q ↔ GN d 188 5 ls h (ldR ls 0 fun a => nx 6 ls (.ref a :: st) h) Q := G_unf rfl rfl
theorem g188_6 : G d 188 6 ls st h Q ↔ GN d 188 6 ls h (pR st fun a r => ck (arr h a 9) (nx 9 ls (.int (hI h a 39) :: r) h)) Q := G_unf rfl rfl
theorem g188_9 : G d 188 9 ls st h Q ↔ GN d 188 9 ls h (pRI st fun a i r => br (a = 1000003) (ck (inb i (hS h).1) (nx 10 ls (.int ((hS h).2 i.toNatClampNeg) :: r) h)) (ck (arr h a 10 ∧ inb i (hLn h a)) (nx 10 ls (.int (hI h a i.toNatClampNeg) :: r) h))) Q := G_unf rfl rfl
theorem g188_10 : G d 188 10 ls st h Q ↔ GN d 188 10 ls h (nx 12 ls (.int (nI 12) :: st) h) Q := G_unf rfl rfl
theorem g188_12 : G d 188 12 ls st h Q ↔ GN d 188 12 ls h (pII st fun x y r => br (¬ x = y) (nx 19 ls r h) (nx 15 ls r h)) Q := G_unf rfl rfl
theorem g188_15 : G d 188 15 ls st h Q ↔ GN d 188 15 ls h (nx 16 ls (.int (nI 1) :: st) h) Q := G_unf rfl rfl
theorem g188_16 : G d 188 16 ls st h Q ↔ GN d 188 16 ls h (nx 20 ls st h) Q := G_unf rfl rfl
theorem g188_19 : G d 188 19 ls st h Q ↔ GN d 188 19 ls h (nx 20 ls (.int (nI 0) :: st) h) Q := G_unf rfl rfl
theorem g188_20 : G d 188 20 ls st h Q ↔ GN d 188 20 ls h (pA 1 st fun as r => pR r fun a r => ck (r.length ≤ 4 ∧ arr h a 9) (cll 183 (.ref a :: as) r)) Q := G_unf rfl rfl
theorem g188_23 : G d 188 23 ls st h Q ↔ GN d 188 23 ls h (pI st fun x r => br (¬ x = 0) (nx 27 ls r h) (nx 26 ls r h)) Q := G_unf rfl rfl
theorem g188_26 : G d 188 26 ls st h Q ↔ GN d 188 26 ls h (pE st (rtn none)) Q := G_unf rfl rfl
theorem g188_27 : G d 188 27 ls st h Q ↔ GN d 188 27 ls h (nx 29 ls (.int (nI 12) :: st) h) Q := G_unf rfl rfl
theorem g188_29 : G d 188 29 ls st h Q ↔ GN d 188 29 ls h (ldR ls 0 fun a => nx 30 ls (.ref a :: st) h) Q := G_unf rfl rfl
theorem g188_30 : G d 188 30 ls st h Q ↔ GN d 188 30 ls h (pR st fun a r => ck (arr h a 9) (nx 33 ls (.int (hI h a 39) :: r) h)) Q := G_unf rfl rfl
theorem g188_33 : G d 188 33 ls st h Q ↔ GN d 188 33 ls h (pII st fun x y r => nx 34 ls (.int (x * y) :: r) h) Q := G_unf rfl rfl
theorem g188_34 : G d 188 34 ls st h Q ↔ GN d 188 34 ls h (ldR ls 0 fun a => nx 35 ls (.ref a :: st) h) Q := G_unf rfl rfl
theorem g188_35 : G d 188 35 ls st h Q ↔ GN d 188 35 ls h (pR st fun a r => ck (arr h a 9) (nx 38 ls (rv (hR h a 14) :: r) h)) Q := G_unf rfl rfl
theorem g188_38 : G d 188 38 ls st h Q ↔ GN d 188 38 ls h (ldR ls 0 fun a => nx 39 ls (.ref a :: st) h) Q := G_unf rfl rfl
theorem g188_39 : G d 188 39 ls st h Q ↔ GN d 188 39 ls h (pR st fun a r => ck (arr h a 9) (nx 42 ls (.int (hI h a 39) :: r) h)) Q := G_unf rfl rfl
theorem g188_42 : G d 188 42 ls st h Q ↔ GN d 188 42 ls h (pRI st fun a i r => br (a = 1000003) (ck (inb i (hS h).1) (nx 43 ls (.int ((hS h).2 i.toNatClampNeg) :: r) h)) (ck (arr h a 10 ∧ inb i (hLn h a)) (nx 43 ls (.int (hI h a i.toNatClampNeg) :: r) h))) Q := G_unf rfl rfl
theorem g188_43 : G d 188 43 ls st h Q ↔ GN d 188 43 ls h (pII st fun x y r => nx 44 ls (.int (x + y) :: r) h) Q := G_unf rfl rfl
theorem g188_44 : G d 188 44 ls st h Q ↔ GN d 188 44 ls h (pI st fun x r => ck (1 < ls.length) (nx 45 (st1 ls 1 (.int x)) r h)) Q := G_unf rfl rfl
theorem g188_45 : G d 188 45 ls st h Q ↔ GN d 188 45 ls h (ldR ls 0 fun a => nx 46 ls (.ref a :: st) h) Q := G_unf rfl rfl
theorem g188_46 : G d 188 46 ls st h Q ↔ GN d 188 46 ls h (pR st fun a r => ck (arr h a 9) (nx 49 ls (rv (hR h a 36) :: r) h)) Q := G_unf rfl rfl
theorem g188_49 : G d 188 49 ls st h Q ↔ GN d 188 49 ls h (ldI ls 1 fun x => nx 50 ls (.int x :: st) h) Q := G_unf rfl rfl
theorem g188_50 : G d 188 50 ls st h Q ↔ GN d 188 50 ls h (ldR ls 0 fun a => nx 51 ls (.ref a :: st) h) Q := G_unf rfl rfl
theorem g188_51 : G d 188 51 ls st h Q ↔ GN d 188 51 ls h (pA 0 st fun as r => pR r fun a r => ck (r.length ≤ 4 ∧ arr h a 9) (cll 185 (.ref a :: as) r)) Q := G_unf rfl rfl
theorem g188_54 : G d 188 54 ls st h Q ↔ GN d 188 54 ls h (pRIJ st fun a i x r => ck (arr h a 13 ∧ inb i (hLn h a)) (nx 55 ls r (sL h a i.toNatClampNeg x))) Q := G_unf rfl rfl
theorem g188_55 : G d 188 55 ls st h Q ↔ GN d 188 55 ls h (ldR ls 0 fun a => nx 56 ls (.ref a :: st) h) Q := G_unf rfl rfl
theorem g188_56 : G d 188 56 ls st h Q ↔ GN d 188 56 ls h (nx 59 ls (.long (lN 6578553) :: st) h) Q := G_unf rfl rfl
theorem g188_59 : G d 188 59 ls st h Q ↔ GN d 188 59 ls h (pA 1 st fun as r => pR r fun a r => ck (r.length ≤ 4 ∧ arr h a 9) (cll 184 (.ref a :: as) r)) Q := G_unf rfl rfl
theorem g188_62 : G d 188 62 ls st h Q ↔ GN d 188 62 ls h (ldR ls 0 fun a => nx 63 ls (.ref a :: st) h) Q := G_unf rfl rfl
theorem g188_63 : G d 188 63 ls st h Q ↔ GN d 188 63 ls h (pR st fun a r => ck (arr h a 9) (nx 66 ls (rv (hR h a 15) :: r) h)) Q := G_unf rfl rfl
theorem g188_66 : G d 188 66 ls st h Q ↔ GN d 188 66 ls h (ldI ls 1 fun x => nx 67 ls (.int x :: st) h) Q := G_unf rfl rfl
theorem g188_67 : G d 188 67 ls st h Q ↔ GN d 188 67 ls h (ldR ls 0 fun a => nx 68 ls (.ref a :: st) h) Q := G_unf rfl rfl
theorem g188_68 : G d 188 68 ls st h Q ↔ GN d 188 68 ls h (nx 69 ls (.int (nI 0) :: st) h) Q := G_unf rfl rfl
theorem g188_69 : G d 188 69 ls st h Q ↔ GN d 188 69 ls h (nx 72 ls (.int (nI 999) :: st) h) Q := G_unf rfl rfl
theorem g188_72 : G d 188 72 ls st h Q ↔ GN d 188 72 ls h (pA 2 st fun as r => pR r fun a r => ck (r.length ≤ 4 ∧ arr h a 9) (cll 172 (.ref a :: as) r)) Q := G_unf rfl rfl
theorem g188_75 : G d 188 75 ls st h Q ↔ GN d 188 75 ls h (pRII st fun a i x r => ck (arr h a 10 ∧ inb i (hLn h a)) (nx 76 ls r (sI h a i.toNatClampNeg x))) Q := G_unf rfl rfl
theorem g188_76 : G d 188 76 ls st h Q ↔ GN d 188 76 ls h (ldR ls 0 fun a => nx 77 ls (.ref a :: st) h) Q := G_unf rfl rfl
theorem g188_77 : G d 188 77 ls st h Q ↔ GN d 188 77 ls h (nx 80 ls (.long (lN 512970880104) :: st) h) Q := G_unf rfl rfl
theorem g188_80 : G d 188 80 ls st h Q ↔ GN d 188 80 ls h (pA 1 st fun as r => pR r fun a r => ck (r.length ≤ 4 ∧ arr h a 9) (cll 184 (.ref a :: as) r)) Q := G_unf rfl rfl
theorem g188_83 : G d 188 83 ls st h Q ↔ GN d 188 83 ls h (ldR ls 0 fun a => nx 84 ls (.ref a :: st) h) Q := G_unf rfl rfl
theorem g188_84 : G d 188 84 ls st h Q ↔ GN d 188 84 ls h (pR st fun a r => ck (arr h a 9) (nx 87 ls (rv (hR h a 16) :: r) h)) Q := G_unf rfl rfl
theorem g188_87 : G d 188 87 ls st h Q ↔ GN d 188 87 ls h (ldI ls 1 fun x => nx 88 ls (.int x :: st) h) Q := G_unf rfl rfl
theorem g188_88 : G d 188 88 ls st h Q ↔ GN d 188 88 ls h (ldR ls 0 fun a => nx 89 ls (.ref a :: st) h) Q := G_unf rfl rfl
theorem g188_89 : G d 188 89 ls st h Q ↔ GN d 188 89 ls h (nx 90 ls (.int (nI 0) :: st) h) Q := G_unf rfl rfl
theorem g188_90 : G d 188 90 ls st h Q ↔ GN d 188 90 ls h (nx 92 ls (.int (nI 99) :: st) h) Q := G_unf rfl rfl
theorem g188_92 : G d 188 92 ls st h Q ↔ GN d 188 92 ls h (pA 2 st fun as r => pR r fun a r => ck (r.length ≤ 4 ∧ arr h a 9) (cll 172 (.ref a :: as) r)) Q := G_unf rfl rfl
theorem g188_95 : G d 188 95 ls st h Q ↔ GN d 188 95 ls h (pRII st fun a i x r => ck (arr h a 10 ∧ inb i (hLn h a)) (nx 96 ls r (sI h a i.toNatClampNeg x))) Q := G_unf rfl rfl
theorem g188_96 : G d 188 96 ls st h Q ↔ GN d 188 96 ls h (ldR ls 0 fun a => nx 97 ls (.ref a :: st) h) Q := G_unf rfl rfl
theorem g188_97 : G d 188 97 ls st h Q ↔ GN d 188 97 ls h (pR st fun a r => ck (arr h a 9) (nx 100 ls (.int (hI h a 8) :: r) h)) Q := G_unf rfl rfl
theorem g188_100 : G d 188 100 ls st h Q ↔ GN d 188 100 ls h (pI st fun x r => br (¬ x = 0) (nx 116 ls r h) (nx 103 ls r h)) Q := G_unf rfl rfl
theorem g188_103 : G d 188 103 ls st h Q ↔ GN d 188 103 ls h (ldR ls 0 fun a => nx 104 ls (.ref a :: st) h) Q := G_unf rfl rfl
theorem g188_104 : G d 188 104 ls st h Q ↔ GN d 188 104 ls h (pR st fun a r => ck (arr h a 9) (nx 107 ls (rv (hR h a 14) :: r) h)) Q := G_unf rfl rfl
theorem g188_107 : G d 188 107 ls st h Q ↔ GN d 188 107 ls h (ldR ls 0 fun a => nx 108 ls (.ref a :: st) h) Q := G_unf rfl rfl
theorem g188_108 : G d 188 108 ls st h Q ↔ GN d 188 108 ls h (pR st fun a r => ck (arr h a 9) (nx 111 ls (.int (hI h a 39) :: r) h)) Q := G_unf rfl rfl
theorem g188_111 : G d 188 111 ls st h Q ↔ GN d 188 111 ls h (p11 st fun v w r => nx 112 ls (v :: w :: v :: w :: r) h) Q := G_unf rfl rfl
theorem g188_112 : G d 188 112 ls st h Q ↔ GN d 188 112 ls h (pRI st fun a i r => br (a = 1000003) (ck (inb i (hS h).1) (nx 113 ls (.int ((hS h).2 i.toNatClampNeg) :: r) h)) (ck (arr h a 10 ∧ inb i (hLn h a)) (nx 113 ls (.int (hI h a i.toNatClampNeg) :: r) h))) Q := G_unf rfl rfl
theorem g188_113 : G d 188 113 ls st h Q ↔ GN d 188 113 ls h (nx 114 ls (.int (nI 1) :: st) h) Q := G_unf rfl rfl
theorem g188_114 : G d 188 114 ls st h Q ↔ GN d 188 114 ls h (pII st fun x y r => nx 115 ls (.int (x + y) :: r) h) Q := G_unf rfl rfl
theorem g188_115 : G d 188 115 ls st h Q ↔ GN d 188 115 ls h (pRII st fun a i x r => ck (arr h a 10 ∧ inb i (hLn h a)) (nx 116 ls r (sI h a i.toNatClampNeg x))) Q := G_unf rfl rfl
theorem g188_116 : G d 188 116 ls st h Q ↔ GN d 188 116 ls h (pE st (rtn none)) Q := G_unf rfl rfl
theorem g189_0 : G d 189 0 ls st h Q ↔ GN d 189 0 ls h (ldR ls 0 fun a => nx 1 ls (.ref a :: st) h) Q := G_unf rfl rfl
theorem g189_1 : G d 189 1 ls st h Q ↔ GN d 189 1 ls h (ldR ls 0 fun a => nx 2 ls (.ref a :: st) h) Q := G_unf rfl rfl
theorem g189_2 : G d 189 2 ls st h Q ↔ GN d 189 2 ls h (pR st fun a r => ck (arr h a 9) (nx 5 ls (rv (hR h a 17) :: r) h)) Q := G_unf rfl rfl
theorem g189_5 : G d 189 5 ls st h Q ↔ GN d 189 5 ls h (ldR ls 0 fun a => nx 6 ls (.ref a :: st) h) Q := G_unf rfl rfl
theorem g189_6 : G d 189 6 ls st h Q ↔ GN d 189 6 ls h (pR st fun a r => ck (arr h a 9) (nx 9 ls (.int (hI h a 39) :: r) h)) Q := G_unf rfl rfl
theorem g189_9 : G d 189 9 ls st h Q ↔ GN d 189 9 ls h (pRI st fun a i r => br (a = 1000003) (ck (inb i (hS h).1) (nx 10 ls (.int ((hS h).2 i.toNatClampNeg) :: r) h)) (ck (arr h a 10 ∧ inb i (hLn h a)) (nx 10 ls (.int (hI h a i.toNatClampNeg) :: r) h))) Q := G_unf rfl rfl
theorem g189_10 : G d 189 10 ls st h Q ↔ GN d 189 10 ls h (nx 12 ls (.int (nI 16) :: st) h) Q := G_unf rfl rfl
theorem g189_12 : G d 189 12 ls st h Q ↔ GN d 189 12 ls h (pII st fun x y r => br (¬ x = y) (nx 19 ls r h) (nx 15 ls r h)) Q := G_unf rfl rfl
theorem g189_15 : G d 189 15 ls st h Q ↔ GN d 189 15 ls h (nx 16 ls (.int (nI 1) :: st) h) Q := G_unf rfl rfl
theorem g189_16 : G d 189 16 ls st h Q ↔ GN d 189 16 ls h (nx 20 ls st h) Q := G_unf rfl rfl
theorem g189_19 : G d 189 19 ls st h Q ↔ GN d 189 19 ls h (nx 20 ls (.int (nI 0) :: st) h) Q := G_unf rfl rfl
theorem g189_20 : G d 189 20 ls st h Q ↔ GN d 189 20 ls h (pA 1 st fun as r => pR r fun a r => ck (r.length ≤ 4 ∧ arr h a 9) (cll 183 (.ref a :: as) r)) Q := G_unf rfl rfl
theorem g189_23 : G d 189 23 ls st h Q ↔ GN d 189 23 ls h (pI st fun x r => br (¬ x = 0) (nx 27 ls r h) (nx 26 ls r h)) Q := G_unf rfl rfl
theorem g189_26 : G d 189 26 ls st h Q ↔ GN d 189 26 ls h (pE st (rtn none)) Q := G_unf rfl rfl
theorem g189_27 : G d 189 27 ls st h Q ↔ GN d 189 27 ls h (nx 29 ls (.int (nI 16) :: st) h) Q := G_unf rfl rfl
theorem g189_29 : G d 189 29 ls st h Q ↔ GN d 189 29 ls h (ldR ls 0 fun a => nx 30 ls (.ref a :: st) h) Q := G_unf rfl rfl
theorem g189_30 : G d 189 30 ls st h Q ↔ GN d 189 30 ls h (pR st fun a r => ck (arr h a 9) (nx 33 ls (.int (hI h a 39) :: r) h)) Q := G_unf rfl rfl
theorem g189_33 : G d 189 33 ls st h Q ↔ GN d 189 33 ls h (pII st fun x y r => nx 34 ls (.int (x * y) :: r) h) Q := G_unf rfl rfl
theorem g189_34 : G d 189 34 ls st h Q ↔ GN d 189 34 ls h (ldR ls 0 fun a => nx 35 ls (.ref a :: st) h) Q := G_unf rfl rfl
theorem g189_35 : G d 189 35 ls st h Q ↔ GN d 189 35 ls h (pR st fun a r => ck (arr h a 9) (nx 38 ls (rv (hR h a 17) :: r) h)) Q := G_unf rfl rfl
theorem g189_38 : G d 189 38 ls st h Q ↔ GN d 189 38 ls h (ldR ls 0 fun a => nx 39 ls (.ref a :: st) h) Q := G_unf rfl rfl
theorem g189_39 : G d 189 39 ls st h Q ↔ GN d 189 39 ls h (pR st fun a r => ck (arr h a 9) (nx 42 ls (.int (hI h a 39) :: r) h)) Q := G_unf rfl rfl
theorem g189_42 : G d 189 42 ls st h Q ↔ GN d 189 42 ls h (pRI st fun a i r => br (a = 1000003) (ck (inb i (hS h).1) (nx 43 ls (.int ((hS h).2 i.toNatClampNeg) :: r) h)) (ck (arr h a 10 ∧ inb i (hLn h a)) (nx 43 ls (.int (hI h a i.toNatClampNeg) :: r) h))) Q := G_unf rfl rfl
theorem g189_43 : G d 189 43 ls st h Q ↔ GN d 189 43 ls h (pII st fun x y r => nx 44 ls (.int (x + y) :: r) h) Q := G_unf rfl rfl
theorem g189_44 : G d 189 44 ls st h Q ↔ GN d 189 44 ls h (pI st fun x r => ck (1 < ls.length) (nx 45 (st1 ls 1 (.int x)) r h)) Q := G_unf rfl rfl
theorem g189_45 : G d 189 45 ls st h Q ↔ GN d 189 45 ls h (ldR ls 0 fun a => nx 46 ls (.ref a :: st) h) Q := G_unf rfl rfl
theorem g189_46 : G d 189 46 ls st h Q ↔ GN d 189 46 ls h (pR st fun a r => ck (arr h a 9) (nx 49 ls (rv (hR h a 18) :: r) h)) Q := G_unf rfl rfl
theorem g189_49 : G d 189 49 ls st h Q ↔ GN d 189 49 ls h (ldI ls 1 fun x => nx 50 ls (.int x :: st) h) Q := G_unf rfl rfl
theorem g189_50 : G d 189 50 ls st h Q ↔ GN d 189 50 ls h (ldR ls 0 fun a => nx 51 ls (.ref a :: st) h) Q := G_unf rfl rfl
theorem g189_51 : G d 189 51 ls st h Q ↔ GN d 189 51 ls h (nx 52 ls (.int (nI 0) :: st) h) Q := G_unf rfl rfl
theorem g189_52 : G d 189 52 ls st h Q ↔ GN d 189 52 ls h (pA 1 st fun as r => pR r fun a r => ck (r.length ≤ 4 ∧ arr h a 9) (cll 187 (.ref a :: as) r)) Q := G_unf rfl rfl
theorem g189_55 : G d 189 55 ls st h Q ↔ GN d 189 55 ls h (pRII st fun a i x r => ck (arr h a 10 ∧ inb i (hLn h a)) (nx 56 ls r (sI h a i.toNatClampNeg x))) Q := G_unf rfl rfl
theorem g189_56 : G d 189 56 ls st h Q ↔ GN d 189 56 ls h (ldR ls 0 fun a => nx 57 ls (.ref a :: st) h) Q := G_unf rfl rfl
theorem g189_57 : G d 189 57 ls st h Q ↔ GN d 189 57 ls h (nx 60 ls (.long (lN 1718775661) :: st) h) Q := G_unf rfl rfl
theorem g189_60 : G d 189 60 ls st h Q ↔ GN d 189 60 ls h (pA 1 st fun as r => pR r fun a r => ck (r.length ≤ 4 ∧ arr h a 9) (cll 184 (.ref a :: as) r)) Q := G_unf rfl rfl
theorem g189_63 : G d 189 63 ls st h Q ↔ GN d 189 63 ls h (nx 64 ls (.int (nI 0) :: st) h) Q := G_unf rfl rfl
theorem g189_64 : G d 189 64 ls st h Q ↔ GN d 189 64 ls h (pI st fun x r => ck (2 < ls.length) (nx 65 (st1 ls 2 (.int x)) r h)) Q := G_unf rfl rfl
theorem g189_65 : G d 189 65 ls st h Q ↔ GN d 189 65 ls h (ldR ls 0 fun a => nx 66 ls (.ref a :: st) h) Q := G_unf rfl rfl
theorem g189_66 : G d 189 66 ls st h Q ↔ GN d 189 66 ls h (pR st fun a r => ck (arr h a 9) (nx 69 ls (.int (hI h a 8) :: r) h)) Q := G_unf rfl rfl
theorem g189_69 : G d 189 69 ls st h Q ↔ GN d 189 69 ls h (pI st fun x r => br (¬ x = 0) (nx 76 ls r h) (nx 72 ls r h)) Q := G_unf rfl rfl
theorem g189_72 : G d 189 72 ls st h Q ↔ GN d 189 72 ls h (nx 73 ls (.int (nI 1) :: st) h) Q := G_unf rfl rfl
theorem g189_73 : G d 189 73 ls st h Q ↔ GN d 189 73 ls h (nx 77 ls st h) Q := G_unf rfl rfl
theorem g189_76 : G d 189 76 ls st h Q ↔ GN d 189 76 ls h (nx 77 ls (.int (nI 0) :: st) h) Q := G_unf rfl rfl
theorem g189_77 : G d 189 77 ls st h Q ↔ GN d 189 77 ls h (pI st fun x r => ck (3 < ls.length) (nx 78 (st1 ls 3 (.int x)) r h)) Q := G_unf rfl rfl
theorem g189_78 : G d 189 78 ls st h Q ↔ GN d 189 78 ls h (ldI ls 3 fun x => nx 79 ls (.int x :: st) h) Q := G_unf rfl rfl
theorem g189_79 : G d 189 79 ls st h Q ↔ GN d 189 79 ls h (pI st fun x r => br (x = 0) (nx 182 ls r h) (nx 82 ls r h)) Q := G_unf rfl rfl
theorem g189_82 : G d 189 82 ls st h Q ↔ GN d 189 82 ls h (ldR ls 0 fun a => nx 83 ls (.ref a :: st) h) Q := G_unf rfl rfl
theorem g189_83 : G d 189 83 ls st h Q ↔ GN d 189 83 ls h (nx 84 ls (.int (nI 0) :: st) h) Q := G_unf rfl rfl
theorem g189_84 : G d 189 84 ls st h Q ↔ GN d 189 84 ls h (pA 1 st fun as r => pR r fun a r => ck (r.length ≤ 4 ∧ arr h a 9) (cll 186 (.ref a :: as) r)) Q := G_unf rfl rfl
theorem g189_87 : G d 189 87 ls st h Q ↔ GN d 189 87 ls h (pI st fun x r => ck (4 < ls.length) (nx 89 (st1 ls 4 (.int x)) r h)) Q := G_unf rfl rfl
theorem g189_89 : G d 189 89 ls st h Q ↔ GN d 189 89 ls h (ldR ls 0 fun a => nx 90 ls (.ref a :: st) h) Q := G_unf rfl rfl
theorem g189_90 : G d 189 90 ls st h Q ↔ GN d 189 90 ls h (pR st fun a r => ck (arr h a 9) (nx 93 ls (.int (hI h a 8) :: r) h)) Q := G_unf rfl rfl
theorem g189_93 : G d 189 93 ls st h Q ↔ GN d 189 93 ls h (pI st fun x r => br (¬ x = 0) (nx 125 ls r h) (nx 96 ls r h)) Q := G_unf rfl rfl
theorem g189_96 : G d 189 96 ls st h Q ↔ GN d 189 96 ls h (ldI ls 4 fun x => nx 98 ls (.int x :: st) h) Q := G_unf rfl rfl
theorem g189_98 : G d 189 98 ls st h Q ↔ GN d 189 98 ls h (ldR ls 0 fun a => nx 99 ls (.ref a :: st) h) Q := G_unf rfl rfl
theorem g189_99 : G d 189 99 ls st h Q ↔ GN d 189 99 ls h (pR st fun a r => ck (arr h a 9) (nx 102 ls (rv (hR h a 18) :: r) h)) Q := G_unf rfl rfl
theorem g189_102 : G d 189 102 ls st h Q ↔ GN d 189 102 ls h (ldI ls 1 fun x => nx 103 ls (.int x :: st) h) Q := G_unf rfl rfl
theorem g189_103 : G d 189 103 ls st h Q ↔ GN d 189 103 ls h (pRI st fun a i r => br (a = 1000003) (ck (inb i (hS h).1) (nx 104 ls (.int ((hS h).2 i.toNatClampNeg) :: r) h)) (ck (arr h a 10 ∧ inb i (hLn h a)) (nx 104 ls (.int (hI h a i.toNatClampNeg) :: r) h))) Q := G_unf rfl rfl
theorem g189_104 : G d 189 104 ls st h Q ↔ GN d 189 104 ls h (pII st fun x y r => br (x = y) (nx 116 ls r h) (nx 107 ls r h)) Q := G_unf rfl rfl
theorem g189_107 : G d 189 107 ls st h Q ↔ GN d 189 107 ls h (ldI ls 2 fun x => nx 108 ls (.int x :: st) h) Q := G_unf rfl rfl
theorem g189_108 : G d 189 108 ls st h Q ↔ GN d 189 108 ls h (ldI ls 4 fun x => nx 110 ls (.int x :: st) h) Q := G_unf rfl rfl
theorem g189_110 : G d 189 110 ls st h Q ↔ GN d 189 110 ls h (pA 2 st fun as r => ck (r.length ≤ 4) (cll 205 as r)) Q := G_unf rfl rfl
theorem g189_113 : G d 189 113 ls st h Q ↔ GN d 189 113 ls h (pI st fun x r => br (x = 0) (nx 125 ls r h) (nx 116 ls r h)) Q := G_unf rfl rfl
theorem g189_116 : G d 189 116 ls st h Q ↔ GN d 189 116 ls h (ldR ls 0 fun a => nx 117 ls (.ref a :: st) h) Q := G_unf rfl rfl
theorem g189_117 : G d 189 117 ls st h Q ↔ GN d 189 117 ls h (nx 118 ls (.int (nI 3) :: st) h) Q := G_unf rfl rfl
theorem g189_118 : G d 189 118 ls st h Q ↔ GN d 189 118 ls h (ldR ls 0 fun a => nx 119 ls (.ref a :: st) h) Q := G_unf rfl rfl
theorem g189_119 : G d 189 119 ls st h Q ↔ GN d 189 119 ls h (pR st fun a r => ck (arr h a 9) (nx 122 ls (.int (hI h a 4) :: r) h)) Q := G_unf rfl rfl
theorem g189_122 : G d 189 122 ls st h Q ↔ GN d 189 122 ls h (pA 2 st fun as r => pR r fun a r => ck (r.length ≤ 4 ∧ arr h a 9) (cll 160 (.ref a :: as) r)) Q := G_unf rfl rfl
theorem g189_125 : G d 189 125 ls st h Q ↔ GN d 189 125 ls h (ldR ls 0 fun a => nx 126 ls (.ref a :: st) h) Q := G_unf rfl rfl
theorem g189_126 : G d 189 126 ls st h Q ↔ GN d 189 126 ls h (pR st fun a r => ck (arr h a 9) (nx 129 ls (.int (hI h a 8) :: r) h)) Q := G_unf rfl rfl
theorem g189_129 : G d 189 129 ls st h Q ↔ GN d 189 129 ls h (pI st fun x r => br (¬ x = 0) (nx 143 ls r h) (nx 132 ls r h)) Q := G_unf rfl rfl
theorem g189_132 : G d 189 132 ls st h Q ↔ GN d 189 132 ls h (ldI ls 2 fun x => nx 133 ls (.int x :: st) h) Q := G_unf rfl rfl
theorem g189_133 : G d 189 133 ls st h Q ↔ GN d 189 133 ls h (nx 134 ls (.int (nI 1) :: st) h) Q := G_unf rfl rfl
theorem g189_134 : G d 189 134 ls st h Q ↔ GN d 189 134 ls h (ldI ls 4 fun x => nx 136 ls (.int x :: st) h) Q := G_unf rfl rfl
theorem g189_136 : G d 189 136 ls st h Q ↔ GN d 189 136 ls h (pII st fun x y r => nx 137 ls (.int (x <<< (y &&& 31)) :: r) h) Q := G_unf rfl rfl
theorem g189_137 : G d 189 137 ls st h Q ↔ GN d 189 137 ls h (pII st fun x y r => nx 138 ls (.int (x ||| y) :: r) h) Q := G_unf rfl rfl
theorem g189_138 : G d 189 138 ls st h Q ↔ GN d 189 138 ls h (pI st fun x r => ck (2 < ls.length) (nx 139 (st1 ls 2 (.int x)) r h)) Q := G_unf rfl rfl
theorem g189_139 : G d 189 139 ls st h Q ↔ GN d 189 139 ls h (ldR ls 0 fun a => nx 140 ls (.ref a :: st) h) Q := G_unf rfl rfl
theorem g189_140 : G d 189 140 ls st h Q ↔ GN d 189 140 ls h (pA 0 st fun as r => pR r fun a r => ck (r.length ≤ 4 ∧ arr h a 9) (cll 164 (.ref a :: as) r)) Q := G_unf rfl rfl
theorem g189_143 : G d 189 143 ls st h Q ↔ GN d 189 143 ls h (ldR ls 0 fun a => nx 144 ls (.ref a :: st) h) Q := G_unf rfl rfl
theorem g189_144 : G d 189 144 ls st h Q ↔ GN d 189 144 ls h (pA 0 st fun as r => pR r fun a r => ck (r.length ≤ 4 ∧ arr h a 9) (cll 163 (.ref a :: as) r)) Q := G_unf rfl rfl
set_option maxRecDepth 100000 in
theorem g189_147 : G d 189 147 ls st h Q ↔ GN d 189 147 ls h (ldR ls 0 fun a => nx 148 ls (.ref a :: st) h) Q := G_unf rfl rfl
set_option maxRecDepth 100000 in
theorem g189_148 : G d 189 148 ls st h Q ↔ GN d 189 148 ls h (pR st fun a r => ck (arr h a 9) (nx 151 ls (.int (hI h a 8) :: r) h)) Q := G_unf rfl rfl
set_option maxRecDepth 100000 in
theorem g189_151 : G d 189 151 ls st h Q ↔ GN d 189 151 ls h (pI st fun x r => br (¬ x = 0) (nx 177 ls r h) (nx 154 ls r h)) Q := G_unf rfl rfl
set_option maxRecDepth 100000 in
theorem g189_154 : G d 189 154 ls st h Q ↔ GN d 189 154 ls h (ldR ls 0 fun a => nx 155 ls (.ref a :: st) h) Q := G_unf rfl rfl
set_option maxRecDepth 100000 in
theorem g189_155 : G d 189 155 ls st h Q ↔ GN d 189 155 ls h (pR st fun a r => ck (arr h a 9) (nx 158 ls (.int (hI h a 3) :: r) h)) Q := G_unf rfl rfl
set_option maxRecDepth 100000 in
theorem g189_158 : G d 189 158 ls st h Q ↔ GN d 189 158 ls h (nx 159 ls (.int (nI 1) :: st) h) Q := G_unf rfl rfl
set_option maxRecDepth 100000 in
theorem g189_159 : G d 189 159 ls st h Q ↔ GN d 189 159 ls h (pII st fun x y r => br (¬ x = y) (nx 177 ls r h) (nx 162 ls r h)) Q := G_unf rfl rfl
set_option maxRecDepth 100000 in
theorem g189_162 : G d 189 162 ls st h Q ↔ GN d 189 162 ls h (ldR ls 0 fun a => nx 163 ls (.ref a :: st) h) Q := G_unf rfl rfl
set_option maxRecDepth 100000 in
theorem g189_163 : G d 189 163 ls st h Q ↔ GN d 189 163 ls h (ldR ls 0 fun a => nx 164 ls (.ref a :: st) h) Q := G_unf rfl rfl
set_option maxRecDepth 100000 in
theorem g189_164 : G d 189 164 ls st h Q ↔ GN d 189 164 ls h (pR st fun a r => ck (arr h a 9) (nx 167 ls (.long (hL h a 7) :: r) h)) Q := G_unf rfl rfl
set_option maxRecDepth 100000 in
theorem g189_167 : G d 189 167 ls st h Q ↔ GN d 189 167 ls h (pA 1 st fun as r => pR r fun a r => ck (r.length ≤ 4 ∧ arr h a 9) (cll 168 (.ref a :: as) r)) Q := G_unf rfl rfl
set_option maxRecDepth 100000 in
theorem g189_170 : G d 189 170 ls st h Q ↔ GN d 189 170 ls h (pI st fun x r => br (¬ x = 0) (nx 177 ls r h) (nx 173 ls r h)) Q := G_unf rfl rfl
set_option maxRecDepth 100000 in
theorem g189_173 : G d 189 173 ls st h Q ↔ GN d 189 173 ls h (nx 174 ls (.int (nI 1) :: st) h) Q := G_unf rfl rfl
set_option maxRecDepth 100000 in
theorem g189_174 : G d 189 174 ls st h Q ↔ GN d 189 174 ls h (nx 178 ls st h) Q := G_unf rfl rfl
set_option maxRecDepth 100000 in
theorem g189_177 : G d 189 177 ls st h Q ↔ GN d 189 177 ls h (nx 178 ls (.int (nI 0) :: st) h) Q := G_unf rfl rfl
set_option maxRecDepth 100000 in
theorem g189_178 : G d 189 178 ls st h Q ↔ GN d 189 178 ls h (pI st fun x r => ck (3 < ls.length) (nx 179 (st1 ls 3 (.int x)) r h)) Q := G_unf rfl rfl
set_option maxRecDepth 100000 in
theorem g189_179 : G d 189 179 ls st h Q ↔ GN d 189 179 ls h (nx 78 ls st h) Q := G_unf rfl rfl
set_option maxRecDepth 100000 in
theorem g189_182 : G d 189 182 ls st h Q ↔ GN d 189 182 ls h (ldR ls 0 fun a => nx 183 ls (.ref a :: st) h) Q := G_unf rfl rfl
set_option maxRecDepth 100000 in
theorem g189_183 : G d 189 183 ls st h Q ↔ GN d 189 183 ls h (pR st fun a r => ck (arr h a 9) (nx 186 ls (rv (hR h a 19) :: r) h)) Q := G_unf rfl rfl
set_option maxRecDepth 100000 in
theorem g189_186 : G d 189 186 ls st h Q ↔ GN d 189 186 ls h (ldI ls 1 fun x => nx 187 ls (.int x :: st) h) Q := G_unf rfl rfl
set_option maxRecDepth 100000 in
theorem g189_187 : G d 189 187 ls st h Q ↔ GN d 189 187 ls h (ldI ls 2 fun x => nx 188 ls (.int x :: st) h) Q := G_unf rfl rfl
set_option maxRecDepth 100000 in
theorem g189_188 : G d 189 188 ls st h Q ↔ GN d 189 188 ls h (pRII st fun a i x r => ck (arr h a 10 ∧ inb i (hLn h a)) (nx 189 ls r (sI h a i.toNatClampNeg x))) Q := G_unf rfl rfl
set_option maxRecDepth 100000 in
theorem g189_189 : G d 189 189 ls st h Q ↔ GN d 189 189 ls h (ldR ls 0 fun a => nx 190 ls (.ref a :: st) h) Q := G_unf rfl rfl
set_option maxRecDepth 100000 in
theorem g189_190 : G d 189 190 ls st h Q ↔ GN d 189 190 ls h (pR st fun a r => ck (arr h a 9) (nx 193 ls (.int (hI h a 8) :: r) h)) Q := G_unf rfl rfl
set_option maxRecDepth 100000 in
theorem g189_193 : G d 189 193 ls st h Q ↔ GN d 189 193 ls h (pI st fun x r => br (¬ x = 0) (nx 209 ls r h) (nx 196 ls r h)) Q := G_unf rfl rfl
set_option maxRecDepth 100000 in
theorem g189_196 : G d 189 196 ls st h Q ↔ GN d 189 196 ls h (ldR ls 0 fun a => nx 197 ls (.ref a :: st) h) Q := G_unf rfl rfl
set_option maxRecDepth 100000 in
theorem g189_197 : G d 189 197 ls st h Q ↔ GN d 189 197 ls h (pR st fun a r => ck (arr h a 9) (nx 200 ls (rv (hR h a 17) :: r) h)) Q := G_unf rfl rfl
set_option maxRecDepth 100000 in
theorem g189_200 : G d 189 200 ls st h Q ↔ GN d 189 200 ls h (ldR ls 0 fun a => nx 201 ls (.ref a :: st) h) Q := G_unf rfl rfl
set_option maxRecDepth 100000 in
theorem g189_201 : G d 189 201 ls st h Q ↔ GN d 189 201 ls h (pR st fun a r => ck (arr h a 9) (nx 204 ls (.int (hI h a 39) :: r) h)) Q := G_unf rfl rfl
set_option maxRecDepth 100000 in
theorem g189_204 : G d 189 204 ls st h Q ↔ GN d 189 204 ls h (p11 st fun v w r => nx 205 ls (v :: w :: v :: w :: r) h) Q := G_unf rfl rfl
set_option maxRecDepth 100000 in
theorem g189_205 : G d 189 205 ls st h Q ↔ GN d 189 205 ls h (pRI st fun a i r => br (a = 1000003) (ck (inb i (hS h).1) (nx 206 ls (.int ((hS h).2 i.toNatClampNeg) :: r) h)) (ck (arr h a 10 ∧ inb i (hLn h a)) (nx 206 ls (.int (hI h a i.toNatClampNeg) :: r) h))) Q := G_unf rfl rfl
set_option maxRecDepth 100000 in
theorem g189_206 : G d 189 206 ls st h Q ↔ GN d 189 206 ls h (nx 207 ls (.int (nI 1) :: st) h) Q := G_unf rfl rfl
set_option maxRecDepth 100000 in
theorem g189_207 : G d 189 207 ls st h Q ↔ GN d 189 207 ls h (pII st fun x y r => nx 208 ls (.int (x + y) :: r) h) Q := G_unf rfl rfl
set_option maxRecDepth 100000 in
theorem g189_208 : G d 189 208 ls st h Q ↔ GN d 189 208 ls h (pRII st fun a i x r => ck (arr h a 10 ∧ inb i (hLn h a)) (nx 209 ls r (sI h a i.toNatClampNeg x))) Q := G_unf rfl rfl
set_option maxRecDepth 100000 in
theorem g189_209 : G d 189 209 ls st h Q ↔ GN d 189 209 ls h (pE st (rtn none)) Q := G_unf rfl rfl
theorem g190_0 : G d 190 0 ls st h Q ↔ GN d 190 0 ls h (ldR ls 0 fun a => nx 1 ls (.ref a :: st) h) Q := G_unf rfl rfl
theorem g190_1 : G d 190 1 ls st h Q ↔ GN d 190 1 ls h (ldR ls 0 fun a => nx 2 ls (.ref a :: st) h) Q := G_unf rfl rfl
theorem g190_2 : G d 190 2 ls st h Q ↔ GN d 190 2 ls h (pR st fun a r => ck (arr h a 9) (nx 5 ls (rv (hR h a 20) :: r) h)) Q := G_unf rfl rfl
theorem g190_5 : G d 190 5 ls st h Q ↔ GN d 190 5 ls h (ldR ls 0 fun a => nx 6 ls (.ref a :: st) h) Q := G_unf rfl rfl
theorem g190_6 : G d 190 6 ls st h Q ↔ GN d 190 6 ls h (pR st fun a r => ck (arr h a 9) (nx 9 ls (.int (hI h a 39) :: r) h)) Q := G_unf rfl rfl
theorem g190_9 : G d 190 9 ls st h Q ↔ GN d 190 9 ls h (pRI st fun a i r => br (a = 1000003) (ck (inb i (hS h).1) (nx 10 ls (.int ((hS h).2 i.toNatClampNeg) :: r) h)) (ck (arr h a 10 ∧ inb i (hLn h a)) (nx 10 ls (.int (hI h a i.toNatClampNeg) :: r) h))) Q := G_unf rfl rfl
theorem g190_10 : G d 190 10 ls st h Q ↔ GN d 190 10 ls h (nx 12 ls (.int (nI 8) :: st) h) Q := G_unf rfl rfl
theorem g190_12 : G d 190 12 ls st h Q ↔ GN d 190 12 ls h (pII st fun x y r => br (¬ x = y) (nx 19 ls r h) (nx 15 ls r h)) Q := G_unf rfl rfl
theorem g190_15 : G d 190 15 ls st h Q ↔ GN d 190 15 ls h (nx 16 ls (.int (nI 1) :: st) h) Q := G_unf rfl rfl
theorem g190_16 : G d 190 16 ls st h Q ↔ GN d 190 16 ls h (nx 20 ls st h) Q := G_unf rfl rfl
theorem g190_19 : G d 190 19 ls st h Q ↔ GN d 190 19 ls h (nx 20 ls (.int (nI 0) :: st) h) Q := G_unf rfl rfl
theorem g190_20 : G d 190 20 ls st h Q ↔ GN d 190 20 ls h (pA 1 st fun as r => pR r fun a r => ck (r.length ≤ 4 ∧ arr h a 9) (cll 183 (.ref a :: as) r)) Q := G_unf rfl rfl
theorem g190_23 : G d 190 23 ls st h Q ↔ GN d 190 23 ls h (pI st fun x r => br (¬ x = 0) (nx 27 ls r h) (nx 26 ls r h)) Q := G_unf rfl rfl
theorem g190_26 : G d 190 26 ls st h Q ↔ GN d 190 26 ls h (pE st (rtn none)) Q := G_unf rfl rfl
theorem g190_27 : G d 190 27 ls st h Q ↔ GN d 190 27 ls h (nx 29 ls (.int (nI 8) :: st) h) Q := G_unf rfl rfl
theorem g190_29 : G d 190 29 ls st h Q ↔ GN d 190 29 ls h (ldR ls 0 fun a => nx 30 ls (.ref a :: st) h) Q := G_unf rfl rfl
theorem g190_30 : G d 190 30 ls st h Q ↔ GN d 190 30 ls h (pR st fun a r => ck (arr h a 9) (nx 33 ls (.int (hI h a 39) :: r) h)) Q := G_unf rfl rfl
theorem g190_33 : G d 190 33 ls st h Q ↔ GN d 190 33 ls h (pII st fun x y r => nx 34 ls (.int (x * y) :: r) h) Q := G_unf rfl rfl
theorem g190_34 : G d 190 34 ls st h Q ↔ GN d 190 34 ls h (ldR ls 0 fun a => nx 35 ls (.ref a :: st) h) Q := G_unf rfl rfl
theorem g190_35 : G d 190 35 ls st h Q ↔ GN d 190 35 ls h (pR st fun a r => ck (arr h a 9) (nx 38 ls (rv (hR h a 20) :: r) h)) Q := G_unf rfl rfl
theorem g190_38 : G d 190 38 ls st h Q ↔ GN d 190 38 ls h (ldR ls 0 fun a => nx 39 ls (.ref a :: st) h) Q := G_unf rfl rfl
theorem g190_39 : G d 190 39 ls st h Q ↔ GN d 190 39 ls h (pR st fun a r => ck (arr h a 9) (nx 42 ls (.int (hI h a 39) :: r) h)) Q := G_unf rfl rfl
theorem g190_42 : G d 190 42 ls st h Q ↔ GN d 190 42 ls h (pRI st fun a i r => br (a = 1000003) (ck (inb i (hS h).1) (nx 43 ls (.int ((hS h).2 i.toNatClampNeg) :: r) h)) (ck (arr h a 10 ∧ inb i (hLn h a)) (nx 43 ls (.int (hI h a i.toNatClampNeg) :: r) h))) Q := G_unf rfl rfl
theorem g190_43 : G d 190 43 ls st h Q ↔ GN d 190 43 ls h (pII st fun x y r => nx 44 ls (.int (x + y) :: r) h) Q := G_unf rfl rfl
theorem g190_44 : G d 190 44 ls st h Q ↔ GN d 190 44 ls h (pI st fun x r => ck (1 < ls.length) (nx 45 (st1 ls 1 (.int x)) r h)) Q := G_unf rfl rfl
theorem g190_45 : G d 190 45 ls st h Q ↔ GN d 190 45 ls h (ldR ls 0 fun a => nx 46 ls (.ref a :: st) h) Q := G_unf rfl rfl
theorem g190_46 : G d 190 46 ls st h Q ↔ GN d 190 46 ls h (pR st fun a r => ck (arr h a 9) (nx 49 ls (rv (hR h a 37) :: r) h)) Q := G_unf rfl rfl
theorem g190_49 : G d 190 49 ls st h Q ↔ GN d 190 49 ls h (ldI ls 1 fun x => nx 50 ls (.int x :: st) h) Q := G_unf rfl rfl
theorem g190_50 : G d 190 50 ls st h Q ↔ GN d 190 50 ls h (ldR ls 0 fun a => nx 51 ls (.ref a :: st) h) Q := G_unf rfl rfl
theorem g190_51 : G d 190 51 ls st h Q ↔ GN d 190 51 ls h (pA 0 st fun as r => pR r fun a r => ck (r.length ≤ 4 ∧ arr h a 9) (cll 185 (.ref a :: as) r)) Q := G_unf rfl rfl
theorem g190_54 : G d 190 54 ls st h Q ↔ GN d 190 54 ls h (pRIJ st fun a i x r => ck (arr h a 13 ∧ inb i (hLn h a)) (nx 55 ls r (sL h a i.toNatClampNeg x))) Q := G_unf rfl rfl
theorem g190_55 : G d 190 55 ls st h Q ↔ GN d 190 55 ls h (ldR ls 0 fun a => nx 56 ls (.ref a :: st) h) Q := G_unf rfl rfl
theorem g190_56 : G d 190 56 ls st h Q ↔ GN d 190 56 ls h (nx 59 ls (.long (lN 126943972648308) :: st) h) Q := G_unf rfl rfl
theorem g190_59 : G d 190 59 ls st h Q ↔ GN d 190 59 ls h (pA 1 st fun as r => pR r fun a r => ck (r.length ≤ 4 ∧ arr h a 9) (cll 184 (.ref a :: as) r)) Q := G_unf rfl rfl
theorem g190_62 : G d 190 62 ls st h Q ↔ GN d 190 62 ls h (ldR ls 0 fun a => nx 63 ls (.ref a :: st) h) Q := G_unf rfl rfl
theorem g190_63 : G d 190 63 ls st h Q ↔ GN d 190 63 ls h (pR st fun a r => ck (arr h a 9) (nx 66 ls (rv (hR h a 21) :: r) h)) Q := G_unf rfl rfl
theorem g190_66 : G d 190 66 ls st h Q ↔ GN d 190 66 ls h (ldI ls 1 fun x => nx 67 ls (.int x :: st) h) Q := G_unf rfl rfl
theorem g190_67 : G d 190 67 ls st h Q ↔ GN d 190 67 ls h (ldR ls 0 fun a => nx 68 ls (.ref a :: st) h) Q := G_unf rfl rfl
theorem g190_68 : G d 190 68 ls st h Q ↔ GN d 190 68 ls h (nx 69 ls (.int (nI 0) :: st) h) Q := G_unf rfl rfl
theorem g190_69 : G d 190 69 ls st h Q ↔ GN d 190 69 ls h (nx 71 ls (.int (nI 9) :: st) h) Q := G_unf rfl rfl
theorem g190_71 : G d 190 71 ls st h Q ↔ GN d 190 71 ls h (pA 2 st fun as r => pR r fun a r => ck (r.length ≤ 4 ∧ arr h a 9) (cll 172 (.ref a :: as) r)) Q := G_unf rfl rfl
theorem g190_74 : G d 190 74 ls st h Q ↔ GN d 190 74 ls h (pRII st fun a i x r => ck (arr h a 10 ∧ inb i (hLn h a)) (nx 75 ls r (sI h a i.toNatClampNeg x))) Q := G_unf rfl rfl
theorem g190_75 : G d 190 75 ls st h Q ↔ GN d 190 75 ls h (ldR ls 0 fun a => nx 76 ls (.ref a :: st) h) Q := G_unf rfl rfl
theorem g190_76 : G d 190 76 ls st h Q ↔ GN d 190 76 ls h (nx 79 ls (.long (lN 483006772069) :: st) h) Q := G_unf rfl rfl
theorem g190_79 : G d 190 79 ls st h Q ↔ GN d 190 79 ls h (pA 1 st fun as r => pR r fun a r => ck (r.length ≤ 4 ∧ arr h a 9) (cll 184 (.ref a :: as) r)) Q := G_unf rfl rfl
theorem g190_82 : G d 190 82 ls st h Q ↔ GN d 190 82 ls h (ldR ls 0 fun a => nx 83 ls (.ref a :: st) h) Q := G_unf rfl rfl
theorem g190_83 : G d 190 83 ls st h Q ↔ GN d 190 83 ls h (pR st fun a r => ck (arr h a 9) (nx 86 ls (rv (hR h a 22) :: r) h)) Q := G_unf rfl rfl
theorem g190_86 : G d 190 86 ls st h Q ↔ GN d 190 86 ls h (ldI ls 1 fun x => nx 87 ls (.int x :: st) h) Q := G_unf rfl rfl
theorem g190_87 : G d 190 87 ls st h Q ↔ GN d 190 87 ls h (ldR ls 0 fun a => nx 88 ls (.ref a :: st) h) Q := G_unf rfl rfl
theorem g190_88 : G d 190 88 ls st h Q ↔ GN d 190 88 ls h (nx 89 ls (.int (nI 0) :: st) h) Q := G_unf rfl rfl
theorem g190_89 : G d 190 89 ls st h Q ↔ GN d 190 89 ls h (nx 92 ls (.int (nI 999) :: st) h) Q := G_unf rfl rfl
theorem g190_92 : G d 190 92 ls st h Q ↔ GN d 190 92 ls h (pA 2 st fun as r => pR r fun a r => ck (r.length ≤ 4 ∧ arr h a 9) (cll 172 (.ref a :: as) r)) Q := G_unf rfl rfl
theorem g190_95 : G d 190 95 ls st h Q ↔ GN d 190 95 ls h (pRII st fun a i x r => ck (arr h a 10 ∧ inb i (hLn h a)) (nx 96 ls r (sI h a i.toNatClampNeg x))) Q := G_unf rfl rfl
theorem g190_96 : G d 190 96 ls st h Q ↔ GN d 190 96 ls h (ldR ls 0 fun a => nx 97 ls (.ref a :: st) h) Q := G_unf rfl rfl
theorem g190_97 : G d 190 97 ls st h Q ↔ GN d 190 97 ls h (pR st fun a r => ck (arr h a 9) (nx 100 ls (.int (hI h a 8) :: r) h)) Q := G_unf rfl rfl
theorem g190_100 : G d 190 100 ls st h Q ↔ GN d 190 100 ls h (pI st fun x r => br (¬ x = 0) (nx 116 ls r h) (nx 103 ls r h)) Q := G_unf rfl rfl
theorem g190_103 : G d 190 103 ls st h Q ↔ GN d 190 103 ls h (ldR ls 0 fun a => nx 104 ls (.ref a :: st) h) Q := G_unf rfl rfl
theorem g190_104 : G d 190 104 ls st h Q ↔ GN d 190 104 ls h (pR st fun a r => ck (arr h a 9) (nx 107 ls (rv (hR h a 20) :: r) h)) Q := G_unf rfl rfl
theorem g190_107 : G d 190 107 ls st h Q ↔ GN d 190 107 ls h (ldR ls 0 fun a => nx 108 ls (.ref a :: st) h) Q := G_unf rfl rfl
theorem g190_108 : G d 190 108 ls st h Q ↔ GN d 190 108 ls h (pR st fun a r => ck (arr h a 9) (nx 111 ls (.int (hI h a 39) :: r) h)) Q := G_unf rfl rfl
theorem g190_111 : G d 190 111 ls st h Q ↔ GN d 190 111 ls h (p11 st fun v w r => nx 112 ls (v :: w :: v :: w :: r) h) Q := G_unf rfl rfl
theorem g190_112 : G d 190 112 ls st h Q ↔ GN d 190 112 ls h (pRI st fun a i r => br (a = 1000003) (ck (inb i (hS h).1) (nx 113 ls (.int ((hS h).2 i.toNatClampNeg) :: r) h)) (ck (arr h a 10 ∧ inb i (hLn h a)) (nx 113 ls (.int (hI h a i.toNatClampNeg) :: r) h))) Q := G_unf rfl rfl
theorem g190_113 : G d 190 113 ls st h Q ↔ GN d 190 113 ls h (nx 114 ls (.int (nI 1) :: st) h) Q := G_unf rfl rfl
theorem g190_114 : G d 190 114 ls st h Q ↔ GN d 190 114 ls h (pII st fun x y r => nx 115 ls (.int (x + y) :: r) h) Q := G_unf rfl rfl
theorem g190_115 : G d 190 115 ls st h Q ↔ GN d 190 115 ls h (pRII st fun a i x r => ck (arr h a 10 ∧ inb i (hLn h a)) (nx 116 ls r (sI h a i.toNatClampNeg x))) Q := G_unf rfl rfl
theorem g190_116 : G d 190 116 ls st h Q ↔ GN d 190 116 ls h (pE st (rtn none)) Q := G_unf rfl rfl
theorem g191_0 : G d 191 0 ls st h Q ↔ GN d 191 0 ls h (ldR ls 0 fun a => nx 1 ls (.ref a :: st) h) Q := G_unf rfl rfl
theorem g191_1 : G d 191 1 ls st h Q ↔ GN d 191 1 ls h (ldR ls 0 fun a => nx 2 ls (.ref a :: st) h) Q := G_unf rfl rfl
theorem g191_2 : G d 191 2 ls st h Q ↔ GN d 191 2 ls h (pR st fun a r => ck (arr h a 9) (nx 5 ls (rv (hR h a 23) :: r) h)) Q := G_unf rfl rfl
theorem g191_5 : G d 191 5 ls st h Q ↔ GN d 191 5 ls h (ldR ls 0 fun a => nx 6 ls (.ref a :: st) h) Q := G_unf rfl rfl
theorem g191_6 : G d 191 6 ls st h Q ↔ GN d 191 6 ls h (pR st fun a r => ck (arr h a 9) (nx 9 ls (.int (hI h a 39) :: r) h)) Q := G_unf rfl rfl
theorem g191_9 : G d 191 9 ls st h Q ↔ GN d 191 9 ls h (pRI st fun a i r => br (a = 1000003) (ck (inb i (hS h).1) (nx 10 ls (.int ((hS h).2 i.toNatClampNeg) :: r) h)) (ck (arr h a 10 ∧ inb i (hLn h a)) (nx 10 ls (.int (hI h a i.toNatClampNeg) :: r) h))) Q := G_unf rfl rfl
theorem g191_10 : G d 191 10 ls st h Q ↔ GN d 191 10 ls h (nx 12 ls (.int (nI 16) :: st) h) Q := G_unf rfl rfl
theorem g191_12 : G d 191 12 ls st h Q ↔ GN d 191 12 ls h (pII st fun x y r => br (¬ x = y) (nx 19 ls r h) (nx 15 ls r h)) Q := G_unf rfl rfl
theorem g191_15 : G d 191 15 ls st h Q ↔ GN d 191 15 ls h (nx 16 ls (.int (nI 1) :: st) h) Q := G_unf rfl rfl
theorem g191_16 : G d 191 16 ls st h Q ↔ GN d 191 16 ls h (nx 20 ls st h) Q := G_unf rfl rfl
theorem g191_19 : G d 191 19 ls st h Q ↔ GN d 191 19 ls h (nx 20 ls (.int (nI 0) :: st) h) Q := G_unf rfl rfl
theorem g191_20 : G d 191 20 ls st h Q ↔ GN d 191 20 ls h (pA 1 st fun as r => pR r fun a r => ck (r.length ≤ 4 ∧ arr h a 9) (cll 183 (.ref a :: as) r)) Q := G_unf rfl rfl
theorem g191_23 : G d 191 23 ls st h Q ↔ GN d 191 23 ls h (pI st fun x r => br (¬ x = 0) (nx 27 ls r h) (nx 26 ls r h)) Q := G_unf rfl rfl
theorem g191_26 : G d 191 26 ls st h Q ↔ GN d 191 26 ls h (pE st (rtn none)) Q := G_unf rfl rfl
theorem g191_27 : G d 191 27 ls st h Q ↔ GN d 191 27 ls h (nx 29 ls (.int (nI 16) :: st) h) Q := G_unf rfl rfl
theorem g191_29 : G d 191 29 ls st h Q ↔ GN d 191 29 ls h (ldR ls 0 fun a => nx 30 ls (.ref a :: st) h) Q := G_unf rfl rfl
theorem g191_30 : G d 191 30 ls st h Q ↔ GN d 191 30 ls h (pR st fun a r => ck (arr h a 9) (nx 33 ls (.int (hI h a 39) :: r) h)) Q := G_unf rfl rfl
theorem g191_33 : G d 191 33 ls st h Q ↔ GN d 191 33 ls h (pII st fun x y r => nx 34 ls (.int (x * y) :: r) h) Q := G_unf rfl rfl
theorem g191_34 : G d 191 34 ls st h Q ↔ GN d 191 34 ls h (ldR ls 0 fun a => nx 35 ls (.ref a :: st) h) Q := G_unf rfl rfl
theorem g191_35 : G d 191 35 ls st h Q ↔ GN d 191 35 ls h (pR st fun a r => ck (arr h a 9) (nx 38 ls (rv (hR h a 23) :: r) h)) Q := G_unf rfl rfl
theorem g191_38 : G d 191 38 ls st h Q ↔ GN d 191 38 ls h (ldR ls 0 fun a => nx 39 ls (.ref a :: st) h) Q := G_unf rfl rfl
theorem g191_39 : G d 191 39 ls st h Q ↔ GN d 191 39 ls h (pR st fun a r => ck (arr h a 9) (nx 42 ls (.int (hI h a 39) :: r) h)) Q := G_unf rfl rfl
theorem g191_42 : G d 191 42 ls st h Q ↔ GN d 191 42 ls h (pRI st fun a i r => br (a = 1000003) (ck (inb i (hS h).1) (nx 43 ls (.int ((hS h).2 i.toNatClampNeg) :: r) h)) (ck (arr h a 10 ∧ inb i (hLn h a)) (nx 43 ls (.int (hI h a i.toNatClampNeg) :: r) h))) Q := G_unf rfl rfl
theorem g191_43 : G d 191 43 ls st h Q ↔ GN d 191 43 ls h (pII st fun x y r => nx 44 ls (.int (x + y) :: r) h) Q := G_unf rfl rfl
theorem g191_44 : G d 191 44 ls st h Q ↔ GN d 191 44 ls h (pI st fun x r => ck (1 < ls.length) (nx 45 (st1 ls 1 (.int x)) r h)) Q := G_unf rfl rfl
theorem g191_45 : G d 191 45 ls st h Q ↔ GN d 191 45 ls h (ldR ls 0 fun a => nx 46 ls (.ref a :: st) h) Q := G_unf rfl rfl
theorem g191_46 : G d 191 46 ls st h Q ↔ GN d 191 46 ls h (pR st fun a r => ck (arr h a 9) (nx 49 ls (rv (hR h a 24) :: r) h)) Q := G_unf rfl rfl
theorem g191_49 : G d 191 49 ls st h Q ↔ GN d 191 49 ls h (ldI ls 1 fun x => nx 50 ls (.int x :: st) h) Q := G_unf rfl rfl
theorem g191_50 : G d 191 50 ls st h Q ↔ GN d 191 50 ls h (ldR ls 0 fun a => nx 51 ls (.ref a :: st) h) Q := G_unf rfl rfl
theorem g191_51 : G d 191 51 ls st h Q ↔ GN d 191 51 ls h (nx 52 ls (.int (nI 1) :: st) h) Q := G_unf rfl rfl
theorem g191_52 : G d 191 52 ls st h Q ↔ GN d 191 52 ls h (pA 1 st fun as r => pR r fun a r => ck (r.length ≤ 4 ∧ arr h a 9) (cll 187 (.ref a :: as) r)) Q := G_unf rfl rfl
theorem g191_55 : G d 191 55 ls st h Q ↔ GN d 191 55 ls h (pRII st fun a i x r => ck (arr h a 10 ∧ inb i (hLn h a)) (nx 56 ls r (sI h a i.toNatClampNeg x))) Q := G_unf rfl rfl
theorem g191_56 : G d 191 56 ls st h Q ↔ GN d 191 56 ls h (ldR ls 0 fun a => nx 57 ls (.ref a :: st) h) Q := G_unf rfl rfl
theorem g191_57 : G d 191 57 ls st h Q ↔ GN d 191 57 ls h (pR st fun a r => ck (arr h a 9) (nx 60 ls (rv (hR h a 25) :: r) h)) Q := G_unf rfl rfl
theorem g191_60 : G d 191 60 ls st h Q ↔ GN d 191 60 ls h (ldI ls 1 fun x => nx 61 ls (.int x :: st) h) Q := G_unf rfl rfl
theorem g191_61 : G d 191 61 ls st h Q ↔ GN d 191 61 ls h (ldR ls 0 fun a => nx 62 ls (.ref a :: st) h) Q := G_unf rfl rfl
theorem g191_62 : G d 191 62 ls st h Q ↔ GN d 191 62 ls h (nx 63 ls (.int (nI 1) :: st) h) Q := G_unf rfl rfl
theorem g191_63 : G d 191 63 ls st h Q ↔ GN d 191 63 ls h (pA 1 st fun as r => pR r fun a r => ck (r.length ≤ 4 ∧ arr h a 9) (cll 186 (.ref a :: as) r)) Q := G_unf rfl rfl
theorem g191_66 : G d 191 66 ls st h Q ↔ GN d 191 66 ls h (pRII st fun a i x r => ck (arr h a 10 ∧ inb i (hLn h a)) (nx 67 ls r (sI h a i.toNatClampNeg x))) Q := G_unf rfl rfl
theorem g191_67 : G d 191 67 ls st h Q ↔ GN d 191 67 ls h (ldR ls 0 fun a => nx 68 ls (.ref a :: st) h) Q := G_unf rfl rfl
theorem g191_68 : G d 191 68 ls st h Q ↔ GN d 191 68 ls h (pR st fun a r => ck (arr h a 9) (nx 71 ls (.int (hI h a 8) :: r) h)) Q := G_unf rfl rfl
theorem g191_71 : G d 191 71 ls st h Q ↔ GN d 191 71 ls h (pI st fun x r => br (¬ x = 0) (nx 98 ls r h) (nx 74 ls r h)) Q := G_unf rfl rfl
theorem g191_74 : G d 191 74 ls st h Q ↔ GN d 191 74 ls h (ldR ls 0 fun a => nx 75 ls (.ref a :: st) h) Q := G_unf rfl rfl
theorem g191_75 : G d 191 75 ls st h Q ↔ GN d 191 75 ls h (pR st fun a r => ck (arr h a 9) (nx 78 ls (rv (hR h a 24) :: r) h)) Q := G_unf rfl rfl
theorem g191_78 : G d 191 78 ls st h Q ↔ GN d 191 78 ls h (ldI ls 1 fun x => nx 79 ls (.int x :: st) h) Q := G_unf rfl rfl
theorem g191_79 : G d 191 79 ls st h Q ↔ GN d 191 79 ls h (pRI st fun a i r => br (a = 1000003) (ck (inb i (hS h).1) (nx 80 ls (.int ((hS h).2 i.toNatClampNeg) :: r) h)) (ck (arr h a 10 ∧ inb i (hLn h a)) (nx 80 ls (.int (hI h a i.toNatClampNeg) :: r) h))) Q := G_unf rfl rfl
theorem g191_80 : G d 191 80 ls st h Q ↔ GN d 191 80 ls h (ldR ls 0 fun a => nx 81 ls (.ref a :: st) h) Q := G_unf rfl rfl
theorem g191_81 : G d 191 81 ls st h Q ↔ GN d 191 81 ls h (pR st fun a r => ck (arr h a 9) (nx 84 ls (rv (hR h a 25) :: r) h)) Q := G_unf rfl rfl
theorem g191_84 : G d 191 84 ls st h Q ↔ GN d 191 84 ls h (ldI ls 1 fun x => nx 85 ls (.int x :: st) h) Q := G_unf rfl rfl
theorem g191_85 : G d 191 85 ls st h Q ↔ GN d 191 85 ls h (pRI st fun a i r => br (a = 1000003) (ck (inb i (hS h).1) (nx 86 ls (.int ((hS h).2 i.toNatClampNeg) :: r) h)) (ck (arr h a 10 ∧ inb i (hLn h a)) (nx 86 ls (.int (hI h a i.toNatClampNeg) :: r) h))) Q := G_unf rfl rfl
theorem g191_86 : G d 191 86 ls st h Q ↔ GN d 191 86 ls h (pII st fun x y r => br (¬ x = y) (nx 98 ls r h) (nx 89 ls r h)) Q := G_unf rfl rfl
theorem g191_89 : G d 191 89 ls st h Q ↔ GN d 191 89 ls h (ldR ls 0 fun a => nx 90 ls (.ref a :: st) h) Q := G_unf rfl rfl
theorem g191_90 : G d 191 90 ls st h Q ↔ GN d 191 90 ls h (nx 91 ls (.int (nI 3) :: st) h) Q := G_unf rfl rfl
theorem g191_91 : G d 191 91 ls st h Q ↔ GN d 191 91 ls h (ldR ls 0 fun a => nx 92 ls (.ref a :: st) h) Q := G_unf rfl rfl
theorem g191_92 : G d 191 92 ls st h Q ↔ GN d 191 92 ls h (pR st fun a r => ck (arr h a 9) (nx 95 ls (.int (hI h a 4) :: r) h)) Q := G_unf rfl rfl
theorem g191_95 : G d 191 95 ls st h Q ↔ GN d 191 95 ls h (pA 2 st fun as r => pR r fun a r => ck (r.length ≤ 4 ∧ arr h a 9) (cll 160 (.ref a :: as) r)) Q := G_unf rfl rfl
theorem g191_98 : G d 191 98 ls st h Q ↔ GN d 191 98 ls h (ldR ls 0 fun a => nx 99 ls (.ref a :: st) h) Q := G_unf rfl rfl
theorem g191_99 : G d 191 99 ls st h Q ↔ GN d 191 99 ls h (pR st fun a r => ck (arr h a 9) (nx 102 ls (.int (hI h a 8) :: r) h)) Q := G_unf rfl rfl
theorem g191_102 : G d 191 102 ls st h Q ↔ GN d 191 102 ls h (pI st fun x r => br (x ≤ 0) (nx 106 ls r h) (nx 105 ls r h)) Q := G_unf rfl rfl
theorem g191_105 : G d 191 105 ls st h Q ↔ GN d 191 105 ls h (pE st (rtn none)) Q := G_unf rfl rfl
theorem g191_106 : G d 191 106 ls st h Q ↔ GN d 191 106 ls h (ldR ls 0 fun a => nx 107 ls (.ref a :: st) h) Q := G_unf rfl rfl
theorem g191_107 : G d 191 107 ls st h Q ↔ GN d 191 107 ls h (pA 0 st fun as r => pR r fun a r => ck (r.length ≤ 4 ∧ arr h a 9) (cll 164 (.ref a :: as) r)) Q := G_unf rfl rfl
theorem g191_110 : G d 191 110 ls st h Q ↔ GN d 191 110 ls h (ldR ls 0 fun a => nx 111 ls (.ref a :: st) h) Q := G_unf rfl rfl
theorem g191_111 : G d 191 111 ls st h Q ↔ GN d 191 111 ls h (nx 114 ls (.long (lN 28526) :: st) h) Q := G_unf rfl rfl
theorem g191_114 : G d 191 114 ls st h Q ↔ GN d 191 114 ls h (pA 1 st fun as r => pR r fun a r => ck (r.length ≤ 4 ∧ arr h a 9) (cll 184 (.ref a :: as) r)) Q := G_unf rfl rfl
theorem g191_117 : G d 191 117 ls st h Q ↔ GN d 191 117 ls h (ldR ls 0 fun a => nx 118 ls (.ref a :: st) h) Q := G_unf rfl rfl
theorem g191_118 : G d 191 118 ls st h Q ↔ GN d 191 118 ls h (pR st fun a r => ck (arr h a 9) (nx 121 ls (rv (hR h a 26) :: r) h)) Q := G_unf rfl rfl
theorem g191_121 : G d 191 121 ls st h Q ↔ GN d 191 121 ls h (ldI ls 1 fun x => nx 122 ls (.int x :: st) h) Q := G_unf rfl rfl
theorem g191_122 : G d 191 122 ls st h Q ↔ GN d 191 122 ls h (ldR ls 0 fun a => nx 123 ls (.ref a :: st) h) Q := G_unf rfl rfl
theorem g191_123 : G d 191 123 ls st h Q ↔ GN d 191 123 ls h (nx 124 ls (.int (nI 0) :: st) h) Q := G_unf rfl rfl
theorem g191_124 : G d 191 124 ls st h Q ↔ GN d 191 124 ls h (nx 126 ls (.int (nI 6) :: st) h) Q := G_unf rfl rfl
theorem g191_126 : G d 191 126 ls st h Q ↔ GN d 191 126 ls h (pA 2 st fun as r => pR r fun a r => ck (r.length ≤ 4 ∧ arr h a 9) (cll 172 (.ref a :: as) r)) Q := G_unf rfl rfl
theorem g191_129 : G d 191 129 ls st h Q ↔ GN d 191 129 ls h (pRII st fun a i x r => ck (arr h a 10 ∧ inb i (hLn h a)) (nx 130 ls r (sI h a i.toNatClampNeg x))) Q := G_unf rfl rfl
theorem g191_130 : G d 191 130 ls st h Q ↔ GN d 191 130 ls h (ldR ls 0 fun a => nx 131 ls (.ref a :: st) h) Q := G_unf rfl rfl
theorem g191_131 : G d 191 131 ls st h Q ↔ GN d 191 131 ls h (pR st fun a r => ck (arr h a 9) (nx 134 ls (.int (hI h a 8) :: r) h)) Q := G_unf rfl rfl
theorem g191_134 : G d 191 134 ls st h Q ↔ GN d 191 134 ls h (pI st fun x r => br (¬ x = 0) (nx 150 ls r h) (nx 137 ls r h)) Q := G_unf rfl rfl
theorem g191_137 : G d 191 137 ls st h Q ↔ GN d 191 137 ls h (ldR ls 0 fun a => nx 138 ls (.ref a :: st) h) Q := G_unf rfl rfl
theorem g191_138 : G d 191 138 ls st h Q ↔ GN d 191 138 ls h (pR st fun a r => ck (arr h a 9) (nx 141 ls (rv (hR h a 23) :: r) h)) Q := G_unf rfl rfl
theorem g191_141 : G d 191 141 ls st h Q ↔ GN d 191 141 ls h (ldR ls 0 fun a => nx 142 ls (.ref a :: st) h) Q := G_unf rfl rfl
theorem g191_142 : G d 191 142 ls st h Q ↔ GN d 191 142 ls h (pR st fun a r => ck (arr h a 9) (nx 145 ls (.int (hI h a 39) :: r) h)) Q := G_unf rfl rfl
theorem g191_145 : G d 191 145 ls st h Q ↔ GN d 191 145 ls h (p11 st fun v w r => nx 146 ls (v :: w :: v :: w :: r) h) Q := G_unf rfl rfl
set_option maxRecDepth 100000 in
theorem g191_146 : G d 191 146 ls st h Q ↔ GN d 191 146 ls h (pRI st fun a i r => br (a = 1000003) (ck (inb i (hS h).1) (nx 147 ls (.int ((hS h).2 i.toNatClampNeg) :: r) h)) (ck (arr h a 10 ∧ inb i (hLn h a)) (nx 147 ls (.int (hI h a i.toNatClampNeg) :: r) h))) Q := G_unf rfl rfl
set_option maxRecDepth 100000 in
theorem g191_147 : G d 191 147 ls st h Q ↔ GN d 191 147 ls h (nx 148 ls (.int (nI 1) :: st) h) Q := G_unf rfl rfl
set_option maxRecDepth 100000 in
theorem g191_148 : G d 191 148 ls st h Q ↔ GN d 191 148 ls h (pII st fun x y r => nx 149 ls (.int (x + y) :: r) h) Q := G_unf rfl rfl
set_option maxRecDepth 100000 in
theorem g191_149 : G d 191 149 ls st h Q ↔ GN d 191 149 ls h (pRII st fun a i x r => ck (arr h a 10 ∧ inb i (hLn h a)) (nx 150 ls r (sI h a i.toNatClampNeg x))) Q := G_unf rfl rfl
set_option maxRecDepth 100000 in
theorem g191_150 : G d 191 150 ls st h Q ↔ GN d 191 150 ls h (pE st (rtn none)) Q := G_unf rfl rfl
theorem g192_0 : G d 192 0 ls st h Q ↔ GN d 192 0 ls h (ldR ls 0 fun a => nx 1 ls (.ref a :: st) h) Q := G_unf rfl rfl
theorem g192_1 : G d 192 1 ls st h Q ↔ GN d 192 1 ls h (pR st fun a r => ck (arr h a 9) (nx 4 ls (.int (hI h a 4) :: r) h)) Q := G_unf rfl rfl
theorem g192_4 : G d 192 4 ls st h Q ↔ GN d 192 4 ls h (pI st fun x r => ck (1 < ls.length) (nx 5 (st1 ls 1 (.int x)) r h)) Q := G_unf rfl rfl
theorem g192_5 : G d 192 5 ls st h Q ↔ GN d 192 5 ls h (ldR ls 0 fun a => nx 6 ls (.ref a :: st) h) Q := G_unf rfl rfl
theorem g192_6 : G d 192 6 ls st h Q ↔ GN d 192 6 ls h (nx 7 ls (.int (nI 0) :: st) h) Q := G_unf rfl rfl
theorem g192_7 : G d 192 7 ls st h Q ↔ GN d 192 7 ls h (pA 1 st fun as r => pR r fun a r => ck (r.length ≤ 4 ∧ arr h a 9) (cll 183 (.ref a :: as) r)) Q := G_unf rfl rfl
theorem g192_10 : G d 192 10 ls st h Q ↔ GN d 192 10 ls h (pI st fun x r => br (¬ x = 0) (nx 14 ls r h) (nx 13 ls r h)) Q := G_unf rfl rfl
theorem g192_13 : G d 192 13 ls st h Q ↔ GN d 192 13 ls h (pE st (rtn none)) Q := G_unf rfl rfl
theorem g192_14 : G d 192 14 ls st h Q ↔ GN d 192 14 ls h (ldR ls 0 fun a => nx 15 ls (.ref a :: st) h) Q := G_unf rfl rfl
theorem g192_15 : G d 192 15 ls st h Q ↔ GN d 192 15 ls h (nx 16 ls (.int (nI 1) :: st) h) Q := G_unf rfl rfl
theorem g192_16 : G d 192 16 ls st h Q ↔ GN d 192 16 ls h (pA 1 st fun as r => pR r fun a r => ck (r.length ≤ 4 ∧ arr h a 9) (cll 187 (.ref a :: as) r)) Q := G_unf rfl rfl
theorem g192_19 : G d 192 19 ls st h Q ↔ GN d 192 19 ls h (pI st fun x r => ck (2 < ls.length) (nx 20 (st1 ls 2 (.int x)) r h)) Q := G_unf rfl rfl
theorem g192_20 : G d 192 20 ls st h Q ↔ GN d 192 20 ls h (ldR ls 0 fun a => nx 21 ls (.ref a :: st) h) Q := G_unf rfl rfl
theorem g192_21 : G d 192 21 ls st h Q ↔ GN d 192 21 ls h (nx 22 ls (.int (nI 0) :: st) h) Q := G_unf rfl rfl
theorem g192_22 : G d 192 22 ls st h Q ↔ GN d 192 22 ls h (pA 1 st fun as r => pR r fun a r => ck (r.length ≤ 4 ∧ arr h a 9) (cll 186 (.ref a :: as) r)) Q := G_unf rfl rfl
theorem g192_25 : G d 192 25 ls st h Q ↔ GN d 192 25 ls h (pI st fun x r => ck (3 < ls.length) (nx 26 (st1 ls 3 (.int x)) r h)) Q := G_unf rfl rfl
theorem g192_26 : G d 192 26 ls st h Q ↔ GN d 192 26 ls h (ldR ls 0 fun a => nx 27 ls (.ref a :: st) h) Q := G_unf rfl rfl
theorem g192_27 : G d 192 27 ls st h Q ↔ GN d 192 27 ls h (pR st fun a r => ck (arr h a 9) (nx 30 ls (.int (hI h a 8) :: r) h)) Q := G_unf rfl rfl
theorem g192_30 : G d 192 30 ls st h Q ↔ GN d 192 30 ls h (pI st fun x r => br (x ≤ 0) (nx 34 ls r h) (nx 33 ls r h)) Q := G_unf rfl rfl
theorem g192_33 : G d 192 33 ls st h Q ↔ GN d 192 33 ls h (pE st (rtn none)) Q := G_unf rfl rfl
theorem g192_34 : G d 192 34 ls st h Q ↔ GN d 192 34 ls h (nx 36 ls (.int (nI 96) :: st) h) Q := G_unf rfl rfl
theorem g192_36 : G d 192 36 ls st h Q ↔ GN d 192 36 ls h (ldR ls 0 fun a => nx 37 ls (.ref a :: st) h) Q := G_unf rfl rfl
theorem g192_37 : G d 192 37 ls st h Q ↔ GN d 192 37 ls h (pR st fun a r => ck (arr h a 9) (nx 40 ls (.int (hI h a 39) :: r) h)) Q := G_unf rfl rfl
theorem g192_40 : G d 192 40 ls st h Q ↔ GN d 192 40 ls h (pII st fun x y r => nx 41 ls (.int (x * y) :: r) h) Q := G_unf rfl rfl
theorem g192_41 : G d 192 41 ls st h Q ↔ GN d 192 41 ls h (nx 43 ls (.int (nI 12) :: st) h) Q := G_unf rfl rfl
theorem g192_43 : G d 192 43 ls st h Q ↔ GN d 192 43 ls h (ldI ls 2 fun x => nx 44 ls (.int x :: st) h) Q := G_unf rfl rfl
theorem g192_44 : G d 192 44 ls st h Q ↔ GN d 192 44 ls h (pII st fun x y r => nx 45 ls (.int (x * y) :: r) h) Q := G_unf rfl rfl
theorem g192_45 : G d 192 45 ls st h Q ↔ GN d 192 45 ls h (pII st fun x y r => nx 46 ls (.int (x + y) :: r) h) Q := G_unf rfl rfl
theorem g192_46 : G d 192 46 ls st h Q ↔ GN d 192 46 ls h (ldI ls 3 fun x => nx 47 ls (.int x :: st) h) Q := G_unf rfl rfl
theorem g192_47 : G d 192 47 ls st h Q ↔ GN d 192 47 ls h (pII st fun x y r => nx 48 ls (.int (x + y) :: r) h) Q := G_unf rfl rfl
theorem g192_48 : G d 192 48 ls st h Q ↔ GN d 192 48 ls h (pI st fun x r => ck (4 < ls.length) (nx 50 (st1 ls 4 (.int x)) r h)) Q := G_unf rfl rfl
theorem g192_50 : G d 192 50 ls st h Q ↔ GN d 192 50 ls h (ldR ls 0 fun a => nx 51 ls (.ref a :: st) h) Q := G_unf rfl rfl
theorem g192_51 : G d 192 51 ls st h Q ↔ GN d 192 51 ls h (pR st fun a r => ck (arr h a 9) (nx 54 ls (rv (hR h a 28) :: r) h)) Q := G_unf rfl rfl
theorem g192_54 : G d 192 54 ls st h Q ↔ GN d 192 54 ls h (ldI ls 4 fun x => nx 56 ls (.int x :: st) h) Q := G_unf rfl rfl
theorem g192_56 : G d 192 56 ls st h Q ↔ GN d 192 56 ls h (pRI st fun a i r => br (a = 1000003) (ck (inb i (hS h).1) (nx 57 ls (.int ((hS h).2 i.toNatClampNeg) :: r) h)) (ck (arr h a 10 ∧ inb i (hLn h a)) (nx 57 ls (.int (hI h a i.toNatClampNeg) :: r) h))) Q := G_unf rfl rfl
theorem g192_57 : G d 192 57 ls st h Q ↔ GN d 192 57 ls h (nx 58 ls (.int (-1) :: st) h) Q := G_unf rfl rfl
theorem g192_58 : G d 192 58 ls st h Q ↔ GN d 192 58 ls h (pII st fun x y r => br (¬ x = y) (nx 89 ls r h) (nx 61 ls r h)) Q := G_unf rfl rfl
theorem g192_61 : G d 192 61 ls st h Q ↔ GN d 192 61 ls h (ldR ls 0 fun a => nx 62 ls (.ref a :: st) h) Q := G_unf rfl rfl
theorem g192_62 : G d 192 62 ls st h Q ↔ GN d 192 62 ls h (pR st fun a r => ck (arr h a 9) (nx 65 ls (rv (hR h a 27) :: r) h)) Q := G_unf rfl rfl
theorem g192_65 : G d 192 65 ls st h Q ↔ GN d 192 65 ls h (ldR ls 0 fun a => nx 66 ls (.ref a :: st) h) Q := G_unf rfl rfl
theorem g192_66 : G d 192 66 ls st h Q ↔ GN d 192 66 ls h (pR st fun a r => ck (arr h a 9) (nx 69 ls (.int (hI h a 39) :: r) h)) Q := G_unf rfl rfl
theorem g192_69 : G d 192 69 ls st h Q ↔ GN d 192 69 ls h (pRI st fun a i r => br (a = 1000003) (ck (inb i (hS h).1) (nx 70 ls (.int ((hS h).2 i.toNatClampNeg) :: r) h)) (ck (arr h a 10 ∧ inb i (hLn h a)) (nx 70 ls (.int (hI h a i.toNatClampNeg) :: r) h))) Q := G_unf rfl rfl
theorem g192_70 : G d 192 70 ls st h Q ↔ GN d 192 70 ls h (ldR ls 0 fun a => nx 71 ls (.ref a :: st) h) Q := G_unf rfl rfl
theorem g192_71 : G d 192 71 ls st h Q ↔ GN d 192 71 ls h (pR st fun a r => ck (arr h a 9) (nx 74 ls (rv (hR h a 29) :: r) h)) Q := G_unf rfl rfl
theorem g192_74 : G d 192 74 ls st h Q ↔ GN d 192 74 ls h (ldR ls 0 fun a => nx 75 ls (.ref a :: st) h) Q := G_unf rfl rfl
theorem g192_75 : G d 192 75 ls st h Q ↔ GN d 192 75 ls h (pR st fun a r => ck (arr h a 9) (nx 78 ls (.int (hI h a 39) :: r) h)) Q := G_unf rfl rfl
theorem g192_78 : G d 192 78 ls st h Q ↔ GN d 192 78 ls h (pRI st fun a i r => br (a = 1000003) (ck (inb i (hS h).1) (nx 79 ls (.int ((hS h).2 i.toNatClampNeg) :: r) h)) (ck (arr h a 10 ∧ inb i (hLn h a)) (nx 79 ls (.int (hI h a i.toNatClampNeg) :: r) h))) Q := G_unf rfl rfl
theorem g192_79 : G d 192 79 ls st h Q ↔ GN d 192 79 ls h (pII st fun x y r => br (x < y) (nx 89 ls r h) (nx 82 ls r h)) Q := G_unf rfl rfl
theorem g192_82 : G d 192 82 ls st h Q ↔ GN d 192 82 ls h (ldR ls 0 fun a => nx 83 ls (.ref a :: st) h) Q := G_unf rfl rfl
theorem g192_83 : G d 192 83 ls st h Q ↔ GN d 192 83 ls h (nx 85 ls (.int (nI 6) :: st) h) Q := G_unf rfl rfl
theorem g192_85 : G d 192 85 ls st h Q ↔ GN d 192 85 ls h (ldI ls 1 fun x => nx 86 ls (.int x :: st) h) Q := G_unf rfl rfl
theorem g192_86 : G d 192 86 ls st h Q ↔ GN d 192 86 ls h (pA 2 st fun as r => pR r fun a r => ck (r.length ≤ 4 ∧ arr h a 9) (cll 160 (.ref a :: as) r)) Q := G_unf rfl rfl
theorem g192_89 : G d 192 89 ls st h Q ↔ GN d 192 89 ls h (ldR ls 0 fun a => nx 90 ls (.ref a :: st) h) Q := G_unf rfl rfl
theorem g192_90 : G d 192 90 ls st h Q ↔ GN d 192 90 ls h (pR st fun a r => ck (arr h a 9) (nx 93 ls (.int (hI h a 8) :: r) h)) Q := G_unf rfl rfl
theorem g192_93 : G d 192 93 ls st h Q ↔ GN d 192 93 ls h (pI st fun x r => br (x ≤ 0) (nx 97 ls r h) (nx 96 ls r h)) Q := G_unf rfl rfl
theorem g192_96 : G d 192 96 ls st h Q ↔ GN d 192 96 ls h (pE st (rtn none)) Q := G_unf rfl rfl
theorem g192_97 : G d 192 97 ls st h Q ↔ GN d 192 97 ls h (ldR ls 0 fun a => nx 98 ls (.ref a :: st) h) Q := G_unf rfl rfl
theorem g192_98 : G d 192 98 ls st h Q ↔ GN d 192 98 ls h (pA 0 st fun as r => pR r fun a r => ck (r.length ≤ 4 ∧ arr h a 9) (cll 164 (.ref a :: as) r)) Q := G_unf rfl rfl
theorem g192_101 : G d 192 101 ls st h Q ↔ GN d 192 101 ls h (ldR ls 0 fun a => nx 102 ls (.ref a :: st) h) Q := G_unf rfl rfl
theorem g192_102 : G d 192 102 ls st h Q ↔ GN d 192 102 ls h (nx 105 ls (.long (lN 1953066092) :: st) h) Q := G_unf rfl rfl
theorem g192_105 : G d 192 105 ls st h Q ↔ GN d 192 105 ls h (pA 1 st fun as r => pR r fun a r => ck (r.length ≤ 4 ∧ arr h a 9) (cll 184 (.ref a :: as) r)) Q := G_unf rfl rfl
theorem g192_108 : G d 192 108 ls st h Q ↔ GN d 192 108 ls h (ldR ls 0 fun a => nx 109 ls (.ref a :: st) h) Q := G_unf rfl rfl
theorem g192_109 : G d 192 109 ls st h Q ↔ GN d 192 109 ls h (nx 110 ls (.int (nI 0) :: st) h) Q := G_unf rfl rfl
theorem g192_110 : G d 192 110 ls st h Q ↔ GN d 192 110 ls h (nx 113 ls (.int (nI 999) :: st) h) Q := G_unf rfl rfl
theorem g192_113 : G d 192 113 ls st h Q ↔ GN d 192 113 ls h (pA 2 st fun as r => pR r fun a r => ck (r.length ≤ 4 ∧ arr h a 9) (cll 172 (.ref a :: as) r)) Q := G_unf rfl rfl
theorem g192_116 : G d 192 116 ls st h Q ↔ GN d 192 116 ls h (pI st fun x r => ck (5 < ls.length) (nx 118 (st1 ls 5 (.int x)) r h)) Q := G_unf rfl rfl
theorem g192_118 : G d 192 118 ls st h Q ↔ GN d 192 118 ls h (ldR ls 0 fun a => nx 119 ls (.ref a :: st) h) Q := G_unf rfl rfl
theorem g192_119 : G d 192 119 ls st h Q ↔ GN d 192 119 ls h (pR st fun a r => ck (arr h a 9) (nx 122 ls (.int (hI h a 8) :: r) h)) Q := G_unf rfl rfl
theorem g192_122 : G d 192 122 ls st h Q ↔ GN d 192 122 ls h (pI st fun x r => br (x ≤ 0) (nx 126 ls r h) (nx 125 ls r h)) Q := G_unf rfl rfl
theorem g192_125 : G d 192 125 ls st h Q ↔ GN d 192 125 ls h (pE st (rtn none)) Q := G_unf rfl rfl
theorem g192_126 : G d 192 126 ls st h Q ↔ GN d 192 126 ls h (ldR ls 0 fun a => nx 127 ls (.ref a :: st) h) Q := G_unf rfl rfl
theorem g192_127 : G d 192 127 ls st h Q ↔ GN d 192 127 ls h (pR st fun a r => ck (arr h a 9) (nx 130 ls (rv (hR h a 27) :: r) h)) Q := G_unf rfl rfl
theorem g192_130 : G d 192 130 ls st h Q ↔ GN d 192 130 ls h (ldR ls 0 fun a => nx 131 ls (.ref a :: st) h) Q := G_unf rfl rfl
theorem g192_131 : G d 192 131 ls st h Q ↔ GN d 192 131 ls h (pR st fun a r => ck (arr h a 9) (nx 134 ls (.int (hI h a 39) :: r) h)) Q := G_unf rfl rfl
theorem g192_134 : G d 192 134 ls st h Q ↔ GN d 192 134 ls h (p11 st fun v w r => nx 135 ls (v :: w :: v :: w :: r) h) Q := G_unf rfl rfl
theorem g192_135 : G d 192 135 ls st h Q ↔ GN d 192 135 ls h (pRI st fun a i r => br (a = 1000003) (ck (inb i (hS h).1) (nx 136 ls (.int ((hS h).2 i.toNatClampNeg) :: r) h)) (ck (arr h a 10 ∧ inb i (hLn h a)) (nx 136 ls (.int (hI h a i.toNatClampNeg) :: r) h))) Q := G_unf rfl rfl
theorem g192_136 : G d 192 136 ls st h Q ↔ GN d 192 136 ls h (ldR ls 0 fun a => nx 137 ls (.ref a :: st) h) Q := G_unf rfl rfl
theorem g192_137 : G d 192 137 ls st h Q ↔ GN d 192 137 ls h (pR st fun a r => ck (arr h a 9) (nx 140 ls (rv (hR h a 28) :: r) h)) Q := G_unf rfl rfl
theorem g192_140 : G d 192 140 ls st h Q ↔ GN d 192 140 ls h (ldI ls 4 fun x => nx 142 ls (.int x :: st) h) Q := G_unf rfl rfl
theorem g192_142 : G d 192 142 ls st h Q ↔ GN d 192 142 ls h (pRI st fun a i r => br (a = 1000003) (ck (inb i (hS h).1) (nx 143 ls (.int ((hS h).2 i.toNatClampNeg) :: r) h)) (ck (arr h a 10 ∧ inb i (hLn h a)) (nx 143 ls (.int (hI h a i.toNatClampNeg) :: r) h))) Q := G_unf rfl rfl
theorem g192_143 : G d 192 143 ls st h Q ↔ GN d 192 143 ls h (nx 144 ls (.int (-1) :: st) h) Q := G_unf rfl rfl
set_option maxRecDepth 100000 in
theorem g192_144 : G d 192 144 ls st h Q ↔ GN d 192 144 ls h (pII st fun x y r => br (¬ x = y) (nx 151 ls r h) (nx 147 ls r h)) Q := G_unf rfl rfl
set_option maxRecDepth 100000 in
theorem g192_147 : G d 192 147 ls st h Q ↔ GN d 192 147 ls h (nx 148 ls (.int (nI 1) :: st) h) Q := G_unf rfl rfl
set_option maxRecDepth 100000 in
theorem g192_148 : G d 192 148 ls st h Q ↔ GN d 192 148 ls h (nx 152 ls st h) Q := G_unf rfl rfl
set_option maxRecDepth 100000 in
theorem g192_151 : G d 192 151 ls st h Q ↔ GN d 192 151 ls h (nx 152 ls (.int (nI 0) :: st) h) Q := G_unf rfl rfl
set_option maxRecDepth 100000 in
theorem g192_152 : G d 192 152 ls st h Q ↔ GN d 192 152 ls h (pII st fun x y r => nx 153 ls (.int (x + y) :: r) h) Q := G_unf rfl rfl
set_option maxRecDepth 100000 in
theorem g192_153 : G d 192 153 ls st h Q ↔ GN d 192 153 ls h (pRII st fun a i x r => ck (arr h a 10 ∧ inb i (hLn h a)) (nx 154 ls r (sI h a i.toNatClampNeg x))) Q := G_unf rfl rfl
set_option maxRecDepth 100000 in
theorem g192_154 : G d 192 154 ls st h Q ↔ GN d 192 154 ls h (ldR ls 0 fun a => nx 155 ls (.ref a :: st) h) Q := G_unf rfl rfl
set_option maxRecDepth 100000 in
theorem g192_155 : G d 192 155 ls st h Q ↔ GN d 192 155 ls h (pR st fun a r => ck (arr h a 9) (nx 158 ls (rv (hR h a 28) :: r) h)) Q := G_unf rfl rfl
set_option maxRecDepth 100000 in
theorem g192_158 : G d 192 158 ls st h Q ↔ GN d 192 158 ls h (ldI ls 4 fun x => nx 160 ls (.int x :: st) h) Q := G_unf rfl rfl
set_option maxRecDepth 100000 in
theorem g192_160 : G d 192 160 ls st h Q ↔ GN d 192 160 ls h (ldI ls 5 fun x => nx 162 ls (.int x :: st) h) Q := G_unf rfl rfl
set_option maxRecDepth 100000 in
theorem g192_162 : G d 192 162 ls st h Q ↔ GN d 192 162 ls h (pRII st fun a i x r => ck (arr h a 10 ∧ inb i (hLn h a)) (nx 163 ls r (sI h a i.toNatClampNeg x))) Q := G_unf rfl rfl
set_option maxRecDepth 100000 in
theorem g192_163 : G d 192 163 ls st h Q ↔ GN d 192 163 ls h (pE st (rtn none)) Q := G_unf rfl rfl
theorem g193_0 : G d 193 0 ls st h Q ↔ GN d 193 0 ls h (ldR ls 0 fun a => nx 1 ls (.ref a :: st) h) Q := G_unf rfl rfl
theorem g193_1 : G d 193 1 ls st h Q ↔ GN d 193 1 ls h (ldR ls 0 fun a => nx 2 ls (.ref a :: st) h) Q := G_unf rfl rfl
theorem g193_2 : G d 193 2 ls st h Q ↔ GN d 193 2 ls h (pR st fun a r => ck (arr h a 9) (nx 5 ls (rv (hR h a 30) :: r) h)) Q := G_unf rfl rfl
theorem g193_5 : G d 193 5 ls st h Q ↔ GN d 193 5 ls h (ldR ls 0 fun a => nx 6 ls (.ref a :: st) h) Q := G_unf rfl rfl
theorem g193_6 : G d 193 6 ls st h Q ↔ GN d 193 6 ls h (pR st fun a r => ck (arr h a 9) (nx 9 ls (.int (hI h a 39) :: r) h)) Q := G_unf rfl rfl
theorem g193_9 : G d 193 9 ls st h Q ↔ GN d 193 9 ls h (pRI st fun a i r => br (a = 1000003) (ck (inb i (hS h).1) (nx 10 ls (.int ((hS h).2 i.toNatClampNeg) :: r) h)) (ck (arr h a 10 ∧ inb i (hLn h a)) (nx 10 ls (.int (hI h a i.toNatClampNeg) :: r) h))) Q := G_unf rfl rfl
theorem g193_10 : G d 193 10 ls st h Q ↔ GN d 193 10 ls h (nx 11 ls (.int (-1) :: st) h) Q := G_unf rfl rfl
theorem g193_11 : G d 193 11 ls st h Q ↔ GN d 193 11 ls h (pII st fun x y r => br (x = y) (nx 18 ls r h) (nx 14 ls r h)) Q := G_unf rfl rfl
theorem g193_14 : G d 193 14 ls st h Q ↔ GN d 193 14 ls h (nx 15 ls (.int (nI 1) :: st) h) Q := G_unf rfl rfl
theorem g193_15 : G d 193 15 ls st h Q ↔ GN d 193 15 ls h (nx 19 ls st h) Q := G_unf rfl rfl
theorem g193_18 : G d 193 18 ls st h Q ↔ GN d 193 18 ls h (nx 19 ls (.int (nI 0) :: st) h) Q := G_unf rfl rfl
theorem g193_19 : G d 193 19 ls st h Q ↔ GN d 193 19 ls h (pA 1 st fun as r => pR r fun a r => ck (r.length ≤ 4 ∧ arr h a 9) (cll 183 (.ref a :: as) r)) Q := G_unf rfl rfl
theorem g193_22 : G d 193 22 ls st h Q ↔ GN d 193 22 ls h (pI st fun x r => br (¬ x = 0) (nx 26 ls r h) (nx 25 ls r h)) Q := G_unf rfl rfl
theorem g193_25 : G d 193 25 ls st h Q ↔ GN d 193 25 ls h (pE st (rtn none)) Q := G_unf rfl rfl
theorem g193_26 : G d 193 26 ls st h Q ↔ GN d 193 26 ls h (ldR ls 0 fun a => nx 27 ls (.ref a :: st) h) Q := G_unf rfl rfl
theorem g193_27 : G d 193 27 ls st h Q ↔ GN d 193 27 ls h (pR st fun a r => ck (arr h a 9) (nx 30 ls (rv (hR h a 30) :: r) h)) Q := G_unf rfl rfl
theorem g193_30 : G d 193 30 ls st h Q ↔ GN d 193 30 ls h (ldR ls 0 fun a => nx 31 ls (.ref a :: st) h) Q := G_unf rfl rfl
theorem g193_31 : G d 193 31 ls st h Q ↔ GN d 193 31 ls h (pR st fun a r => ck (arr h a 9) (nx 34 ls (.int (hI h a 39) :: r) h)) Q := G_unf rfl rfl
theorem g193_34 : G d 193 34 ls st h Q ↔ GN d 193 34 ls h (ldR ls 0 fun a => nx 35 ls (.ref a :: st) h) Q := G_unf rfl rfl
theorem g193_35 : G d 193 35 ls st h Q ↔ GN d 193 35 ls h (pR st fun a r => ck (arr h a 9) (nx 38 ls (.int (hI h a 38) :: r) h)) Q := G_unf rfl rfl
theorem g193_38 : G d 193 38 ls st h Q ↔ GN d 193 38 ls h (pRII st fun a i x r => ck (arr h a 10 ∧ inb i (hLn h a)) (nx 39 ls r (sI h a i.toNatClampNeg x))) Q := G_unf rfl rfl
theorem g193_39 : G d 193 39 ls st h Q ↔ GN d 193 39 ls h (ldR ls 0 fun a => nx 40 ls (.ref a :: st) h) Q := G_unf rfl rfl
theorem g193_40 : G d 193 40 ls st h Q ↔ GN d 193 40 ls h (nx 41 ls (.int (nI 0) :: st) h) Q := G_unf rfl rfl
theorem g193_41 : G d 193 41 ls st h Q ↔ GN d 193 41 ls h (pA 1 st fun as r => pR r fun a r => ck (r.length ≤ 4 ∧ arr h a 9) (cll 182 (.ref a :: as) r)) Q := G_unf rfl rfl
theorem g193_44 : G d 193 44 ls st h Q ↔ GN d 193 44 ls h (ldR ls 0 fun a => nx 45 ls (.ref a :: st) h) Q := G_unf rfl rfl
theorem g193_45 : G d 193 45 ls st h Q ↔ GN d 193 45 ls h (pR st fun a r => ck (arr h a 9) (nx 48 ls (rv (hR h a 31) :: r) h)) Q := G_unf rfl rfl
theorem g193_48 : G d 193 48 ls st h Q ↔ GN d 193 48 ls h (ldR ls 0 fun a => nx 49 ls (.ref a :: st) h) Q := G_unf rfl rfl
theorem g193_49 : G d 193 49 ls st h Q ↔ GN d 193 49 ls h (pR st fun a r => ck (arr h a 9) (nx 52 ls (.int (hI h a 39) :: r) h)) Q := G_unf rfl rfl
theorem g193_52 : G d 193 52 ls st h Q ↔ GN d 193 52 ls h (ldR ls 0 fun a => nx 53 ls (.ref a :: st) h) Q := G_unf rfl rfl
theorem g193_53 : G d 193 53 ls st h Q ↔ GN d 193 53 ls h (pR st fun a r => ck (arr h a 9) (nx 56 ls (.int (hI h a 38) :: r) h)) Q := G_unf rfl rfl
theorem g193_56 : G d 193 56 ls st h Q ↔ GN d 193 56 ls h (pRII st fun a i x r => ck (arr h a 10 ∧ inb i (hLn h a)) (nx 57 ls r (sI h a i.toNatClampNeg x))) Q := G_unf rfl rfl
theorem g193_57 : G d 193 57 ls st h Q ↔ GN d 193 57 ls h (pE st (rtn none)) Q := G_unf rfl rfl
theorem g194_0 : G d 194 0 ls st h Q ↔ GN d 194 0 ls h (ldR ls 0 fun a => nx 1 ls (.ref a :: st) h) Q := G_unf rfl rfl
theorem g194_1 : G d 194 1 ls st h Q ↔ GN d 194 1 ls h (ldR ls 0 fun a => nx 2 ls (.ref a :: st) h) Q := G_unf rfl rfl
theorem g194_2 : G d 194 2 ls st h Q ↔ GN d 194 2 ls h (pR st fun a r => ck (arr h a 9) (nx 5 ls (rv (hR h a 32) :: r) h)) Q := G_unf rfl rfl
theorem g194_5 : G d 194 5 ls st h Q ↔ GN d 194 5 ls h (ldR ls 0 fun a => nx 6 ls (.ref a :: st) h) Q := G_unf rfl rfl
theorem g194_6 : G d 194 6 ls st h Q ↔ GN d 194 6 ls h (pR st fun a r => ck (arr h a 9) (nx 9 ls (.int (hI h a 39) :: r) h)) Q := G_unf rfl rfl
theorem g194_9 : G d 194 9 ls st h Q ↔ GN d 194 9 ls h (pRI st fun a i r => br (a = 1000003) (ck (inb i (hS h).1) (nx 10 ls (.int ((hS h).2 i.toNatClampNeg) :: r) h)) (ck (arr h a 10 ∧ inb i (hLn h a)) (nx 10 ls (.int (hI h a i.toNatClampNeg) :: r) h))) Q := G_unf rfl rfl
theorem g194_10 : G d 194 10 ls st h Q ↔ GN d 194 10 ls h (nx 11 ls (.int (-1) :: st) h) Q := G_unf rfl rfl
theorem g194_11 : G d 194 11 ls st h Q ↔ GN d 194 11 ls h (pII st fun x y r => br (x = y) (nx 18 ls r h) (nx 14 ls r h)) Q := G_unf rfl rfl
theorem g194_14 : G d 194 14 ls st h Q ↔ GN d 194 14 ls h (nx 15 ls (.int (nI 1) :: st) h) Q := G_unf rfl rfl
theorem g194_15 : G d 194 15 ls st h Q ↔ GN d 194 15 ls h (nx 19 ls st h) Q := G_unf rfl rfl
theorem g194_18 : G d 194 18 ls st h Q ↔ GN d 194 18 ls h (nx 19 ls (.int (nI 0) :: st) h) Q := G_unf rfl rfl
theorem g194_19 : G d 194 19 ls st h Q ↔ GN d 194 19 ls h (pA 1 st fun as r => pR r fun a r => ck (r.length ≤ 4 ∧ arr h a 9) (cll 183 (.ref a :: as) r)) Q := G_unf rfl rfl
theorem g194_22 : G d 194 22 ls st h Q ↔ GN d 194 22 ls h (pI st fun x r => br (¬ x = 0) (nx 26 ls r h) (nx 25 ls r h)) Q := G_unf rfl rfl
theorem g194_25 : G d 194 25 ls st h Q ↔ GN d 194 25 ls h (pE st (rtn none)) Q := G_unf rfl rfl
theorem g194_26 : G d 194 26 ls st h Q ↔ GN d 194 26 ls h (ldR ls 0 fun a => nx 27 ls (.ref a :: st) h) Q := G_unf rfl rfl
theorem g194_27 : G d 194 27 ls st h Q ↔ GN d 194 27 ls h (pR st fun a r => ck (arr h a 9) (nx 30 ls (rv (hR h a 32) :: r) h)) Q := G_unf rfl rfl
theorem g194_30 : G d 194 30 ls st h Q ↔ GN d 194 30 ls h (ldR ls 0 fun a => nx 31 ls (.ref a :: st) h) Q := G_unf rfl rfl
theorem g194_31 : G d 194 31 ls st h Q ↔ GN d 194 31 ls h (pR st fun a r => ck (arr h a 9) (nx 34 ls (.int (hI h a 39) :: r) h)) Q := G_unf rfl rfl
theorem g194_34 : G d 194 34 ls st h Q ↔ GN d 194 34 ls h (ldR ls 0 fun a => nx 35 ls (.ref a :: st) h) Q := G_unf rfl rfl
theorem g194_35 : G d 194 35 ls st h Q ↔ GN d 194 35 ls h (pR st fun a r => ck (arr h a 9) (nx 38 ls (.int (hI h a 38) :: r) h)) Q := G_unf rfl rfl
theorem g194_38 : G d 194 38 ls st h Q ↔ GN d 194 38 ls h (pRII st fun a i x r => ck (arr h a 10 ∧ inb i (hLn h a)) (nx 39 ls r (sI h a i.toNatClampNeg x))) Q := G_unf rfl rfl
theorem g194_39 : G d 194 39 ls st h Q ↔ GN d 194 39 ls h (ldR ls 0 fun a => nx 40 ls (.ref a :: st) h) Q := G_unf rfl rfl
theorem g194_40 : G d 194 40 ls st h Q ↔ GN d 194 40 ls h (nx 41 ls (.int (nI 1) :: st) h) Q := G_unf rfl rfl
theorem g194_41 : G d 194 41 ls st h Q ↔ GN d 194 41 ls h (pA 1 st fun as r => pR r fun a r => ck (r.length ≤ 4 ∧ arr h a 9) (cll 182 (.ref a :: as) r)) Q := G_unf rfl rfl
theorem g194_44 : G d 194 44 ls st h Q ↔ GN d 194 44 ls h (ldR ls 0 fun a => nx 45 ls (.ref a :: st) h) Q := G_unf rfl rfl
theorem g194_45 : G d 194 45 ls st h Q ↔ GN d 194 45 ls h (pR st fun a r => ck (arr h a 9) (nx 48 ls (rv (hR h a 33) :: r) h)) Q := G_unf rfl rfl
theorem g194_48 : G d 194 48 ls st h Q ↔ GN d 194 48 ls h (ldR ls 0 fun a => nx 49 ls (.ref a :: st) h) Q := G_unf rfl rfl
theorem g194_49 : G d 194 49 ls st h Q ↔ GN d 194 49 ls h (pR st fun a r => ck (arr h a 9) (nx 52 ls (.int (hI h a 39) :: r) h)) Q := G_unf rfl rfl
theorem g194_52 : G d 194 52 ls st h Q ↔ GN d 194 52 ls h (ldR ls 0 fun a => nx 53 ls (.ref a :: st) h) Q := G_unf rfl rfl
theorem g194_53 : G d 194 53 ls st h Q ↔ GN d 194 53 ls h (pR st fun a r => ck (arr h a 9) (nx 56 ls (.int (hI h a 38) :: r) h)) Q := G_unf rfl rfl
theorem g194_56 : G d 194 56 ls st h Q ↔ GN d 194 56 ls h (pRII st fun a i x r => ck (arr h a 10 ∧ inb i (hLn h a)) (nx 57 ls r (sI h a i.toNatClampNeg x))) Q := G_unf rfl rfl
theorem g194_57 : G d 194 57 ls st h Q ↔ GN d 194 57 ls h (pE st (rtn none)) Q := G_unf rfl rfl
theorem g195_0 : G d 195 0 ls st h Q ↔ GN d 195 0 ls h (ldR ls 0 fun a => nx 1 ls (.ref a :: st) h) Q := G_unf rfl rfl
theorem g195_1 : G d 195 1 ls st h Q ↔ GN d 195 1 ls h (ldR ls 0 fun a => nx 2 ls (.ref a :: st) h) Q := G_unf rfl rfl
theorem g195_2 : G d 195 2 ls st h Q ↔ GN d 195 2 ls h (pR st fun a r => ck (arr h a 9) (nx 5 ls (rv (hR h a 27) :: r) h)) Q := G_unf rfl rfl
theorem g195_5 : G d 195 5 ls st h Q ↔ GN d 195 5 ls h (ldR ls 0 fun a => nx 6 ls (.ref a :: st) h) Q := G_unf rfl rfl
theorem g195_6 : G d 195 6 ls st h Q ↔ GN d 195 6 ls h (pR st fun a r => ck (arr h a 9) (nx 9 ls (.int (hI h a 39) :: r) h)) Q := G_unf rfl rfl
theorem g195_9 : G d 195 9 ls st h Q ↔ GN d 195 9 ls h (pRI st fun a i r => br (a = 1000003) (ck (inb i (hS h).1) (nx 10 ls (.int ((hS h).2 i.toNatClampNeg) :: r) h)) (ck (arr h a 10 ∧ inb i (hLn h a)) (nx 10 ls (.int (hI h a i.toNatClampNeg) :: r) h))) Q := G_unf rfl rfl
theorem g195_10 : G d 195 10 ls st h Q ↔ GN d 195 10 ls h (pI st fun x r => br (x ≤ 0) (nx 17 ls r h) (nx 13 ls r h)) Q := G_unf rfl rfl
theorem g195_13 : G d 195 13 ls st h Q ↔ GN d 195 13 ls h (nx 14 ls (.int (nI 1) :: st) h) Q := G_unf rfl rfl
theorem g195_14 : G d 195 14 ls st h Q ↔ GN d 195 14 ls h (nx 18 ls st h) Q := G_unf rfl rfl
theorem g195_17 : G d 195 17 ls st h Q ↔ GN d 195 17 ls h (nx 18 ls (.int (nI 0) :: st) h) Q := G_unf rfl rfl
theorem g195_18 : G d 195 18 ls st h Q ↔ GN d 195 18 ls h (pA 1 st fun as r => pR r fun a r => ck (r.length ≤ 4 ∧ arr h a 9) (cll 183 (.ref a :: as) r)) Q := G_unf rfl rfl
theorem g195_21 : G d 195 21 ls st h Q ↔ GN d 195 21 ls h (pI st fun x r => br (¬ x = 0) (nx 25 ls r h) (nx 24 ls r h)) Q := G_unf rfl rfl
theorem g195_24 : G d 195 24 ls st h Q ↔ GN d 195 24 ls h (pE st (rtn none)) Q := G_unf rfl rfl
theorem g195_25 : G d 195 25 ls st h Q ↔ GN d 195 25 ls h (ldR ls 0 fun a => nx 26 ls (.ref a :: st) h) Q := G_unf rfl rfl
theorem g195_26 : G d 195 26 ls st h Q ↔ GN d 195 26 ls h (nx 27 ls (.int (nI 0) :: st) h) Q := G_unf rfl rfl
theorem g195_27 : G d 195 27 ls st h Q ↔ GN d 195 27 ls h (nx 29 ls (.int (nI 99) :: st) h) Q := G_unf rfl rfl
theorem g195_29 : G d 195 29 ls st h Q ↔ GN d 195 29 ls h (pA 2 st fun as r => pR r fun a r => ck (r.length ≤ 4 ∧ arr h a 9) (cll 172 (.ref a :: as) r)) Q := G_unf rfl rfl
theorem g195_32 : G d 195 32 ls st h Q ↔ GN d 195 32 ls h (pI st fun x r => ck (1 < ls.length) (nx 33 (st1 ls 1 (.int x)) r h)) Q := G_unf rfl rfl
theorem g195_33 : G d 195 33 ls st h Q ↔ GN d 195 33 ls h (ldR ls 0 fun a => nx 34 ls (.ref a :: st) h) Q := G_unf rfl rfl
theorem g195_34 : G d 195 34 ls st h Q ↔ GN d 195 34 ls h (pR st fun a r => ck (arr h a 9) (nx 37 ls (.int (hI h a 8) :: r) h)) Q := G_unf rfl rfl
theorem g195_37 : G d 195 37 ls st h Q ↔ GN d 195 37 ls h (pI st fun x r => br (¬ x = 0) (nx 50 ls r h) (nx 40 ls r h)) Q := G_unf rfl rfl
theorem g195_40 : G d 195 40 ls st h Q ↔ GN d 195 40 ls h (ldR ls 0 fun a => nx 41 ls (.ref a :: st) h) Q := G_unf rfl rfl
theorem g195_41 : G d 195 41 ls st h Q ↔ GN d 195 41 ls h (pR st fun a r => ck (arr h a 9) (nx 44 ls (rv (hR h a 29) :: r) h)) Q := G_unf rfl rfl
theorem g195_44 : G d 195 44 ls st h Q ↔ GN d 195 44 ls h (ldR ls 0 fun a => nx 45 ls (.ref a :: st) h) Q := G_unf rfl rfl
theorem g195_45 : G d 195 45 ls st h Q ↔ GN d 195 45 ls h (pR st fun a r => ck (arr h a 9) (nx 48 ls (.int (hI h a 39) :: r) h)) Q := G_unf rfl rfl
theorem g195_48 : G d 195 48 ls st h Q ↔ GN d 195 48 ls h (ldI ls 1 fun x => nx 49 ls (.int x :: st) h) Q := G_unf rfl rfl
theorem g195_49 : G d 195 49 ls st h Q ↔ GN d 195 49 ls h (pRII st fun a i x r => ck (arr h a 10 ∧ inb i (hLn h a)) (nx 50 ls r (sI h a i.toNatClampNeg x))) Q := G_unf rfl rfl
theorem g195_50 : G d 195 50 ls st h Q ↔ GN d 195 50 ls h (pE st (rtn none)) Q := G_unf rfl rfl
theorem g196_0 : G d 196 0 ls st h Q ↔ GN d 196 0 ls h (ldR ls 0 fun a => nx 1 ls (.ref a :: st) h) Q := G_unf rfl rfl
theorem g196_1 : G d 196 1 ls st h Q ↔ GN d 196 1 ls h (pA 0 st fun as r => pR r fun a r => ck (r.length ≤ 4 ∧ arr h a 9) (cll 163 (.ref a :: as) r)) Q := G_unf rfl rfl
theorem g196_4 : G d 196 4 ls st h Q ↔ GN d 196 4 ls h (ldR ls 0 fun a => nx 5 ls (.ref a :: st) h) Q := G_unf rfl rfl
theorem g196_5 : G d 196 5 ls st h Q ↔ GN d 196 5 ls h (pR st fun a r => ck (arr h a 9) (nx 8 ls (.int (hI h a 8) :: r) h)) Q := G_unf rfl rfl
theorem g196_8 : G d 196 8 ls st h Q ↔ GN d 196 8 ls h (pI st fun x r => br (x ≤ 0) (nx 12 ls r h) (nx 11 ls r h)) Q := G_unf rfl rfl
theorem g196_11 : G d 196 11 ls st h Q ↔ GN d 196 11 ls h (pE st (rtn none)) Q := G_unf rfl rfl
theorem g196_12 : G d 196 12 ls st h Q ↔ GN d 196 12 ls h (ldR ls 0 fun a => nx 13 ls (.ref a :: st) h) Q := G_unf rfl rfl
theorem g196_13 : G d 196 13 ls st h Q ↔ GN d 196 13 ls h (nx 16 ls (.long (lN 1717658484) :: st) h) Q := G_unf rfl rfl
theorem g196_16 : G d 196 16 ls st h Q ↔ GN d 196 16 ls h (pA 1 st fun as r => pR r fun a r => ck (r.length ≤ 4 ∧ arr h a 9) (cll 166 (.ref a :: as) r)) Q := G_unf rfl rfl
theorem g196_19 : G d 196 19 ls st h Q ↔ GN d 196 19 ls h (pI st fun x r => br (x = 0) (nx 29 ls r h) (nx 22 ls r h)) Q := G_unf rfl rfl
theorem g196_22 : G d 196 22 ls st h Q ↔ GN d 196 22 ls h (ldR ls 0 fun a => nx 23 ls (.ref a :: st) h) Q := G_unf rfl rfl
theorem g196_23 : G d 196 23 ls st h Q ↔ GN d 196 23 ls h (pA 0 st fun as r => pR r fun a r => ck (r.length ≤ 4 ∧ arr h a 9) (cll 188 (.ref a :: as) r)) Q := G_unf rfl rfl
theorem g196_26 : G d 196 26 ls st h Q ↔ GN d 196 26 ls h (nx 157 ls st h) Q := G_unf rfl rfl
theorem g196_29 : G d 196 29 ls st h Q ↔ GN d 196 29 ls h (ldR ls 0 fun a => nx 30 ls (.ref a :: st) h) Q := G_unf rfl rfl
theorem g196_30 : G d 196 30 ls st h Q ↔ GN d 196 30 ls h (nx 33 ls (.long (lN 1920298085) :: st) h) Q := G_unf rfl rfl
theorem g196_33 : G d 196 33 ls st h Q ↔ GN d 196 33 ls h (pA 1 st fun as r => pR r fun a r => ck (r.length ≤ 4 ∧ arr h a 9) (cll 166 (.ref a :: as) r)) Q := G_unf rfl rfl
theorem g196_36 : G d 196 36 ls st h Q ↔ GN d 196 36 ls h (pI st fun x r => br (x = 0) (nx 46 ls r h) (nx 39 ls r h)) Q := G_unf rfl rfl
theorem g196_39 : G d 196 39 ls st h Q ↔ GN d 196 39 ls h (ldR ls 0 fun a => nx 40 ls (.ref a :: st) h) Q := G_unf rfl rfl
theorem g196_40 : G d 196 40 ls st h Q ↔ GN d 196 40 ls h (pA 0 st fun as r => pR r fun a r => ck (r.length ≤ 4 ∧ arr h a 9) (cll 189 (.ref a :: as) r)) Q := G_unf rfl rfl
theorem g196_43 : G d 196 43 ls st h Q ↔ GN d 196 43 ls h (nx 157 ls st h) Q := G_unf rfl rfl
theorem g196_46 : G d 196 46 ls st h Q ↔ GN d 196 46 ls h (ldR ls 0 fun a => nx 47 ls (.ref a :: st) h) Q := G_unf rfl rfl
theorem g196_47 : G d 196 47 ls st h Q ↔ GN d 196 47 ls h (nx 50 ls (.long (lN 123581014175598) :: st) h) Q := G_unf rfl rfl
theorem g196_50 : G d 196 50 ls st h Q ↔ GN d 196 50 ls h (pA 1 st fun as r => pR r fun a r => ck (r.length ≤ 4 ∧ arr h a 9) (cll 166 (.ref a :: as) r)) Q := G_unf rfl rfl
theorem g196_53 : G d 196 53 ls st h Q ↔ GN d 196 53 ls h (pI st fun x r => br (x = 0) (nx 63 ls r h) (nx 56 ls r h)) Q := G_unf rfl rfl
theorem g196_56 : G d 196 56 ls st h Q ↔ GN d 196 56 ls h (ldR ls 0 fun a => nx 57 ls (.ref a :: st) h) Q := G_unf rfl rfl
theorem g196_57 : G d 196 57 ls st h Q ↔ GN d 196 57 ls h (pA 0 st fun as r => pR r fun a r => ck (r.length ≤ 4 ∧ arr h a 9) (cll 190 (.ref a :: as) r)) Q := G_unf rfl rfl
theorem g196_60 : G d 196 60 ls st h Q ↔ GN d 196 60 ls h (nx 157 ls st h) Q := G_unf rfl rfl
theorem g196_63 : G d 196 63 ls st h Q ↔ GN d 196 63 ls h (ldR ls 0 fun a => nx 64 ls (.ref a :: st) h) Q := G_unf rfl rfl
theorem g196_64 : G d 196 64 ls st h Q ↔ GN d 196 64 ls h (nx 67 ls (.long (lN 469852583027) :: st) h) Q := G_unf rfl rfl
theorem g196_67 : G d 196 67 ls st h Q ↔ GN d 196 67 ls h (pA 1 st fun as r => pR r fun a r => ck (r.length ≤ 4 ∧ arr h a 9) (cll 166 (.ref a :: as) r)) Q := G_unf rfl rfl
theorem g196_70 : G d 196 70 ls st h Q ↔ GN d 196 70 ls h (pI st fun x r => br (x = 0) (nx 80 ls r h) (nx 73 ls r h)) Q := G_unf rfl rfl
theorem g196_73 : G d 196 73 ls st h Q ↔ GN d 196 73 ls h (ldR ls 0 fun a => nx 74 ls (.ref a :: st) h) Q := G_unf rfl rfl
theorem g196_74 : G d 196 74 ls st h Q ↔ GN d 196 74 ls h (pA 0 st fun as r => pR r fun a r => ck (r.length ≤ 4 ∧ arr h a 9) (cll 191 (.ref a :: as) r)) Q := G_unf rfl rfl
theorem g196_77 : G d 196 77 ls st h Q ↔ GN d 196 77 ls h (nx 157 ls st h) Q := G_unf rfl rfl
theorem g196_80 : G d 196 80 ls st h Q ↔ GN d 196 80 ls h (ldR ls 0 fun a => nx 81 ls (.ref a :: st) h) Q := G_unf rfl rfl
theorem g196_81 : G d 196 81 ls st h Q ↔ GN d 196 81 ls h (nx 84 ls (.long (lN 30515173109162853) :: st) h) Q := G_unf rfl rfl
theorem g196_84 : G d 196 84 ls st h Q ↔ GN d 196 84 ls h (pA 1 st fun as r => pR r fun a r => ck (r.length ≤ 4 ∧ arr h a 9) (cll 166 (.ref a :: as) r)) Q := G_unf rfl rfl
theorem g196_87 : G d 196 87 ls st h Q ↔ GN d 196 87 ls h (pI st fun x r => br (x = 0) (nx 97 ls r h) (nx 90 ls r h)) Q := G_unf rfl rfl
theorem g196_90 : G d 196 90 ls st h Q ↔ GN d 196 90 ls h (ldR ls 0 fun a => nx 91 ls (.ref a :: st) h) Q := G_unf rfl rfl
theorem g196_91 : G d 196 91 ls st h Q ↔ GN d 196 91 ls h (pA 0 st fun as r => pR r fun a r => ck (r.length ≤ 4 ∧ arr h a 9) (cll 192 (.ref a :: as) r)) Q := G_unf rfl rfl
theorem g196_94 : G d 196 94 ls st h Q ↔ GN d 196 94 ls h (nx 157 ls st h) Q := G_unf rfl rfl
theorem g196_97 : G d 196 97 ls st h Q ↔ GN d 196 97 ls h (ldR ls 0 fun a => nx 98 ls (.ref a :: st) h) Q := G_unf rfl rfl
theorem g196_98 : G d 196 98 ls st h Q ↔ GN d 196 98 ls h (nx 101 ls (.long (lN 482955846501) :: st) h) Q := G_unf rfl rfl
theorem g196_101 : G d 196 101 ls st h Q ↔ GN d 196 101 ls h (pA 1 st fun as r => pR r fun a r => ck (r.length ≤ 4 ∧ arr h a 9) (cll 166 (.ref a :: as) r)) Q := G_unf rfl rfl
theorem g196_104 : G d 196 104 ls st h Q ↔ GN d 196 104 ls h (pI st fun x r => br (x = 0) (nx 114 ls r h) (nx 107 ls r h)) Q := G_unf rfl rfl
theorem g196_107 : G d 196 107 ls st h Q ↔ GN d 196 107 ls h (ldR ls 0 fun a => nx 108 ls (.ref a :: st) h) Q := G_unf rfl rfl
theorem g196_108 : G d 196 108 ls st h Q ↔ GN d 196 108 ls h (pA 0 st fun as r => pR r fun a r => ck (r.length ≤ 4 ∧ arr h a 9) (cll 193 (.ref a :: as) r)) Q := G_unf rfl rfl
theorem g196_111 : G d 196 111 ls st h Q ↔ GN d 196 111 ls h (nx 157 ls st h) Q := G_unf rfl rfl
theorem g196_114 : G d 196 114 ls st h Q ↔ GN d 196 114 ls h (ldR ls 0 fun a => nx 115 ls (.ref a :: st) h) Q := G_unf rfl rfl
theorem g196_115 : G d 196 115 ls st h Q ↔ GN d 196 115 ls h (nx 118 ls (.long (lN 499917810803) :: st) h) Q := G_unf rfl rfl
theorem g196_118 : G d 196 118 ls st h Q ↔ GN d 196 118 ls h (pA 1 st fun as r => pR r fun a r => ck (r.length ≤ 4 ∧ arr h a 9) (cll 166 (.ref a :: as) r)) Q := G_unf rfl rfl
theorem g196_121 : G d 196 121 ls st h Q ↔ GN d 196 121 ls h (pI st fun x r => br (x = 0) (nx 131 ls r h) (nx 124 ls r h)) Q := G_unf rfl rfl
theorem g196_124 : G d 196 124 ls st h Q ↔ GN d 196 124 ls h (ldR ls 0 fun a => nx 125 ls (.ref a :: st) h) Q := G_unf rfl rfl
theorem g196_125 : G d 196 125 ls st h Q ↔ GN d 196 125 ls h (pA 0 st fun as r => pR r fun a r => ck (r.length ≤ 4 ∧ arr h a 9) (cll 194 (.ref a :: as) r)) Q := G_unf rfl rfl
theorem g196_128 : G d 196 128 ls st h Q ↔ GN d 196 128 ls h (nx 157 ls st h) Q := G_unf rfl rfl
theorem g196_131 : G d 196 131 ls st h Q ↔ GN d 196 131 ls h (ldR ls 0 fun a => nx 132 ls (.ref a :: st) h) Q := G_unf rfl rfl
theorem g196_132 : G d 196 132 ls st h Q ↔ GN d 196 132 ls h (nx 135 ls (.long (lN 495874696043) :: st) h) Q := G_unf rfl rfl
theorem g196_135 : G d 196 135 ls st h Q ↔ GN d 196 135 ls h (pA 1 st fun as r => pR r fun a r => ck (r.length ≤ 4 ∧ arr h a 9) (cll 166 (.ref a :: as) r)) Q := G_unf rfl rfl
theorem g196_138 : G d 196 138 ls st h Q ↔ GN d 196 138 ls h (pI st fun x r => br (x = 0) (nx 148 ls r h) (nx 141 ls r h)) Q := G_unf rfl rfl
theorem g196_141 : G d 196 141 ls st h Q ↔ GN d 196 141 ls h (ldR ls 0 fun a => nx 142 ls (.ref a :: st) h) Q := G_unf rfl rfl
theorem g196_142 : G d 196 142 ls st h Q ↔ GN d 196 142 ls h (pA 0 st fun as r => pR r fun a r => ck (r.length ≤ 4 ∧ arr h a 9) (cll 195 (.ref a :: as) r)) Q := G_unf rfl rfl
theorem g196_145 : G d 196 145 ls st h Q ↔ GN d 196 145 ls h (nx 157 ls st h) Q := G_unf rfl rfl
theorem g196_148 : G d 196 148 ls st h Q ↔ GN d 196 148 ls h (ldR ls 0 fun a => nx 149 ls (.ref a :: st) h) Q := G_unf rfl rfl
theorem g196_149 : G d 196 149 ls st h Q ↔ GN d 196 149 ls h (nx 150 ls (.int (nI 1) :: st) h) Q := G_unf rfl rfl
theorem g196_150 : G d 196 150 ls st h Q ↔ GN d 196 150 ls h (ldR ls 0 fun a => nx 151 ls (.ref a :: st) h) Q := G_unf rfl rfl
theorem g196_151 : G d 196 151 ls st h Q ↔ GN d 196 151 ls h (pR st fun a r => ck (arr h a 9) (nx 154 ls (.int (hI h a 4) :: r) h)) Q := G_unf rfl rfl
theorem g196_154 : G d 196 154 ls st h Q ↔ GN d 196 154 ls h (pA 2 st fun as r => pR r fun a r => ck (r.length ≤ 4 ∧ arr h a 9) (cll 160 (.ref a :: as) r)) Q := G_unf rfl rfl
theorem g196_157 : G d 196 157 ls st h Q ↔ GN d 196 157 ls h (pE st (rtn none)) Q := G_unf rfl rfl
theorem g197_0 : G d 197 0 ls st h Q ↔ GN d 197 0 ls h (ldR ls 0 fun a => nx 1 ls (.ref a :: st) h) Q := G_unf rfl rfl
theorem g197_1 : G d 197 1 ls st h Q ↔ GN d 197 1 ls h (pA 0 st fun as r => pR r fun a r => ck (r.length ≤ 4 ∧ arr h a 9) (cll 163 (.ref a :: as) r)) Q := G_unf rfl rfl
theorem g197_4 : G d 197 4 ls st h Q ↔ GN d 197 4 ls h (ldR ls 0 fun a => nx 5 ls (.ref a :: st) h) Q := G_unf rfl rfl
theorem g197_5 : G d 197 5 ls st h Q ↔ GN d 197 5 ls h (pR st fun a r => ck (arr h a 9) (nx 8 ls (.int (hI h a 8) :: r) h)) Q := G_unf rfl rfl
theorem g197_8 : G d 197 8 ls st h Q ↔ GN d 197 8 ls h (pI st fun x r => br (x ≤ 0) (nx 12 ls r h) (nx 11 ls r h)) Q := G_unf rfl rfl
theorem g197_11 : G d 197 11 ls st h Q ↔ GN d 197 11 ls h (pE st (rtn none)) Q := G_unf rfl rfl
theorem g197_12 : G d 197 12 ls st h Q ↔ GN d 197 12 ls h (ldR ls 0 fun a => nx 13 ls (.ref a :: st) h) Q := G_unf rfl rfl
theorem g197_13 : G d 197 13 ls st h Q ↔ GN d 197 13 ls h (pR st fun a r => ck (arr h a 9) (nx 16 ls (.int (hI h a 5) :: r) h)) Q := G_unf rfl rfl
theorem g197_16 : G d 197 16 ls st h Q ↔ GN d 197 16 ls h (pI st fun x r => ck (2 < ls.length) (nx 17 (st1 ls 2 (.int x)) r h)) Q := G_unf rfl rfl
theorem g197_17 : G d 197 17 ls st h Q ↔ GN d 197 17 ls h (ldI ls 2 fun x => nx 18 ls (.int x :: st) h) Q := G_unf rfl rfl
theorem g197_18 : G d 197 18 ls st h Q ↔ GN d 197 18 ls h (ldR ls 0 fun a => nx 19 ls (.ref a :: st) h) Q := G_unf rfl rfl
theorem g197_19 : G d 197 19 ls st h Q ↔ GN d 197 19 ls h (pR st fun a r => ck (arr h a 9) (nx 22 ls (.int (hI h a 2) :: r) h)) Q := G_unf rfl rfl
theorem g197_22 : G d 197 22 ls st h Q ↔ GN d 197 22 ls h (pII st fun x y r => br (y ≤ x) (nx 53 ls r h) (nx 25 ls r h)) Q := G_unf rfl rfl
theorem g197_25 : G d 197 25 ls st h Q ↔ GN d 197 25 ls h (ldR ls 0 fun a => nx 26 ls (.ref a :: st) h) Q := G_unf rfl rfl
theorem g197_26 : G d 197 26 ls st h Q ↔ GN d 197 26 ls h (pR st fun a r => ck (arr h a 9) (nx 29 ls (rv (hR h a 0) :: r) h)) Q := G_unf rfl rfl
theorem g197_29 : G d 197 29 ls st h Q ↔ GN d 197 29 ls h (ldI ls 2 fun x => nx 30 ls (.int x :: st) h) Q := G_unf rfl rfl
theorem g197_30 : G d 197 30 ls st h Q ↔ GN d 197 30 ls h (pRI st fun a i r => br (a = 1000003) (ck (inb i (hS h).1) (nx 31 ls (.int ((hS h).2 i.toNatClampNeg) :: r) h)) (ck (arr h a 10 ∧ inb i (hLn h a)) (nx 31 ls (.int (hI h a i.toNatClampNeg) :: r) h))) Q := G_unf rfl rfl
theorem g197_31 : G d 197 31 ls st h Q ↔ GN d 197 31 ls h (nx 33 ls (.int (nI 32) :: st) h) Q := G_unf rfl rfl
theorem g197_33 : G d 197 33 ls st h Q ↔ GN d 197 33 ls h (pII st fun x y r => br (x = y) (nx 47 ls r h) (nx 36 ls r h)) Q := G_unf rfl rfl
theorem g197_36 : G d 197 36 ls st h Q ↔ GN d 197 36 ls h (ldR ls 0 fun a => nx 37 ls (.ref a :: st) h) Q := G_unf rfl rfl
theorem g197_37 : G d 197 37 ls st h Q ↔ GN d 197 37 ls h (pR st fun a r => ck (arr h a 9) (nx 40 ls (rv (hR h a 0) :: r) h)) Q := G_unf rfl rfl
theorem g197_40 : G d 197 40 ls st h Q ↔ GN d 197 40 ls h (ldI ls 2 fun x => nx 41 ls (.int x :: st) h) Q := G_unf rfl rfl
theorem g197_41 : G d 197 41 ls st h Q ↔ GN d 197 41 ls h (pRI st fun a i r => br (a = 1000003) (ck (inb i (hS h).1) (nx 42 ls (.int ((hS h).2 i.toNatClampNeg) :: r) h)) (ck (arr h a 10 ∧ inb i (hLn h a)) (nx 42 ls (.int (hI h a i.toNatClampNeg) :: r) h))) Q := G_unf rfl rfl
theorem g197_42 : G d 197 42 ls st h Q ↔ GN d 197 42 ls h (nx 44 ls (.int (nI 10) :: st) h) Q := G_unf rfl rfl
theorem g197_44 : G d 197 44 ls st h Q ↔ GN d 197 44 ls h (pII st fun x y r => br (¬ x = y) (nx 53 ls r h) (nx 47 ls r h)) Q := G_unf rfl rfl
theorem g197_47 : G d 197 47 ls st h Q ↔ GN d 197 47 ls h (ldI ls 2 fun x => nx 50 (st1 ls 2 (.int (x + (nI 1)))) st h) Q := G_unf rfl rfl
theorem g197_50 : G d 197 50 ls st h Q ↔ GN d 197 50 ls h (nx 17 ls st h) Q := G_unf rfl rfl
theorem g197_53 : G d 197 53 ls st h Q ↔ GN d 197 53 ls h (ldR ls 0 fun a => nx 54 ls (.ref a :: st) h) Q := G_unf rfl rfl
theorem g197_54 : G d 197 54 ls st h Q ↔ GN d 197 54 ls h (nx 56 ls (.int (nI 59) :: st) h) Q := G_unf rfl rfl
theorem g197_56 : G d 197 56 ls st h Q ↔ GN d 197 56 ls h (pA 1 st fun as r => pR r fun a r => ck (r.length ≤ 4 ∧ arr h a 9) (cll 165 (.ref a :: as) r)) Q := G_unf rfl rfl
theorem g197_59 : G d 197 59 ls st h Q ↔ GN d 197 59 ls h (pI st fun x r => br (x = 0) (nx 83 ls r h) (nx 62 ls r h)) Q := G_unf rfl rfl
theorem g197_62 : G d 197 62 ls st h Q ↔ GN d 197 62 ls h (ldI ls 1 fun x => nx 63 ls (.int x :: st) h) Q := G_unf rfl rfl
theorem g197_63 : G d 197 63 ls st h Q ↔ GN d 197 63 ls h (nx 65 ls (.int (nI 80) :: st) h) Q := G_unf rfl rfl
theorem g197_65 : G d 197 65 ls st h Q ↔ GN d 197 65 ls h (pII st fun x y r => br (¬ x = y) (nx 83 ls r h) (nx 68 ls r h)) Q := G_unf rfl rfl
theorem g197_68 : G d 197 68 ls st h Q ↔ GN d 197 68 ls h (ldI ls 2 fun x => nx 69 ls (.int x :: st) h) Q := G_unf rfl rfl
theorem g197_69 : G d 197 69 ls st h Q ↔ GN d 197 69 ls h (ldR ls 0 fun a => nx 70 ls (.ref a :: st) h) Q := G_unf rfl rfl
theorem g197_70 : G d 197 70 ls st h Q ↔ GN d 197 70 ls h (pR st fun a r => ck (arr h a 9) (nx 73 ls (.int (hI h a 2) :: r) h)) Q := G_unf rfl rfl
theorem g197_73 : G d 197 73 ls st h Q ↔ GN d 197 73 ls h (pII st fun x y r => br (y ≤ x) (nx 83 ls r h) (nx 76 ls r h)) Q := G_unf rfl rfl
theorem g197_76 : G d 197 76 ls st h Q ↔ GN d 197 76 ls h (ldR ls 0 fun a => nx 77 ls (.ref a :: st) h) Q := G_unf rfl rfl
theorem g197_77 : G d 197 77 ls st h Q ↔ GN d 197 77 ls h (nx 79 ls (.int (nI 6) :: st) h) Q := G_unf rfl rfl
theorem g197_79 : G d 197 79 ls st h Q ↔ GN d 197 79 ls h (ldI ls 2 fun x => nx 80 ls (.int x :: st) h) Q := G_unf rfl rfl
theorem g197_80 : G d 197 80 ls st h Q ↔ GN d 197 80 ls h (pA 2 st fun as r => pR r fun a r => ck (r.length ≤ 4 ∧ arr h a 9) (cll 160 (.ref a :: as) r)) Q := G_unf rfl rfl
theorem g197_83 : G d 197 83 ls st h Q ↔ GN d 197 83 ls h (ldR ls 0 fun a => nx 84 ls (.ref a :: st) h) Q := G_unf rfl rfl
theorem g197_84 : G d 197 84 ls st h Q ↔ GN d 197 84 ls h (nx 86 ls (.int (nI 59) :: st) h) Q := G_unf rfl rfl
theorem g197_86 : G d 197 86 ls st h Q ↔ GN d 197 86 ls h (pA 1 st fun as r => pR r fun a r => ck (r.length ≤ 4 ∧ arr h a 9) (cll 167 (.ref a :: as) r)) Q := G_unf rfl rfl
theorem g197_89 : G d 197 89 ls st h Q ↔ GN d 197 89 ls h (pE st (rtn none)) Q := G_unf rfl rfl
theorem g198_0 : G d 198 0 ls st h Q ↔ GN d 198 0 ls h (ldR ls 0 fun a => nx 1 ls (.ref a :: st) h) Q := G_unf rfl rfl
theorem g198_1 : G d 198 1 ls st h Q ↔ GN d 198 1 ls h (ldR ls 0 fun a => nx 2 ls (.ref a :: st) h) Q := G_unf rfl rfl
theorem g198_2 : G d 198 2 ls st h Q ↔ GN d 198 2 ls h (pR st fun a r => ck (arr h a 9) (nx 5 ls (.int (hI h a 1) :: r) h)) Q := G_unf rfl rfl
theorem g198_5 : G d 198 5 ls st h Q ↔ GN d 198 5 ls h (pRI st fun a x r => ck (arr h a 9) (nx 8 ls r (sI h a 2 x))) Q := G_unf rfl rfl
theorem g198_8 : G d 198 8 ls st h Q ↔ GN d 198 8 ls h (ldR ls 0 fun a => nx 9 ls (.ref a :: st) h) Q := G_unf rfl rfl
theorem g198_9 : G d 198 9 ls st h Q ↔ GN d 198 9 ls h (nx 10 ls (.int (nI 0) :: st) h) Q := G_unf rfl rfl
theorem g198_10 : G d 198 10 ls st h Q ↔ GN d 198 10 ls h (pRI st fun a x r => ck (arr h a 9) (nx 13 ls r (sI h a 1 x))) Q := G_unf rfl rfl
theorem g198_13 : G d 198 13 ls st h Q ↔ GN d 198 13 ls h (ldR ls 0 fun a => nx 14 ls (.ref a :: st) h) Q := G_unf rfl rfl
theorem g198_14 : G d 198 14 ls st h Q ↔ GN d 198 14 ls h (nx 15 ls (.int (nI 0) :: st) h) Q := G_unf rfl rfl
theorem g198_15 : G d 198 15 ls st h Q ↔ GN d 198 15 ls h (pRI st fun a x r => ck (arr h a 9) (nx 18 ls r (sI h a 5 x))) Q := G_unf rfl rfl
theorem g198_18 : G d 198 18 ls st h Q ↔ GN d 198 18 ls h (ldR ls 0 fun a => nx 19 ls (.ref a :: st) h) Q := G_unf rfl rfl
theorem g198_19 : G d 198 19 ls st h Q ↔ GN d 198 19 ls h (nx 20 ls (.int (nI 0) :: st) h) Q := G_unf rfl rfl
theorem g198_20 : G d 198 20 ls st h Q ↔ GN d 198 20 ls h (pRI st fun a x r => ck (arr h a 9) (nx 23 ls r (sI h a 8 x))) Q := G_unf rfl rfl
theorem g198_23 : G d 198 23 ls st h Q ↔ GN d 198 23 ls h (ldR ls 0 fun a => nx 24 ls (.ref a :: st) h) Q := G_unf rfl rfl
theorem g198_24 : G d 198 24 ls st h Q ↔ GN d 198 24 ls h (nx 25 ls (.int (-1) :: st) h) Q := G_unf rfl rfl
theorem g198_25 : G d 198 25 ls st h Q ↔ GN d 198 25 ls h (pRI st fun a x r => ck (arr h a 9) (nx 28 ls r (sI h a 9 x))) Q := G_unf rfl rfl
theorem g198_28 : G d 198 28 ls st h Q ↔ GN d 198 28 ls h (ldR ls 0 fun a => nx 29 ls (.ref a :: st) h) Q := G_unf rfl rfl
theorem g198_29 : G d 198 29 ls st h Q ↔ GN d 198 29 ls h (nx 30 ls (.int (nI 1) :: st) h) Q := G_unf rfl rfl
theorem g198_30 : G d 198 30 ls st h Q ↔ GN d 198 30 ls h (ldR ls 0 fun a => nx 31 ls (.ref a :: st) h) Q := G_unf rfl rfl
theorem g198_31 : G d 198 31 ls st h Q ↔ GN d 198 31 ls h (pR st fun a r => ck (arr h a 9) (nx 34 ls (.int (hI h a 13) :: r) h)) Q := G_unf rfl rfl
theorem g198_34 : G d 198 34 ls st h Q ↔ GN d 198 34 ls h (pII st fun x y r => nx 35 ls (.int (x - y) :: r) h) Q := G_unf rfl rfl
theorem g198_35 : G d 198 35 ls st h Q ↔ GN d 198 35 ls h (pRI st fun a x r => ck (arr h a 9) (nx 38 ls r (sI h a 39 x))) Q := G_unf rfl rfl
theorem g198_38 : G d 198 38 ls st h Q ↔ GN d 198 38 ls h (ldR ls 0 fun a => nx 39 ls (.ref a :: st) h) Q := G_unf rfl rfl
theorem g198_39 : G d 198 39 ls st h Q ↔ GN d 198 39 ls h (pR st fun a r => ck (arr h a 9) (nx 42 ls (rv (hR h a 14) :: r) h)) Q := G_unf rfl rfl
theorem g198_42 : G d 198 42 ls st h Q ↔ GN d 198 42 ls h (ldR ls 0 fun a => nx 43 ls (.ref a :: st) h) Q := G_unf rfl rfl
theorem g198_43 : G d 198 43 ls st h Q ↔ GN d 198 43 ls h (pR st fun a r => ck (arr h a 9) (nx 46 ls (.int (hI h a 39) :: r) h)) Q := G_unf rfl rfl
theorem g198_46 : G d 198 46 ls st h Q ↔ GN d 198 46 ls h (nx 47 ls (.int (nI 0) :: st) h) Q := G_unf rfl rfl
theorem g198_47 : G d 198 47 ls st h Q ↔ GN d 198 47 ls h (pRII st fun a i x r => ck (arr h a 10 ∧ inb i (hLn h a)) (nx 48 ls r (sI h a i.toNatClampNeg x))) Q := G_unf rfl rfl
theorem g198_48 : G d 198 48 ls st h Q ↔ GN d 198 48 ls h (ldR ls 0 fun a => nx 49 ls (.ref a :: st) h) Q := G_unf rfl rfl
theorem g198_49 : G d 198 49 ls st h Q ↔ GN d 198 49 ls h (pR st fun a r => ck (arr h a 9) (nx 52 ls (rv (hR h a 17) :: r) h)) Q := G_unf rfl rfl
theorem g198_52 : G d 198 52 ls st h Q ↔ GN d 198 52 ls h (ldR ls 0 fun a => nx 53 ls (.ref a :: st) h) Q := G_unf rfl rfl
theorem g198_53 : G d 198 53 ls st h Q ↔ GN d 198 53 ls h (pR st fun a r => ck (arr h a 9) (nx 56 ls (.int (hI h a 39) :: r) h)) Q := G_unf rfl rfl
theorem g198_56 : G d 198 56 ls st h Q ↔ GN d 198 56 ls h (nx 57 ls (.int (nI 0) :: st) h) Q := G_unf rfl rfl
theorem g198_57 : G d 198 57 ls st h Q ↔ GN d 198 57 ls h (pRII st fun a i x r => ck (arr h a 10 ∧ inb i (hLn h a)) (nx 58 ls r (sI h a i.toNatClampNeg x))) Q := G_unf rfl rfl
theorem g198_58 : G d 198 58 ls st h Q ↔ GN d 198 58 ls h (ldR ls 0 fun a => nx 59 ls (.ref a :: st) h) Q := G_unf rfl rfl
theorem g198_59 : G d 198 59 ls st h Q ↔ GN d 198 59 ls h (pR st fun a r => ck (arr h a 9) (nx 62 ls (rv (hR h a 20) :: r) h)) Q := G_unf rfl rfl
theorem g198_62 : G d 198 62 ls st h Q ↔ GN d 198 62 ls h (ldR ls 0 fun a => nx 63 ls (.ref a :: st) h) Q := G_unf rfl rfl
theorem g198_63 : G d 198 63 ls st h Q ↔ GN d 198 63 ls h (pR st fun a r => ck (arr h a 9) (nx 66 ls (.int (hI h a 39) :: r) h)) Q := G_unf rfl rfl
theorem g198_66 : G d 198 66 ls st h Q ↔ GN d 198 66 ls h (nx 67 ls (.int (nI 0) :: st) h) Q := G_unf rfl rfl
theorem g198_67 : G d 198 67 ls st h Q ↔ GN d 198 67 ls h (pRII st fun a i x r => ck (arr h a 10 ∧ inb i (hLn h a)) (nx 68 ls r (sI h a i.toNatClampNeg x))) Q := G_unf rfl rfl
theorem g198_68 : G d 198 68 ls st h Q ↔ GN d 198 68 ls h (ldR ls 0 fun a => nx 69 ls (.ref a :: st) h) Q := G_unf rfl rfl
theorem g198_69 : G d 198 69 ls st h Q ↔ GN d 198 69 ls h (pR st fun a r => ck (arr h a 9) (nx 72 ls (rv (hR h a 23) :: r) h)) Q := G_unf rfl rfl
theorem g198_72 : G d 198 72 ls st h Q ↔ GN d 198 72 ls h (ldR ls 0 fun a => nx 73 ls (.ref a :: st) h) Q := G_unf rfl rfl
theorem g198_73 : G d 198 73 ls st h Q ↔ GN d 198 73 ls h (pR st fun a r => ck (arr h a 9) (nx 76 ls (.int (hI h a 39) :: r) h)) Q := G_unf rfl rfl
theorem g198_76 : G d 198 76 ls st h Q ↔ GN d 198 76 ls h (nx 77 ls (.int (nI 0) :: st) h) Q := G_unf rfl rfl
theorem g198_77 : G d 198 77 ls st h Q ↔ GN d 198 77 ls h (pRII st fun a i x r => ck (arr h a 10 ∧ inb i (hLn h a)) (nx 78 ls r (sI h a i.toNatClampNeg x))) Q := G_unf rfl rfl
theorem g198_78 : G d 198 78 ls st h Q ↔ GN d 198 78 ls h (ldR ls 0 fun a => nx 79 ls (.ref a :: st) h) Q := G_unf rfl rfl
theorem g198_79 : G d 198 79 ls st h Q ↔ GN d 198 79 ls h (pR st fun a r => ck (arr h a 9) (nx 82 ls (rv (hR h a 27) :: r) h)) Q := G_unf rfl rfl
theorem g198_82 : G d 198 82 ls st h Q ↔ GN d 198 82 ls h (ldR ls 0 fun a => nx 83 ls (.ref a :: st) h) Q := G_unf rfl rfl
theorem g198_83 : G d 198 83 ls st h Q ↔ GN d 198 83 ls h (pR st fun a r => ck (arr h a 9) (nx 86 ls (.int (hI h a 39) :: r) h)) Q := G_unf rfl rfl
theorem g198_86 : G d 198 86 ls st h Q ↔ GN d 198 86 ls h (nx 87 ls (.int (nI 0) :: st) h) Q := G_unf rfl rfl
theorem g198_87 : G d 198 87 ls st h Q ↔ GN d 198 87 ls h (pRII st fun a i x r => ck (arr h a 10 ∧ inb i (hLn h a)) (nx 88 ls r (sI h a i.toNatClampNeg x))) Q := G_unf rfl rfl
theorem g198_88 : G d 198 88 ls st h Q ↔ GN d 198 88 ls h (nx 89 ls (.int (nI 0) :: st) h) Q := G_unf rfl rfl
theorem g198_89 : G d 198 89 ls st h Q ↔ GN d 198 89 ls h (pI st fun x r => ck (1 < ls.length) (nx 90 (st1 ls 1 (.int x)) r h)) Q := G_unf rfl rfl
theorem g198_90 : G d 198 90 ls st h Q ↔ GN d 198 90 ls h (ldI ls 1 fun x => nx 91 ls (.int x :: st) h) Q := G_unf rfl rfl
theorem g198_91 : G d 198 91 ls st h Q ↔ GN d 198 91 ls h (nx 93 ls (.int (nI 96) :: st) h) Q := G_unf rfl rfl
theorem g198_93 : G d 198 93 ls st h Q ↔ GN d 198 93 ls h (pII st fun x y r => br (y ≤ x) (nx 117 ls r h) (nx 96 ls r h)) Q := G_unf rfl rfl
theorem g198_96 : G d 198 96 ls st h Q ↔ GN d 198 96 ls h (ldR ls 0 fun a => nx 97 ls (.ref a :: st) h) Q := G_unf rfl rfl
theorem g198_97 : G d 198 97 ls st h Q ↔ GN d 198 97 ls h (pR st fun a r => ck (arr h a 9) (nx 100 ls (rv (hR h a 28) :: r) h)) Q := G_unf rfl rfl
theorem g198_100 : G d 198 100 ls st h Q ↔ GN d 198 100 ls h (nx 102 ls (.int (nI 96) :: st) h) Q := G_unf rfl rfl
theorem g198_102 : G d 198 102 ls st h Q ↔ GN d 198 102 ls h (ldR ls 0 fun a => nx 103 ls (.ref a :: st) h) Q := G_unf rfl rfl
theorem g198_103 : G d 198 103 ls st h Q ↔ GN d 198 103 ls h (pR st fun a r => ck (arr h a 9) (nx 106 ls (.int (hI h a 39) :: r) h)) Q := G_unf rfl rfl
theorem g198_106 : G d 198 106 ls st h Q ↔ GN d 198 106 ls h (pII st fun x y r => nx 107 ls (.int (x * y) :: r) h) Q := G_unf rfl rfl
theorem g198_107 : G d 198 107 ls st h Q ↔ GN d 198 107 ls h (ldI ls 1 fun x => nx 108 ls (.int x :: st) h) Q := G_unf rfl rfl
theorem g198_108 : G d 198 108 ls st h Q ↔ GN d 198 108 ls h (pII st fun x y r => nx 109 ls (.int (x + y) :: r) h) Q := G_unf rfl rfl
theorem g198_109 : G d 198 109 ls st h Q ↔ GN d 198 109 ls h (nx 110 ls (.int (-1) :: st) h) Q := G_unf rfl rfl
theorem g198_110 : G d 198 110 ls st h Q ↔ GN d 198 110 ls h (pRII st fun a i x r => ck (arr h a 10 ∧ inb i (hLn h a)) (nx 111 ls r (sI h a i.toNatClampNeg x))) Q := G_unf rfl rfl
theorem g198_111 : G d 198 111 ls st h Q ↔ GN d 198 111 ls h (ldI ls 1 fun x => nx 114 (st1 ls 1 (.int (x + (nI 1)))) st h) Q := G_unf rfl rfl
theorem g198_114 : G d 198 114 ls st h Q ↔ GN d 198 114 ls h (nx 90 ls st h) Q := G_unf rfl rfl
theorem g198_117 : G d 198 117 ls st h Q ↔ GN d 198 117 ls h (ldR ls 0 fun a => nx 118 ls (.ref a :: st) h) Q := G_unf rfl rfl
theorem g198_118 : G d 198 118 ls st h Q ↔ GN d 198 118 ls h (pR st fun a r => ck (arr h a 9) (nx 121 ls (rv (hR h a 29) :: r) h)) Q := G_unf rfl rfl
theorem g198_121 : G d 198 121 ls st h Q ↔ GN d 198 121 ls h (ldR ls 0 fun a => nx 122 ls (.ref a :: st) h) Q := G_unf rfl rfl
theorem g198_122 : G d 198 122 ls st h Q ↔ GN d 198 122 ls h (pR st fun a r => ck (arr h a 9) (nx 125 ls (.int (hI h a 39) :: r) h)) Q := G_unf rfl rfl
theorem g198_125 : G d 198 125 ls st h Q ↔ GN d 198 125 ls h (nx 127 ls (.int (nI 20) :: st) h) Q := G_unf rfl rfl
theorem g198_127 : G d 198 127 ls st h Q ↔ GN d 198 127 ls h (pRII st fun a i x r => ck (arr h a 10 ∧ inb i (hLn h a)) (nx 128 ls r (sI h a i.toNatClampNeg x))) Q := G_unf rfl rfl
theorem g198_128 : G d 198 128 ls st h Q ↔ GN d 198 128 ls h (ldR ls 0 fun a => nx 129 ls (.ref a :: st) h) Q := G_unf rfl rfl
theorem g198_129 : G d 198 129 ls st h Q ↔ GN d 198 129 ls h (pR st fun a r => ck (arr h a 9) (nx 132 ls (rv (hR h a 30) :: r) h)) Q := G_unf rfl rfl
theorem g198_132 : G d 198 132 ls st h Q ↔ GN d 198 132 ls h (ldR ls 0 fun a => nx 133 ls (.ref a :: st) h) Q := G_unf rfl rfl
theorem g198_133 : G d 198 133 ls st h Q ↔ GN d 198 133 ls h (pR st fun a r => ck (arr h a 9) (nx 136 ls (.int (hI h a 39) :: r) h)) Q := G_unf rfl rfl
theorem g198_136 : G d 198 136 ls st h Q ↔ GN d 198 136 ls h (nx 137 ls (.int (-1) :: st) h) Q := G_unf rfl rfl
theorem g198_137 : G d 198 137 ls st h Q ↔ GN d 198 137 ls h (pRII st fun a i x r => ck (arr h a 10 ∧ inb i (hLn h a)) (nx 138 ls r (sI h a i.toNatClampNeg x))) Q := G_unf rfl rfl
set_option maxRecDepth 100000 in
theorem g198_138 : G d 198 138 ls st h Q ↔ GN d 198 138 ls h (ldR ls 0 fun a => nx 139 ls (.ref a :: st) h) Q := G_unf rfl rfl
set_option maxRecDepth 100000 in
theorem g198_139 : G d 198 139 ls st h Q ↔ GN d 198 139 ls h (pR st fun a r => ck (arr h a 9) (nx 142 ls (rv (hR h a 32) :: r) h)) Q := G_unf rfl rfl
set_option maxRecDepth 100000 in
theorem g198_142 : G d 198 142 ls st h Q ↔ GN d 198 142 ls h (ldR ls 0 fun a => nx 143 ls (.ref a :: st) h) Q := G_unf rfl rfl
set_option maxRecDepth 100000 in
theorem g198_143 : G d 198 143 ls st h Q ↔ GN d 198 143 ls h (pR st fun a r => ck (arr h a 9) (nx 146 ls (.int (hI h a 39) :: r) h)) Q := G_unf rfl rfl
set_option maxRecDepth 100000 in
theorem g198_146 : G d 198 146 ls st h Q ↔ GN d 198 146 ls h (nx 147 ls (.int (-1) :: st) h) Q := G_unf rfl rfl
set_option maxRecDepth 100000 in
theorem g198_147 : G d 198 147 ls st h Q ↔ GN d 198 147 ls h (pRII st fun a i x r => ck (arr h a 10 ∧ inb i (hLn h a)) (nx 148 ls r (sI h a i.toNatClampNeg x))) Q := G_unf rfl rfl
set_option maxRecDepth 100000 in
theorem g198_148 : G d 198 148 ls st h Q ↔ GN d 198 148 ls h (ldR ls 0 fun a => nx 149 ls (.ref a :: st) h) Q := G_unf rfl rfl
set_option maxRecDepth 100000 in
theorem g198_149 : G d 198 149 ls st h Q ↔ GN d 198 149 ls h (nx 150 ls (.int (nI 0) :: st) h) Q := G_unf rfl rfl
set_option maxRecDepth 100000 in
theorem g198_150 : G d 198 150 ls st h Q ↔ GN d 198 150 ls h (pRI st fun a x r => ck (arr h a 9) (nx 153 ls r (sI h a 38 x))) Q := G_unf rfl rfl
set_option maxRecDepth 100000 in
theorem g198_153 : G d 198 153 ls st h Q ↔ GN d 198 153 ls h (nx 154 ls (.int (nI 0) :: st) h) Q := G_unf rfl rfl
set_option maxRecDepth 100000 in
theorem g198_154 : G d 198 154 ls st h Q ↔ GN d 198 154 ls h (pI st fun x r => ck (1 < ls.length) (nx 155 (st1 ls 1 (.int x)) r h)) Q := G_unf rfl rfl
set_option maxRecDepth 100000 in
theorem g198_155 : G d 198 155 ls st h Q ↔ GN d 198 155 ls h (ldR ls 0 fun a => nx 156 ls (.ref a :: st) h) Q := G_unf rfl rfl
set_option maxRecDepth 100000 in
theorem g198_156 : G d 198 156 ls st h Q ↔ GN d 198 156 ls h (pA 0 st fun as r => pR r fun a r => ck (r.length ≤ 4 ∧ arr h a 9) (cll 164 (.ref a :: as) r)) Q := G_unf rfl rfl
set_option maxRecDepth 100000 in
theorem g198_159 : G d 198 159 ls st h Q ↔ GN d 198 159 ls h (ldR ls 0 fun a => nx 160 ls (.ref a :: st) h) Q := G_unf rfl rfl
set_option maxRecDepth 100000 in
theorem g198_160 : G d 198 160 ls st h Q ↔ GN d 198 160 ls h (pR st fun a r => ck (arr h a 9) (nx 163 ls (.int (hI h a 8) :: r) h)) Q := G_unf rfl rfl
set_option maxRecDepth 100000 in
theorem g198_163 : G d 198 163 ls st h Q ↔ GN d 198 163 ls h (pI st fun x r => br (¬ x = 0) (nx 188 ls r h) (nx 166 ls r h)) Q := G_unf rfl rfl
set_option maxRecDepth 100000 in
theorem g198_166 : G d 198 166 ls st h Q ↔ GN d 198 166 ls h (ldR ls 0 fun a => nx 167 ls (.ref a :: st) h) Q := G_unf rfl rfl
set_option maxRecDepth 100000 in
theorem g198_167 : G d 198 167 ls st h Q ↔ GN d 198 167 ls h (pR st fun a r => ck (arr h a 9) (nx 170 ls (.int (hI h a 3) :: r) h)) Q := G_unf rfl rfl
set_option maxRecDepth 100000 in
theorem g198_170 : G d 198 170 ls st h Q ↔ GN d 198 170 ls h (pI st fun x r => br (x = 0) (nx 188 ls r h) (nx 173 ls r h)) Q := G_unf rfl rfl
set_option maxRecDepth 100000 in
theorem g198_173 : G d 198 173 ls st h Q ↔ GN d 198 173 ls h (ldR ls 0 fun a => nx 174 ls (.ref a :: st) h) Q := G_unf rfl rfl
set_option maxRecDepth 100000 in
theorem g198_174 : G d 198 174 ls st h Q ↔ GN d 198 174 ls h (pA 0 st fun as r => pR r fun a r => ck (r.length ≤ 4 ∧ arr h a 9) (cll 196 (.ref a :: as) r)) Q := G_unf rfl rfl
set_option maxRecDepth 100000 in
theorem g198_177 : G d 198 177 ls st h Q ↔ GN d 198 177 ls h (ldI ls 1 fun x => nx 180 (st1 ls 1 (.int (x + (nI 1)))) st h) Q := G_unf rfl rfl
set_option maxRecDepth 100000 in
theorem g198_180 : G d 198 180 ls st h Q ↔ GN d 198 180 ls h (ldR ls 0 fun a => nx 181 ls (.ref a :: st) h) Q := G_unf rfl rfl
set_option maxRecDepth 100000 in
theorem g198_181 : G d 198 181 ls st h Q ↔ GN d 198 181 ls h (ldI ls 1 fun x => nx 182 ls (.int x :: st) h) Q := G_unf rfl rfl
set_option maxRecDepth 100000 in
theorem g198_182 : G d 198 182 ls st h Q ↔ GN d 198 182 ls h (pA 1 st fun as r => pR r fun a r => ck (r.length ≤ 4 ∧ arr h a 9) (cll 197 (.ref a :: as) r)) Q := G_unf rfl rfl
set_option maxRecDepth 100000 in
theorem g198_185 : G d 198 185 ls st h Q ↔ GN d 198 185 ls h (nx 159 ls st h) Q := G_unf rfl rfl
set_option maxRecDepth 100000 in
theorem g198_188 : G d 198 188 ls st h Q ↔ GN d 198 188 ls h (ldR ls 0 fun a => nx 189 ls (.ref a :: st) h) Q := G_unf rfl rfl
set_option maxRecDepth 100000 in
theorem g198_189 : G d 198 189 ls st h Q ↔ GN d 198 189 ls h (ldR ls 0 fun a => nx 190 ls (.ref a :: st) h) Q := G_unf rfl rfl
set_option maxRecDepth 100000 in
theorem g198_190 : G d 198 190 ls st h Q ↔ GN d 198 190 ls h (pR st fun a r => ck (arr h a 9) (nx 193 ls (.int (hI h a 8) :: r) h)) Q := G_unf rfl rfl
set_option maxRecDepth 100000 in
theorem g198_193 : G d 198 193 ls st h Q ↔ GN d 198 193 ls h (pRI st fun a x r => ck (arr h a 9) (nx 196 ls r (sI h a 10 x))) Q := G_unf rfl rfl
set_option maxRecDepth 100000 in
theorem g198_196 : G d 198 196 ls st h Q ↔ GN d 198 196 ls h (ldR ls 0 fun a => nx 197 ls (.ref a :: st) h) Q := G_unf rfl rfl
set_option maxRecDepth 100000 in
theorem g198_197 : G d 198 197 ls st h Q ↔ GN d 198 197 ls h (ldR ls 0 fun a => nx 198 ls (.ref a :: st) h) Q := G_unf rfl rfl
set_option maxRecDepth 100000 in
theorem g198_198 : G d 198 198 ls st h Q ↔ GN d 198 198 ls h (pR st fun a r => ck (arr h a 9) (nx 201 ls (.int (hI h a 9) :: r) h)) Q := G_unf rfl rfl
set_option maxRecDepth 100000 in
theorem g198_201 : G d 198 201 ls st h Q ↔ GN d 198 201 ls h (pRI st fun a x r => ck (arr h a 9) (nx 204 ls r (sI h a 11 x))) Q := G_unf rfl rfl
set_option maxRecDepth 100000 in
theorem g198_204 : G d 198 204 ls st h Q ↔ GN d 198 204 ls h (ldR ls 0 fun a => nx 205 ls (.ref a :: st) h) Q := G_unf rfl rfl
set_option maxRecDepth 100000 in
theorem g198_205 : G d 198 205 ls st h Q ↔ GN d 198 205 ls h (pR st fun a r => ck (arr h a 9) (nx 208 ls (.int (hI h a 8) :: r) h)) Q := G_unf rfl rfl
set_option maxRecDepth 100000 in
theorem g198_208 : G d 198 208 ls st h Q ↔ GN d 198 208 ls h (pI st fun x r => br (x ≤ 0) (nx 217 ls r h) (nx 211 ls r h)) Q := G_unf rfl rfl
set_option maxRecDepth 100000 in
theorem g198_211 : G d 198 211 ls st h Q ↔ GN d 198 211 ls h (ldR ls 0 fun a => nx 212 ls (.ref a :: st) h) Q := G_unf rfl rfl
set_option maxRecDepth 100000 in
theorem g198_212 : G d 198 212 ls st h Q ↔ GN d 198 212 ls h (nx 213 ls (.int (nI 1) :: st) h) Q := G_unf rfl rfl
set_option maxRecDepth 100000 in
theorem g198_213 : G d 198 213 ls st h Q ↔ GN d 198 213 ls h (pA 1 st fun as r => pR r fun a r => ck (r.length ≤ 4 ∧ arr h a 9) (cll 200 (.ref a :: as) r)) Q := G_unf rfl rfl
set_option maxRecDepth 100000 in
theorem g198_216 : G d 198 216 ls st h Q ↔ GN d 198 216 ls h (pIe st fun x => rtn (some (.int x))) Q := G_unf rfl rfl
set_option maxRecDepth 100000 in
theorem g198_217 : G d 198 217 ls st h Q ↔ GN d 198 217 ls h (ldR ls 0 fun a => nx 218 ls (.ref a :: st) h) Q := G_unf rfl rfl
set_option maxRecDepth 100000 in
theorem g198_218 : G d 198 218 ls st h Q ↔ GN d 198 218 ls h (ldR ls 0 fun a => nx 219 ls (.ref a :: st) h) Q := G_unf rfl rfl
set_option maxRecDepth 100000 in
theorem g198_219 : G d 198 219 ls st h Q ↔ GN d 198 219 ls h (pR st fun a r => ck (arr h a 9) (nx 222 ls (.int (hI h a 39) :: r) h)) Q := G_unf rfl rfl
set_option maxRecDepth 100000 in
theorem g198_222 : G d 198 222 ls st h Q ↔ GN d 198 222 ls h (pRI st fun a x r => ck (arr h a 9) (nx 225 ls r (sI h a 13 x))) Q := G_unf rfl rfl
set_option maxRecDepth 100000 in
theorem g198_225 : G d 198 225 ls st h Q ↔ GN d 198 225 ls h (ldR ls 0 fun a => nx 226 ls (.ref a :: st) h) Q := G_unf rfl rfl
set_option maxRecDepth 100000 in
theorem g198_226 : G d 198 226 ls st h Q ↔ GN d 198 226 ls h (pA 0 st fun as r => pR r fun a r => ck (r.length ≤ 4 ∧ arr h a 9) (cll 208 (.ref a :: as) r)) Q := G_unf rfl rfl
set_option maxRecDepth 100000 in
theorem g198_229 : G d 198 229 ls st h Q ↔ GN d 198 229 ls h (ldI ls 1 fun x => nx 230 ls (.int x :: st) h) Q := G_unf rfl rfl
set_option maxRecDepth 100000 in
theorem g198_230 : G d 198 230 ls st h Q ↔ GN d 198 230 ls h (pIe st fun x => rtn (some (.int x))) Q := G_unf rfl rfl
theorem g199_0 : G d 199 0 ls st h Q ↔ GN d 199 0 ls h (ldI ls 1 fun x => nx 1 ls (.int x :: st) h) Q := G_unf rfl rfl
theorem g199_1 : G d 199 1 ls st h Q ↔ GN d 199 1 ls h (pI st fun x r => br (¬ x = 0) (nx 11 ls r h) (nx 4 ls r h)) Q := G_unf rfl rfl
theorem g199_4 : G d 199 4 ls st h Q ↔ GN d 199 4 ls h (ldR ls 0 fun a => nx 5 ls (.ref a :: st) h) Q := G_unf rfl rfl
theorem g199_5 : G d 199 5 ls st h Q ↔ GN d 199 5 ls h (pR st fun a r => ck (arr h a 9) (nx 8 ls (.int (hI h a 10) :: r) h)) Q := G_unf rfl rfl
theorem g199_8 : G d 199 8 ls st h Q ↔ GN d 199 8 ls h (nx 24 ls st h) Q := G_unf rfl rfl
theorem g199_11 : G d 199 11 ls st h Q ↔ GN d 199 11 ls h (ldI ls 1 fun x => nx 12 ls (.int x :: st) h) Q := G_unf rfl rfl
theorem g199_12 : G d 199 12 ls st h Q ↔ GN d 199 12 ls h (nx 13 ls (.int (nI 1) :: st) h) Q := G_unf rfl rfl
theorem g199_13 : G d 199 13 ls st h Q ↔ GN d 199 13 ls h (pII st fun x y r => br (¬ x = y) (nx 23 ls r h) (nx 16 ls r h)) Q := G_unf rfl rfl
theorem g199_16 : G d 199 16 ls st h Q ↔ GN d 199 16 ls h (ldR ls 0 fun a => nx 17 ls (.ref a :: st) h) Q := G_unf rfl rfl
theorem g199_17 : G d 199 17 ls st h Q ↔ GN d 199 17 ls h (pR st fun a r => ck (arr h a 9) (nx 20 ls (.int (hI h a 11) :: r) h)) Q := G_unf rfl rfl
theorem g199_20 : G d 199 20 ls st h Q ↔ GN d 199 20 ls h (nx 24 ls st h) Q := G_unf rfl rfl
theorem g199_23 : G d 199 23 ls st h Q ↔ GN d 199 23 ls h (nx 24 ls (.int (-1) :: st) h) Q := G_unf rfl rfl
theorem g199_24 : G d 199 24 ls st h Q ↔ GN d 199 24 ls h (pIe st fun x => rtn (some (.int x))) Q := G_unf rfl rfl
theorem g200_0 : G d 200 0 ls st h Q ↔ GN d 200 0 ls h (ldR ls 0 fun a => nx 1 ls (.ref a :: st) h) Q := G_unf rfl rfl
theorem g200_1 : G d 200 1 ls st h Q ↔ GN d 200 1 ls h (pR st fun a r => ck (arr h a 9) (nx 4 ls (rv (hR h a 50) :: r) h)) Q := G_unf rfl rfl
theorem g200_4 : G d 200 4 ls st h Q ↔ GN d 200 4 ls h (ldI ls 1 fun x => nx 5 ls (.int x :: st) h) Q := G_unf rfl rfl
theorem g200_5 : G d 200 5 ls st h Q ↔ GN d 200 5 ls h (p11 st fun v w r => nx 6 ls (v :: w :: v :: w :: r) h) Q := G_unf rfl rfl
theorem g200_6 : G d 200 6 ls st h Q ↔ GN d 200 6 ls h (pRI st fun a i r => br (a = 1000003) (ck (inb i (hS h).1) (nx 7 ls (.int ((hS h).2 i.toNatClampNeg) :: r) h)) (ck (arr h a 10 ∧ inb i (hLn h a)) (nx 7 ls (.int (hI h a i.toNatClampNeg) :: r) h))) Q := G_unf rfl rfl
theorem g200_7 : G d 200 7 ls st h Q ↔ GN d 200 7 ls h (nx 8 ls (.int (nI 1) :: st) h) Q := G_unf rfl rfl
theorem g200_8 : G d 200 8 ls st h Q ↔ GN d 200 8 ls h (pII st fun x y r => nx 9 ls (.int (x + y) :: r) h) Q := G_unf rfl rfl
theorem g200_9 : G d 200 9 ls st h Q ↔ GN d 200 9 ls h (pRII st fun a i x r => ck (arr h a 10 ∧ inb i (hLn h a)) (nx 10 ls r (sI h a i.toNatClampNeg x))) Q := G_unf rfl rfl
theorem g200_10 : G d 200 10 ls st h Q ↔ GN d 200 10 ls h (nx 11 ls (.int (-1) :: st) h) Q := G_unf rfl rfl
theorem g200_11 : G d 200 11 ls st h Q ↔ GN d 200 11 ls h (pIe st fun x => rtn (some (.int x))) Q := G_unf rfl rfl
theorem g201_0 : G d 201 0 ls st h Q ↔ GN d 201 0 ls h (ldI ls 1 fun x => nx 1 ls (.int x :: st) h) Q := G_unf rfl rfl
theorem g201_1 : G d 201 1 ls st h Q ↔ GN d 201 1 ls h (nx 2 ls (.int (nI 0) :: st) h) Q := G_unf rfl rfl
theorem g201_2 : G d 201 2 ls st h Q ↔ GN d 201 2 ls h (nx 3 ls (.int (nI 5) :: st) h) Q := G_unf rfl rfl
theorem g201_3 : G d 201 3 ls st h Q ↔ GN d 201 3 ls h (pA 3 st fun as r => ck (r.length ≤ 4) (cll 156 as r)) Q := G_unf rfl rfl
theorem g201_6 : G d 201 6 ls st h Q ↔ GN d 201 6 ls h (pI st fun x r => br (x = 0) (nx 18 ls r h) (nx 9 ls r h)) Q := G_unf rfl rfl
theorem g201_9 : G d 201 9 ls st h Q ↔ GN d 201 9 ls h (ldR ls 0 fun a => nx 10 ls (.ref a :: st) h) Q := G_unf rfl rfl
theorem g201_10 : G d 201 10 ls st h Q ↔ GN d 201 10 ls h (pR st fun a r => ck (arr h a 9) (nx 13 ls (rv (hR h a 50) :: r) h)) Q := G_unf rfl rfl
theorem g201_13 : G d 201 13 ls st h Q ↔ GN d 201 13 ls h (ldI ls 1 fun x => nx 14 ls (.int x :: st) h) Q := G_unf rfl rfl
theorem g201_14 : G d 201 14 ls st h Q ↔ GN d 201 14 ls h (pRI st fun a i r => br (a = 1000003) (ck (inb i (hS h).1) (nx 15 ls (.int ((hS h).2 i.toNatClampNeg) :: r) h)) (ck (arr h a 10 ∧ inb i (hLn h a)) (nx 15 ls (.int (hI h a i.toNatClampNeg) :: r) h))) Q := G_unf rfl rfl
theorem g201_15 : G d 201 15 ls st h Q ↔ GN d 201 15 ls h (nx 19 ls st h) Q := G_unf rfl rfl
theorem g201_18 : G d 201 18 ls st h Q ↔ GN d 201 18 ls h (nx 19 ls (.int (-1) :: st) h) Q := G_unf rfl rfl
theorem g201_19 : G d 201 19 ls st h Q ↔ GN d 201 19 ls h (pIe st fun x => rtn (some (.int x))) Q := G_unf rfl rfl
theorem g202_0 : G d 202 0 ls st h Q ↔ GN d 202 0 ls h (ldI ls 1 fun x => nx 1 ls (.int x :: st) h) Q := G_unf rfl rfl
theorem g202_1 : G d 202 1 ls st h Q ↔ GN d 202 1 ls h (pI st fun x r => br (x < 0) (nx 21 ls r h) (nx 4 ls r h)) Q := G_unf rfl rfl
theorem g202_4 : G d 202 4 ls st h Q ↔ GN d 202 4 ls h (ldI ls 1 fun x => nx 5 ls (.int x :: st) h) Q := G_unf rfl rfl
theorem g202_5 : G d 202 5 ls st h Q ↔ GN d 202 5 ls h (ldR ls 0 fun a => nx 6 ls (.ref a :: st) h) Q := G_unf rfl rfl
theorem g202_6 : G d 202 6 ls st h Q ↔ GN d 202 6 ls h (pR st fun a r => ck (arr h a 9) (nx 9 ls (rv (hR h a 14) :: r) h)) Q := G_unf rfl rfl
theorem g202_9 : G d 202 9 ls st h Q ↔ GN d 202 9 ls h (ldR ls 0 fun a => nx 10 ls (.ref a :: st) h) Q := G_unf rfl rfl
theorem g202_10 : G d 202 10 ls st h Q ↔ GN d 202 10 ls h (pR st fun a r => ck (arr h a 9) (nx 13 ls (.int (hI h a 13) :: r) h)) Q := G_unf rfl rfl
theorem g202_13 : G d 202 13 ls st h Q ↔ GN d 202 13 ls h (pRI st fun a i r => br (a = 1000003) (ck (inb i (hS h).1) (nx 14 ls (.int ((hS h).2 i.toNatClampNeg) :: r) h)) (ck (arr h a 10 ∧ inb i (hLn h a)) (nx 14 ls (.int (hI h a i.toNatClampNeg) :: r) h))) Q := G_unf rfl rfl
theorem g202_14 : G d 202 14 ls st h Q ↔ GN d 202 14 ls h (pII st fun x y r => br (y ≤ x) (nx 21 ls r h) (nx 17 ls r h)) Q := G_unf rfl rfl
theorem g202_17 : G d 202 17 ls st h Q ↔ GN d 202 17 ls h (nx 18 ls (.int (nI 1) :: st) h) Q := G_unf rfl rfl
theorem g202_18 : G d 202 18 ls st h Q ↔ GN d 202 18 ls h (nx 22 ls st h) Q := G_unf rfl rfl
theorem g202_21 : G d 202 21 ls st h Q ↔ GN d 202 21 ls h (nx 22 ls (.int (nI 0) :: st) h) Q := G_unf rfl rfl
theorem g202_22 : G d 202 22 ls st h Q ↔ GN d 202 22 ls h (pIe st fun x => ck (x = 0 ∨ x = 1) (rtn (some (.int x)))) Q := G_unf rfl rfl
theorem g203_0 : G d 203 0 ls st h Q ↔ GN d 203 0 ls h (ldI ls 1 fun x => nx 1 ls (.int x :: st) h) Q := G_unf rfl rfl
theorem g203_1 : G d 203 1 ls st h Q ↔ GN d 203 1 ls h (pI st fun x r => br (x < 0) (nx 21 ls r h) (nx 4 ls r h)) Q := G_unf rfl rfl
theorem g203_4 : G d 203 4 ls st h Q ↔ GN d 203 4 ls h (ldI ls 1 fun x => nx 5 ls (.int x :: st) h) Q := G_unf rfl rfl
theorem g203_5 : G d 203 5 ls st h Q ↔ GN d 203 5 ls h (ldR ls 0 fun a => nx 6 ls (.ref a :: st) h) Q := G_unf rfl rfl
theorem g203_6 : G d 203 6 ls st h Q ↔ GN d 203 6 ls h (pR st fun a r => ck (arr h a 9) (nx 9 ls (rv (hR h a 20) :: r) h)) Q := G_unf rfl rfl
theorem g203_9 : G d 203 9 ls st h Q ↔ GN d 203 9 ls h (ldR ls 0 fun a => nx 10 ls (.ref a :: st) h) Q := G_unf rfl rfl
theorem g203_10 : G d 203 10 ls st h Q ↔ GN d 203 10 ls h (pR st fun a r => ck (arr h a 9) (nx 13 ls (.int (hI h a 13) :: r) h)) Q := G_unf rfl rfl
theorem g203_13 : G d 203 13 ls st h Q ↔ GN d 203 13 ls h (pRI st fun a i r => br (a = 1000003) (ck (inb i (hS h).1) (nx 14 ls (.int ((hS h).2 i.toNatClampNeg) :: r) h)) (ck (arr h a 10 ∧ inb i (hLn h a)) (nx 14 ls (.int (hI h a i.toNatClampNeg) :: r) h))) Q := G_unf rfl rfl
theorem g203_14 : G d 203 14 ls st h Q ↔ GN d 203 14 ls h (pII st fun x y r => br (y ≤ x) (nx 21 ls r h) (nx 17 ls r h)) Q := G_unf rfl rfl
theorem g203_17 : G d 203 17 ls st h Q ↔ GN d 203 17 ls h (nx 18 ls (.int (nI 1) :: st) h) Q := G_unf rfl rfl
theorem g203_18 : G d 203 18 ls st h Q ↔ GN d 203 18 ls h (nx 22 ls st h) Q := G_unf rfl rfl
theorem g203_21 : G d 203 21 ls st h Q ↔ GN d 203 21 ls h (nx 22 ls (.int (nI 0) :: st) h) Q := G_unf rfl rfl
theorem g203_22 : G d 203 22 ls st h Q ↔ GN d 203 22 ls h (pIe st fun x => ck (x = 0 ∨ x = 1) (rtn (some (.int x)))) Q := G_unf rfl rfl
theorem g204_0 : G d 204 0 ls st h Q ↔ GN d 204 0 ls h (ldI ls 1 fun x => nx 1 ls (.int x :: st) h) Q := G_unf rfl rfl
theorem g204_1 : G d 204 1 ls st h Q ↔ GN d 204 1 ls h (pI st fun x r => br (x < 0) (nx 23 ls r h) (nx 4 ls r h)) Q := G_unf rfl rfl
theorem g204_4 : G d 204 4 ls st h Q ↔ GN d 204 4 ls h (ldI ls 1 fun x => nx 5 ls (.int x :: st) h) Q := G_unf rfl rfl
theorem g204_5 : G d 204 5 ls st h Q ↔ GN d 204 5 ls h (nx 6 ls (.int (nI 1) :: st) h) Q := G_unf rfl rfl
theorem g204_6 : G d 204 6 ls st h Q ↔ GN d 204 6 ls h (ldR ls 0 fun a => nx 7 ls (.ref a :: st) h) Q := G_unf rfl rfl
theorem g204_7 : G d 204 7 ls st h Q ↔ GN d 204 7 ls h (pR st fun a r => ck (arr h a 9) (nx 10 ls (rv (hR h a 14) :: r) h)) Q := G_unf rfl rfl
theorem g204_10 : G d 204 10 ls st h Q ↔ GN d 204 10 ls h (ldR ls 0 fun a => nx 11 ls (.ref a :: st) h) Q := G_unf rfl rfl
theorem g204_11 : G d 204 11 ls st h Q ↔ GN d 204 11 ls h (pR st fun a r => ck (arr h a 9) (nx 14 ls (.int (hI h a 13) :: r) h)) Q := G_unf rfl rfl
theorem g204_14 : G d 204 14 ls st h Q ↔ GN d 204 14 ls h (pRI st fun a i r => br (a = 1000003) (ck (inb i (hS h).1) (nx 15 ls (.int ((hS h).2 i.toNatClampNeg) :: r) h)) (ck (arr h a 10 ∧ inb i (hLn h a)) (nx 15 ls (.int (hI h a i.toNatClampNeg) :: r) h))) Q := G_unf rfl rfl
theorem g204_15 : G d 204 15 ls st h Q ↔ GN d 204 15 ls h (pII st fun x y r => nx 16 ls (.int (x <<< (y &&& 31)) :: r) h) Q := G_unf rfl rfl
theorem g204_16 : G d 204 16 ls st h Q ↔ GN d 204 16 ls h (pII st fun x y r => br (y ≤ x) (nx 23 ls r h) (nx 19 ls r h)) Q := G_unf rfl rfl
theorem g204_19 : G d 204 19 ls st h Q ↔ GN d 204 19 ls h (nx 20 ls (.int (nI 1) :: st) h) Q := G_unf rfl rfl
theorem g204_20 : G d 204 20 ls st h Q ↔ GN d 204 20 ls h (nx 24 ls st h) Q := G_unf rfl rfl
theorem g204_23 : G d 204 23 ls st h Q ↔ GN d 204 23 ls h (nx 24 ls (.int (nI 0) :: st) h) Q := G_unf rfl rfl
theorem g204_24 : G d 204 24 ls st h Q ↔ GN d 204 24 ls h (pIe st fun x => ck (x = 0 ∨ x = 1) (rtn (some (.int x)))) Q := G_unf rfl rfl
theorem g205_0 : G d 205 0 ls st h Q ↔ GN d 205 0 ls h (ldI ls 0 fun x => nx 1 ls (.int x :: st) h) Q := G_unf rfl rfl
theorem g205_1 : G d 205 1 ls st h Q ↔ GN d 205 1 ls h (ldI ls 1 fun x => nx 2 ls (.int x :: st) h) Q := G_unf rfl rfl
theorem g205_2 : G d 205 2 ls st h Q ↔ GN d 205 2 ls h (pII st fun x y r => nx 3 ls (.int (x >>> (y &&& 31)) :: r) h) Q := G_unf rfl rfl
theorem g205_3 : G d 205 3 ls st h Q ↔ GN d 205 3 ls h (nx 4 ls (.int (nI 1) :: st) h) Q := G_unf rfl rfl
theorem g205_4 : G d 205 4 ls st h Q ↔ GN d 205 4 ls h (pII st fun x y r => nx 5 ls (.int (x &&& y) :: r) h) Q := G_unf rfl rfl
theorem g205_5 : G d 205 5 ls st h Q ↔ GN d 205 5 ls h (nx 6 ls (.int (nI 1) :: st) h) Q := G_unf rfl rfl
theorem g205_6 : G d 205 6 ls st h Q ↔ GN d 205 6 ls h (pII st fun x y r => br (¬ x = y) (nx 13 ls r h) (nx 9 ls r h)) Q := G_unf rfl rfl
theorem g205_9 : G d 205 9 ls st h Q ↔ GN d 205 9 ls h (nx 10 ls (.int (nI 1) :: st) h) Q := G_unf rfl rfl
theorem g205_10 : G d 205 10 ls st h Q ↔ GN d 205 10 ls h (nx 14 ls st h) Q := G_unf rfl rfl
theorem g205_13 : G d 205 13 ls st h Q ↔ GN d 205 13 ls h (nx 14 ls (.int (nI 0) :: st) h) Q := G_unf rfl rfl
theorem g205_14 : G d 205 14 ls st h Q ↔ GN d 205 14 ls h (pIe st fun x => ck (x = 0 ∨ x = 1) (rtn (some (.int x)))) Q := G_unf rfl rfl
theorem g206_0 : G d 206 0 ls st h Q ↔ GN d 206 0 ls h (nx 1 ls (.int (nI 0) :: st) h) Q := G_unf rfl rfl
theorem g206_1 : G d 206 1 ls st h Q ↔ GN d 206 1 ls h (pI st fun x r => ck (1 < ls.length) (nx 2 (st1 ls 1 (.int x)) r h)) Q := G_unf rfl rfl
theorem g206_2 : G d 206 2 ls st h Q ↔ GN d 206 2 ls h (ldI ls 0 fun x => nx 3 ls (.int x :: st) h) Q := G_unf rfl rfl
theorem g206_3 : G d 206 3 ls st h Q ↔ GN d 206 3 ls h (pI st fun x r => ck (2 < ls.length) (nx 4 (st1 ls 2 (.int x)) r h)) Q := G_unf rfl rfl
theorem g206_4 : G d 206 4 ls st h Q ↔ GN d 206 4 ls h (ldI ls 2 fun x => nx 5 ls (.int x :: st) h) Q := G_unf rfl rfl
theorem g206_5 : G d 206 5 ls st h Q ↔ GN d 206 5 ls h (pI st fun x r => br (x = 0) (nx 20 ls r h) (nx 8 ls r h)) Q := G_unf rfl rfl
theorem g206_8 : G d 206 8 ls st h Q ↔ GN d 206 8 ls h (ldI ls 1 fun x => nx 11 (st1 ls 1 (.int (x + (nI 1)))) st h) Q := G_unf rfl rfl
theorem g206_11 : G d 206 11 ls st h Q ↔ GN d 206 11 ls h (ldI ls 2 fun x => nx 12 ls (.int x :: st) h) Q := G_unf rfl rfl
theorem g206_12 : G d 206 12 ls st h Q ↔ GN d 206 12 ls h (ldI ls 2 fun x => nx 13 ls (.int x :: st) h) Q := G_unf rfl rfl
theorem g206_13 : G d 206 13 ls st h Q ↔ GN d 206 13 ls h (nx 14 ls (.int (nI 1) :: st) h) Q := G_unf rfl rfl
theorem g206_14 : G d 206 14 ls st h Q ↔ GN d 206 14 ls h (pII st fun x y r => nx 15 ls (.int (x - y) :: r) h) Q := G_unf rfl rfl
theorem g206_15 : G d 206 15 ls st h Q ↔ GN d 206 15 ls h (pII st fun x y r => nx 16 ls (.int (x &&& y) :: r) h) Q := G_unf rfl rfl
theorem g206_16 : G d 206 16 ls st h Q ↔ GN d 206 16 ls h (pI st fun x r => ck (2 < ls.length) (nx 17 (st1 ls 2 (.int x)) r h)) Q := G_unf rfl rfl
theorem g206_17 : G d 206 17 ls st h Q ↔ GN d 206 17 ls h (nx 4 ls st h) Q := G_unf rfl rfl
theorem g206_20 : G d 206 20 ls st h Q ↔ GN d 206 20 ls h (ldI ls 1 fun x => nx 21 ls (.int x :: st) h) Q := G_unf rfl rfl
theorem g206_21 : G d 206 21 ls st h Q ↔ GN d 206 21 ls h (pIe st fun x => rtn (some (.int x))) Q := G_unf rfl rfl
theorem g207_0 : G d 207 0 ls st h Q ↔ GN d 207 0 ls h (ldR ls 0 fun a => nx 1 ls (.ref a :: st) h) Q := G_unf rfl rfl
theorem g207_1 : G d 207 1 ls st h Q ↔ GN d 207 1 ls h (pR st fun a r => ck (arr h a 9) (nx 4 ls (rv (hR h a 51) :: r) h)) Q := G_unf rfl rfl
theorem g207_4 : G d 207 4 ls st h Q ↔ GN d 207 4 ls h (ldI ls 1 fun x => nx 5 ls (.int x :: st) h) Q := G_unf rfl rfl
theorem g207_5 : G d 207 5 ls st h Q ↔ GN d 207 5 ls h (ldR ls 0 fun a => nx 6 ls (.ref a :: st) h) Q := G_unf rfl rfl
theorem g207_6 : G d 207 6 ls st h Q ↔ GN d 207 6 ls h (pR st fun a r => ck (arr h a 9) (nx 9 ls (rv (hR h a 51) :: r) h)) Q := G_unf rfl rfl
theorem g207_9 : G d 207 9 ls st h Q ↔ GN d 207 9 ls h (ldI ls 2 fun x => nx 10 ls (.int x :: st) h) Q := G_unf rfl rfl
theorem g207_10 : G d 207 10 ls st h Q ↔ GN d 207 10 ls h (pRI st fun a i r => br (a = 1000003) (ck (inb i (hS h).1) (nx 11 ls (.int ((hS h).2 i.toNatClampNeg) :: r) h)) (ck (arr h a 10 ∧ inb i (hLn h a)) (nx 11 ls (.int (hI h a i.toNatClampNeg) :: r) h))) Q := G_unf rfl rfl
theorem g207_11 : G d 207 11 ls st h Q ↔ GN d 207 11 ls h (pRII st fun a i x r => ck (arr h a 10 ∧ inb i (hLn h a)) (nx 12 ls r (sI h a i.toNatClampNeg x))) Q := G_unf rfl rfl
theorem g207_12 : G d 207 12 ls st h Q ↔ GN d 207 12 ls h (nx 13 ls (.int (nI 0) :: st) h) Q := G_unf rfl rfl
theorem g207_13 : G d 207 13 ls st h Q ↔ GN d 207 13 ls h (pI st fun x r => ck (3 < ls.length) (nx 14 (st1 ls 3 (.int x)) r h)) Q := G_unf rfl rfl
theorem g207_14 : G d 207 14 ls st h Q ↔ GN d 207 14 ls h (ldI ls 3 fun x => nx 15 ls (.int x :: st) h) Q := G_unf rfl rfl
theorem g207_15 : G d 207 15 ls st h Q ↔ GN d 207 15 ls h (nx 17 ls (.int (nI 8) :: st) h) Q := G_unf rfl rfl
theorem g207_17 : G d 207 17 ls st h Q ↔ GN d 207 17 ls h (pII st fun x y r => br (y ≤ x) (nx 70 ls r h) (nx 20 ls r h)) Q := G_unf rfl rfl
theorem g207_20 : G d 207 20 ls st h Q ↔ GN d 207 20 ls h (ldR ls 0 fun a => nx 21 ls (.ref a :: st) h) Q := G_unf rfl rfl
theorem g207_21 : G d 207 21 ls st h Q ↔ GN d 207 21 ls h (pR st fun a r => ck (arr h a 9) (nx 24 ls (rv (hR h a 52) :: r) h)) Q := G_unf rfl rfl
theorem g207_24 : G d 207 24 ls st h Q ↔ GN d 207 24 ls h (nx 26 ls (.int (nI 8) :: st) h) Q := G_unf rfl rfl
theorem g207_26 : G d 207 26 ls st h Q ↔ GN d 207 26 ls h (ldI ls 1 fun x => nx 27 ls (.int x :: st) h) Q := G_unf rfl rfl
theorem g207_27 : G d 207 27 ls st h Q ↔ GN d 207 27 ls h (pII st fun x y r => nx 28 ls (.int (x * y) :: r) h) Q := G_unf rfl rfl
theorem g207_28 : G d 207 28 ls st h Q ↔ GN d 207 28 ls h (ldI ls 3 fun x => nx 29 ls (.int x :: st) h) Q := G_unf rfl rfl
theorem g207_29 : G d 207 29 ls st h Q ↔ GN d 207 29 ls h (pII st fun x y r => nx 30 ls (.int (x + y) :: r) h) Q := G_unf rfl rfl
theorem g207_30 : G d 207 30 ls st h Q ↔ GN d 207 30 ls h (ldR ls 0 fun a => nx 31 ls (.ref a :: st) h) Q := G_unf rfl rfl
theorem g207_31 : G d 207 31 ls st h Q ↔ GN d 207 31 ls h (pR st fun a r => ck (arr h a 9) (nx 34 ls (rv (hR h a 52) :: r) h)) Q := G_unf rfl rfl
theorem g207_34 : G d 207 34 ls st h Q ↔ GN d 207 34 ls h (nx 36 ls (.int (nI 8) :: st) h) Q := G_unf rfl rfl
theorem g207_36 : G d 207 36 ls st h Q ↔ GN d 207 36 ls h (ldI ls 2 fun x => nx 37 ls (.int x :: st) h) Q := G_unf rfl rfl
theorem g207_37 : G d 207 37 ls st h Q ↔ GN d 207 37 ls h (pII st fun x y r => nx 38 ls (.int (x * y) :: r) h) Q := G_unf rfl rfl
theorem g207_38 : G d 207 38 ls st h Q ↔ GN d 207 38 ls h (ldI ls 3 fun x => nx 39 ls (.int x :: st) h) Q := G_unf rfl rfl
theorem g207_39 : G d 207 39 ls st h Q ↔ GN d 207 39 ls h (pII st fun x y r => nx 40 ls (.int (x + y) :: r) h) Q := G_unf rfl rfl
theorem g207_40 : G d 207 40 ls st h Q ↔ GN d 207 40 ls h (pRI st fun a i r => br (a = 1000003) (ck (inb i (hS h).1) (nx 41 ls (.int ((hS h).2 i.toNatClampNeg) :: r) h)) (ck (arr h a 10 ∧ inb i (hLn h a)) (nx 41 ls (.int (hI h a i.toNatClampNeg) :: r) h))) Q := G_unf rfl rfl
theorem g207_41 : G d 207 41 ls st h Q ↔ GN d 207 41 ls h (pRII st fun a i x r => ck (arr h a 10 ∧ inb i (hLn h a)) (nx 42 ls r (sI h a i.toNatClampNeg x))) Q := G_unf rfl rfl
theorem g207_42 : G d 207 42 ls st h Q ↔ GN d 207 42 ls h (ldR ls 0 fun a => nx 43 ls (.ref a :: st) h) Q := G_unf rfl rfl
theorem g207_43 : G d 207 43 ls st h Q ↔ GN d 207 43 ls h (pR st fun a r => ck (arr h a 9) (nx 46 ls (rv (hR h a 53) :: r) h)) Q := G_unf rfl rfl
theorem g207_46 : G d 207 46 ls st h Q ↔ GN d 207 46 ls h (nx 48 ls (.int (nI 8) :: st) h) Q := G_unf rfl rfl
theorem g207_48 : G d 207 48 ls st h Q ↔ GN d 207 48 ls h (ldI ls 1 fun x => nx 49 ls (.int x :: st) h) Q := G_unf rfl rfl
theorem g207_49 : G d 207 49 ls st h Q ↔ GN d 207 49 ls h (pII st fun x y r => nx 50 ls (.int (x * y) :: r) h) Q := G_unf rfl rfl
theorem g207_50 : G d 207 50 ls st h Q ↔ GN d 207 50 ls h (ldI ls 3 fun x => nx 51 ls (.int x :: st) h) Q := G_unf rfl rfl
theorem g207_51 : G d 207 51 ls st h Q ↔ GN d 207 51 ls h (pII st fun x y r => nx 52 ls (.int (x + y) :: r) h) Q := G_unf rfl rfl
theorem g207_52 : G d 207 52 ls st h Q ↔ GN d 207 52 ls h (ldR ls 0 fun a => nx 53 ls (.ref a :: st) h) Q := G_unf rfl rfl
theorem g207_53 : G d 207 53 ls st h Q ↔ GN d 207 53 ls h (pR st fun a r => ck (arr h a 9) (nx 56 ls (rv (hR h a 53) :: r) h)) Q := G_unf rfl rfl
theorem g207_56 : G d 207 56 ls st h Q ↔ GN d 207 56 ls h (nx 58 ls (.int (nI 8) :: st) h) Q := G_unf rfl rfl
theorem g207_58 : G d 207 58 ls st h Q ↔ GN d 207 58 ls h (ldI ls 2 fun x => nx 59 ls (.int x :: st) h) Q := G_unf rfl rfl
theorem g207_59 : G d 207 59 ls st h Q ↔ GN d 207 59 ls h (pII st fun x y r => nx 60 ls (.int (x * y) :: r) h) Q := G_unf rfl rfl
theorem g207_60 : G d 207 60 ls st h Q ↔ GN d 207 60 ls h (ldI ls 3 fun x => nx 61 ls (.int x :: st) h) Q := G_unf rfl rfl
theorem g207_61 : G d 207 61 ls st h Q ↔ GN d 207 61 ls h (pII st fun x y r => nx 62 ls (.int (x + y) :: r) h) Q := G_unf rfl rfl
theorem g207_62 : G d 207 62 ls st h Q ↔ GN d 207 62 ls h (pRI st fun a i r => br (a = 1000003) (ck (inb i (hS h).1) (nx 63 ls (.int ((hS h).2 i.toNatClampNeg) :: r) h)) (ck (arr h a 10 ∧ inb i (hLn h a)) (nx 63 ls (.int (hI h a i.toNatClampNeg) :: r) h))) Q := G_unf rfl rfl
theorem g207_63 : G d 207 63 ls st h Q ↔ GN d 207 63 ls h (pRII st fun a i x r => ck (arr h a 10 ∧ inb i (hLn h a)) (nx 64 ls r (sI h a i.toNatClampNeg x))) Q := G_unf rfl rfl
theorem g207_64 : G d 207 64 ls st h Q ↔ GN d 207 64 ls h (ldI ls 3 fun x => nx 67 (st1 ls 3 (.int (x + (nI 1)))) st h) Q := G_unf rfl rfl
theorem g207_67 : G d 207 67 ls st h Q ↔ GN d 207 67 ls h (nx 14 ls st h) Q := G_unf rfl rfl
theorem g207_70 : G d 207 70 ls st h Q ↔ GN d 207 70 ls h (nx 71 ls (.int (nI 0) :: st) h) Q := G_unf rfl rfl
theorem g207_71 : G d 207 71 ls st h Q ↔ GN d 207 71 ls h (pI st fun x r => ck (3 < ls.length) (nx 72 (st1 ls 3 (.int x)) r h)) Q := G_unf rfl rfl
theorem g207_72 : G d 207 72 ls st h Q ↔ GN d 207 72 ls h (ldI ls 3 fun x => nx 73 ls (.int x :: st) h) Q := G_unf rfl rfl
theorem g207_73 : G d 207 73 ls st h Q ↔ GN d 207 73 ls h (nx 75 ls (.int (nI 96) :: st) h) Q := G_unf rfl rfl
theorem g207_75 : G d 207 75 ls st h Q ↔ GN d 207 75 ls h (pII st fun x y r => br (y ≤ x) (nx 106 ls r h) (nx 78 ls r h)) Q := G_unf rfl rfl
theorem g207_78 : G d 207 78 ls st h Q ↔ GN d 207 78 ls h (ldR ls 0 fun a => nx 79 ls (.ref a :: st) h) Q := G_unf rfl rfl
theorem g207_79 : G d 207 79 ls st h Q ↔ GN d 207 79 ls h (pR st fun a r => ck (arr h a 9) (nx 82 ls (rv (hR h a 54) :: r) h)) Q := G_unf rfl rfl
theorem g207_82 : G d 207 82 ls st h Q ↔ GN d 207 82 ls h (nx 84 ls (.int (nI 96) :: st) h) Q := G_unf rfl rfl
theorem g207_84 : G d 207 84 ls st h Q ↔ GN d 207 84 ls h (ldI ls 1 fun x => nx 85 ls (.int x :: st) h) Q := G_unf rfl rfl
theorem g207_85 : G d 207 85 ls st h Q ↔ GN d 207 85 ls h (pII st fun x y r => nx 86 ls (.int (x * y) :: r) h) Q := G_unf rfl rfl
theorem g207_86 : G d 207 86 ls st h Q ↔ GN d 207 86 ls h (ldI ls 3 fun x => nx 87 ls (.int x :: st) h) Q := G_unf rfl rfl
theorem g207_87 : G d 207 87 ls st h Q ↔ GN d 207 87 ls h (pII st fun x y r => nx 88 ls (.int (x + y) :: r) h) Q := G_unf rfl rfl
theorem g207_88 : G d 207 88 ls st h Q ↔ GN d 207 88 ls h (ldR ls 0 fun a => nx 89 ls (.ref a :: st) h) Q := G_unf rfl rfl
theorem g207_89 : G d 207 89 ls st h Q ↔ GN d 207 89 ls h (pR st fun a r => ck (arr h a 9) (nx 92 ls (rv (hR h a 54) :: r) h)) Q := G_unf rfl rfl
theorem g207_92 : G d 207 92 ls st h Q ↔ GN d 207 92 ls h (nx 94 ls (.int (nI 96) :: st) h) Q := G_unf rfl rfl
theorem g207_94 : G d 207 94 ls st h Q ↔ GN d 207 94 ls h (ldI ls 2 fun x => nx 95 ls (.int x :: st) h) Q := G_unf rfl rfl
theorem g207_95 : G d 207 95 ls st h Q ↔ GN d 207 95 ls h (pII st fun x y r => nx 96 ls (.int (x * y) :: r) h) Q := G_unf rfl rfl
theorem g207_96 : G d 207 96 ls st h Q ↔ GN d 207 96 ls h (ldI ls 3 fun x => nx 97 ls (.int x :: st) h) Q := G_unf rfl rfl
theorem g207_97 : G d 207 97 ls st h Q ↔ GN d 207 97 ls h (pII st fun x y r => nx 98 ls (.int (x + y) :: r) h) Q := G_unf rfl rfl
theorem g207_98 : G d 207 98 ls st h Q ↔ GN d 207 98 ls h (pRI st fun a i r => br (a = 1000003) (ck (inb i (hS h).1) (nx 99 ls (.int ((hS h).2 i.toNatClampNeg) :: r) h)) (ck (arr h a 10 ∧ inb i (hLn h a)) (nx 99 ls (.int (hI h a i.toNatClampNeg) :: r) h))) Q := G_unf rfl rfl
theorem g207_99 : G d 207 99 ls st h Q ↔ GN d 207 99 ls h (pRII st fun a i x r => ck (arr h a 10 ∧ inb i (hLn h a)) (nx 100 ls r (sI h a i.toNatClampNeg x))) Q := G_unf rfl rfl
theorem g207_100 : G d 207 100 ls st h Q ↔ GN d 207 100 ls h (ldI ls 3 fun x => nx 103 (st1 ls 3 (.int (x + (nI 1)))) st h) Q := G_unf rfl rfl
theorem g207_103 : G d 207 103 ls st h Q ↔ GN d 207 103 ls h (nx 72 ls st h) Q := G_unf rfl rfl
theorem g207_106 : G d 207 106 ls st h Q ↔ GN d 207 106 ls h (ldR ls 0 fun a => nx 107 ls (.ref a :: st) h) Q := G_unf rfl rfl
theorem g207_107 : G d 207 107 ls st h Q ↔ GN d 207 107 ls h (pR st fun a r => ck (arr h a 9) (nx 110 ls (rv (hR h a 55) :: r) h)) Q := G_unf rfl rfl
theorem g207_110 : G d 207 110 ls st h Q ↔ GN d 207 110 ls h (ldI ls 1 fun x => nx 111 ls (.int x :: st) h) Q := G_unf rfl rfl
theorem g207_111 : G d 207 111 ls st h Q ↔ GN d 207 111 ls h (ldR ls 0 fun a => nx 112 ls (.ref a :: st) h) Q := G_unf rfl rfl
theorem g207_112 : G d 207 112 ls st h Q ↔ GN d 207 112 ls h (pR st fun a r => ck (arr h a 9) (nx 115 ls (rv (hR h a 55) :: r) h)) Q := G_unf rfl rfl
theorem g207_115 : G d 207 115 ls st h Q ↔ GN d 207 115 ls h (ldI ls 2 fun x => nx 116 ls (.int x :: st) h) Q := G_unf rfl rfl
theorem g207_116 : G d 207 116 ls st h Q ↔ GN d 207 116 ls h (pRI st fun a i r => br (a = 1000003) (ck (inb i (hS h).1) (nx 117 ls (.int ((hS h).2 i.toNatClampNeg) :: r) h)) (ck (arr h a 10 ∧ inb i (hLn h a)) (nx 117 ls (.int (hI h a i.toNatClampNeg) :: r) h))) Q := G_unf rfl rfl
theorem g207_117 : G d 207 117 ls st h Q ↔ GN d 207 117 ls h (pRII st fun a i x r => ck (arr h a 10 ∧ inb i (hLn h a)) (nx 118 ls r (sI h a i.toNatClampNeg x))) Q := G_unf rfl rfl
theorem g207_118 : G d 207 118 ls st h Q ↔ GN d 207 118 ls h (nx 119 ls (.int (nI 0) :: st) h) Q := G_unf rfl rfl
theorem g207_119 : G d 207 119 ls st h Q ↔ GN d 207 119 ls h (pI st fun x r => ck (3 < ls.length) (nx 120 (st1 ls 3 (.int x)) r h)) Q := G_unf rfl rfl
theorem g207_120 : G d 207 120 ls st h Q ↔ GN d 207 120 ls h (ldI ls 3 fun x => nx 121 ls (.int x :: st) h) Q := G_unf rfl rfl
set_option maxRecDepth 100000 in
theorem g207_121 : G d 207 121 ls st h Q ↔ GN d 207 121 ls h (ldR ls 0 fun a => nx 122 ls (.ref a :: st) h) Q := G_unf rfl rfl
set_option maxRecDepth 100000 in
theorem g207_122 : G d 207 122 ls st h Q ↔ GN d 207 122 ls h (pR st fun a r => ck (arr h a 9) (nx 125 ls (rv (hR h a 55) :: r) h)) Q := G_unf rfl rfl
set_option maxRecDepth 100000 in
theorem g207_125 : G d 207 125 ls st h Q ↔ GN d 207 125 ls h (ldI ls 2 fun x => nx 126 ls (.int x :: st) h) Q := G_unf rfl rfl
set_option maxRecDepth 100000 in
theorem g207_126 : G d 207 126 ls st h Q ↔ GN d 207 126 ls h (pRI st fun a i r => br (a = 1000003) (ck (inb i (hS h).1) (nx 127 ls (.int ((hS h).2 i.toNatClampNeg) :: r) h)) (ck (arr h a 10 ∧ inb i (hLn h a)) (nx 127 ls (.int (hI h a i.toNatClampNeg) :: r) h))) Q := G_unf rfl rfl
set_option maxRecDepth 100000 in
theorem g207_127 : G d 207 127 ls st h Q ↔ GN d 207 127 ls h (pII st fun x y r => br (y ≤ x) (nx 224 ls r h) (nx 130 ls r h)) Q := G_unf rfl rfl
set_option maxRecDepth 100000 in
theorem g207_130 : G d 207 130 ls st h Q ↔ GN d 207 130 ls h (ldR ls 0 fun a => nx 131 ls (.ref a :: st) h) Q := G_unf rfl rfl
set_option maxRecDepth 100000 in
theorem g207_131 : G d 207 131 ls st h Q ↔ GN d 207 131 ls h (pR st fun a r => ck (arr h a 9) (nx 134 ls (rv (hR h a 56) :: r) h)) Q := G_unf rfl rfl
set_option maxRecDepth 100000 in
theorem g207_134 : G d 207 134 ls st h Q ↔ GN d 207 134 ls h (nx 136 ls (.int (nI 40) :: st) h) Q := G_unf rfl rfl
set_option maxRecDepth 100000 in
theorem g207_136 : G d 207 136 ls st h Q ↔ GN d 207 136 ls h (ldI ls 1 fun x => nx 137 ls (.int x :: st) h) Q := G_unf rfl rfl
set_option maxRecDepth 100000 in
theorem g207_137 : G d 207 137 ls st h Q ↔ GN d 207 137 ls h (pII st fun x y r => nx 138 ls (.int (x * y) :: r) h) Q := G_unf rfl rfl
set_option maxRecDepth 100000 in
theorem g207_138 : G d 207 138 ls st h Q ↔ GN d 207 138 ls h (ldI ls 3 fun x => nx 139 ls (.int x :: st) h) Q := G_unf rfl rfl
set_option maxRecDepth 100000 in
theorem g207_139 : G d 207 139 ls st h Q ↔ GN d 207 139 ls h (pII st fun x y r => nx 140 ls (.int (x + y) :: r) h) Q := G_unf rfl rfl
set_option maxRecDepth 100000 in
theorem g207_140 : G d 207 140 ls st h Q ↔ GN d 207 140 ls h (ldR ls 0 fun a => nx 141 ls (.ref a :: st) h) Q := G_unf rfl rfl
set_option maxRecDepth 100000 in
theorem g207_141 : G d 207 141 ls st h Q ↔ GN d 207 141 ls h (pR st fun a r => ck (arr h a 9) (nx 144 ls (rv (hR h a 56) :: r) h)) Q := G_unf rfl rfl
set_option maxRecDepth 100000 in
theorem g207_144 : G d 207 144 ls st h Q ↔ GN d 207 144 ls h (nx 146 ls (.int (nI 40) :: st) h) Q := G_unf rfl rfl
set_option maxRecDepth 100000 in
theorem g207_146 : G d 207 146 ls st h Q ↔ GN d 207 146 ls h (ldI ls 2 fun x => nx 147 ls (.int x :: st) h) Q := G_unf rfl rfl
set_option maxRecDepth 100000 in
theorem g207_147 : G d 207 147 ls st h Q ↔ GN d 207 147 ls h (pII st fun x y r => nx 148 ls (.int (x * y) :: r) h) Q := G_unf rfl rfl
set_option maxRecDepth 100000 in
theorem g207_148 : G d 207 148 ls st h Q ↔ GN d 207 148 ls h (ldI ls 3 fun x => nx 149 ls (.int x :: st) h) Q := G_unf rfl rfl
set_option maxRecDepth 100000 in
theorem g207_149 : G d 207 149 ls st h Q ↔ GN d 207 149 ls h (pII st fun x y r => nx 150 ls (.int (x + y) :: r) h) Q := G_unf rfl rfl
set_option maxRecDepth 100000 in
theorem g207_150 : G d 207 150 ls st h Q ↔ GN d 207 150 ls h (pRI st fun a i r => br (a = 1000003) (ck (inb i (hS h).1) (nx 151 ls (.int ((hS h).2 i.toNatClampNeg) :: r) h)) (ck (arr h a 10 ∧ inb i (hLn h a)) (nx 151 ls (.int (hI h a i.toNatClampNeg) :: r) h))) Q := G_unf rfl rfl
set_option maxRecDepth 100000 in
theorem g207_151 : G d 207 151 ls st h Q ↔ GN d 207 151 ls h (pRII st fun a i x r => ck (arr h a 10 ∧ inb i (hLn h a)) (nx 152 ls r (sI h a i.toNatClampNeg x))) Q := G_unf rfl rfl
set_option maxRecDepth 100000 in
theorem g207_152 : G d 207 152 ls st h Q ↔ GN d 207 152 ls h (ldR ls 0 fun a => nx 153 ls (.ref a :: st) h) Q := G_unf rfl rfl
set_option maxRecDepth 100000 in
theorem g207_153 : G d 207 153 ls st h Q ↔ GN d 207 153 ls h (pR st fun a r => ck (arr h a 9) (nx 156 ls (rv (hR h a 57) :: r) h)) Q := G_unf rfl rfl
set_option maxRecDepth 100000 in
theorem g207_156 : G d 207 156 ls st h Q ↔ GN d 207 156 ls h (nx 158 ls (.int (nI 40) :: st) h) Q := G_unf rfl rfl
set_option maxRecDepth 100000 in
theorem g207_158 : G d 207 158 ls st h Q ↔ GN d 207 158 ls h (ldI ls 1 fun x => nx 159 ls (.int x :: st) h) Q := G_unf rfl rfl
set_option maxRecDepth 100000 in
theorem g207_159 : G d 207 159 ls st h Q ↔ GN d 207 159 ls h (pII st fun x y r => nx 160 ls (.int (x * y) :: r) h) Q := G_unf rfl rfl
set_option maxRecDepth 100000 in
theorem g207_160 : G d 207 160 ls st h Q ↔ GN d 207 160 ls h (ldI ls 3 fun x => nx 161 ls (.int x :: st) h) Q := G_unf rfl rfl
set_option maxRecDepth 100000 in
theorem g207_161 : G d 207 161 ls st h Q ↔ GN d 207 161 ls h (pII st fun x y r => nx 162 ls (.int (x + y) :: r) h) Q := G_unf rfl rfl
set_option maxRecDepth 100000 in
theorem g207_162 : G d 207 162 ls st h Q ↔ GN d 207 162 ls h (ldR ls 0 fun a => nx 163 ls (.ref a :: st) h) Q := G_unf rfl rfl
set_option maxRecDepth 100000 in
theorem g207_163 : G d 207 163 ls st h Q ↔ GN d 207 163 ls h (pR st fun a r => ck (arr h a 9) (nx 166 ls (rv (hR h a 57) :: r) h)) Q := G_unf rfl rfl
set_option maxRecDepth 100000 in
theorem g207_166 : G d 207 166 ls st h Q ↔ GN d 207 166 ls h (nx 168 ls (.int (nI 40) :: st) h) Q := G_unf rfl rfl
set_option maxRecDepth 100000 in
theorem g207_168 : G d 207 168 ls st h Q ↔ GN d 207 168 ls h (ldI ls 2 fun x => nx 169 ls (.int x :: st) h) Q := G_unf rfl rfl
set_option maxRecDepth 100000 in
theorem g207_169 : G d 207 169 ls st h Q ↔ GN d 207 169 ls h (pII st fun x y r => nx 170 ls (.int (x * y) :: r) h) Q := G_unf rfl rfl
set_option maxRecDepth 100000 in
theorem g207_170 : G d 207 170 ls st h Q ↔ GN d 207 170 ls h (ldI ls 3 fun x => nx 171 ls (.int x :: st) h) Q := G_unf rfl rfl
set_option maxRecDepth 100000 in
theorem g207_171 : G d 207 171 ls st h Q ↔ GN d 207 171 ls h (pII st fun x y r => nx 172 ls (.int (x + y) :: r) h) Q := G_unf rfl rfl
set_option maxRecDepth 100000 in
theorem g207_172 : G d 207 172 ls st h Q ↔ GN d 207 172 ls h (pRI st fun a i r => br (a = 1000003) (ck (inb i (hS h).1) (nx 173 ls (.int ((hS h).2 i.toNatClampNeg) :: r) h)) (ck (arr h a 10 ∧ inb i (hLn h a)) (nx 173 ls (.int (hI h a i.toNatClampNeg) :: r) h))) Q := G_unf rfl rfl
set_option maxRecDepth 100000 in
theorem g207_173 : G d 207 173 ls st h Q ↔ GN d 207 173 ls h (pRII st fun a i x r => ck (arr h a 10 ∧ inb i (hLn h a)) (nx 174 ls r (sI h a i.toNatClampNeg x))) Q := G_unf rfl rfl
set_option maxRecDepth 100000 in
theorem g207_174 : G d 207 174 ls st h Q ↔ GN d 207 174 ls h (ldR ls 0 fun a => nx 175 ls (.ref a :: st) h) Q := G_unf rfl rfl
set_option maxRecDepth 100000 in
theorem g207_175 : G d 207 175 ls st h Q ↔ GN d 207 175 ls h (pR st fun a r => ck (arr h a 9) (nx 178 ls (rv (hR h a 58) :: r) h)) Q := G_unf rfl rfl
set_option maxRecDepth 100000 in
theorem g207_178 : G d 207 178 ls st h Q ↔ GN d 207 178 ls h (nx 180 ls (.int (nI 40) :: st) h) Q := G_unf rfl rfl
set_option maxRecDepth 100000 in
theorem g207_180 : G d 207 180 ls st h Q ↔ GN d 207 180 ls h (ldI ls 1 fun x => nx 181 ls (.int x :: st) h) Q := G_unf rfl rfl
set_option maxRecDepth 100000 in
theorem g207_181 : G d 207 181 ls st h Q ↔ GN d 207 181 ls h (pII st fun x y r => nx 182 ls (.int (x * y) :: r) h) Q := G_unf rfl rfl
set_option maxRecDepth 100000 in
theorem g207_182 : G d 207 182 ls st h Q ↔ GN d 207 182 ls h (ldI ls 3 fun x => nx 183 ls (.int x :: st) h) Q := G_unf rfl rfl
set_option maxRecDepth 100000 in
theorem g207_183 : G d 207 183 ls st h Q ↔ GN d 207 183 ls h (pII st fun x y r => nx 184 ls (.int (x + y) :: r) h) Q := G_unf rfl rfl
set_option maxRecDepth 100000 in
theorem g207_184 : G d 207 184 ls st h Q ↔ GN d 207 184 ls h (ldR ls 0 fun a => nx 185 ls (.ref a :: st) h) Q := G_unf rfl rfl
set_option maxRecDepth 100000 in
theorem g207_185 : G d 207 185 ls st h Q ↔ GN d 207 185 ls h (pR st fun a r => ck (arr h a 9) (nx 188 ls (rv (hR h a 58) :: r) h)) Q := G_unf rfl rfl
set_option maxRecDepth 100000 in
theorem g207_188 : G d 207 188 ls st h Q ↔ GN d 207 188 ls h (nx 190 ls (.int (nI 40) :: st) h) Q := G_unf rfl rfl
set_option maxRecDepth 100000 in
theorem g207_190 : G d 207 190 ls st h Q ↔ GN d 207 190 ls h (ldI ls 2 fun x => nx 191 ls (.int x :: st) h) Q := G_unf rfl rfl
set_option maxRecDepth 100000 in
theorem g207_191 : G d 207 191 ls st h Q ↔ GN d 207 191 ls h (pII st fun x y r => nx 192 ls (.int (x * y) :: r) h) Q := G_unf rfl rfl
set_option maxRecDepth 100000 in
theorem g207_192 : G d 207 192 ls st h Q ↔ GN d 207 192 ls h (ldI ls 3 fun x => nx 193 ls (.int x :: st) h) Q := G_unf rfl rfl
set_option maxRecDepth 100000 in
theorem g207_193 : G d 207 193 ls st h Q ↔ GN d 207 193 ls h (pII st fun x y r => nx 194 ls (.int (x + y) :: r) h) Q := G_unf rfl rfl
set_option maxRecDepth 100000 in
theorem g207_194 : G d 207 194 ls st h Q ↔ GN d 207 194 ls h (pRI st fun a i r => br (a = 1000003) (ck (inb i (hS h).1) (nx 195 ls (.int ((hS h).2 i.toNatClampNeg) :: r) h)) (ck (arr h a 10 ∧ inb i (hLn h a)) (nx 195 ls (.int (hI h a i.toNatClampNeg) :: r) h))) Q := G_unf rfl rfl
set_option maxRecDepth 100000 in
theorem g207_195 : G d 207 195 ls st h Q ↔ GN d 207 195 ls h (pRII st fun a i x r => ck (arr h a 10 ∧ inb i (hLn h a)) (nx 196 ls r (sI h a i.toNatClampNeg x))) Q := G_unf rfl rfl
set_option maxRecDepth 100000 in
theorem g207_196 : G d 207 196 ls st h Q ↔ GN d 207 196 ls h (ldR ls 0 fun a => nx 197 ls (.ref a :: st) h) Q := G_unf rfl rfl
set_option maxRecDepth 100000 in
theorem g207_197 : G d 207 197 ls st h Q ↔ GN d 207 197 ls h (pR st fun a r => ck (arr h a 9) (nx 200 ls (rv (hR h a 59) :: r) h)) Q := G_unf rfl rfl
set_option maxRecDepth 100000 in
theorem g207_200 : G d 207 200 ls st h Q ↔ GN d 207 200 ls h (nx 202 ls (.int (nI 40) :: st) h) Q := G_unf rfl rfl
set_option maxRecDepth 100000 in
theorem g207_202 : G d 207 202 ls st h Q ↔ GN d 207 202 ls h (ldI ls 1 fun x => nx 203 ls (.int x :: st) h) Q := G_unf rfl rfl
set_option maxRecDepth 100000 in
theorem g207_203 : G d 207 203 ls st h Q ↔ GN d 207 203 ls h (pII st fun x y r => nx 204 ls (.int (x * y) :: r) h) Q := G_unf rfl rfl
set_option maxRecDepth 100000 in
theorem g207_204 : G d 207 204 ls st h Q ↔ GN d 207 204 ls h (ldI ls 3 fun x => nx 205 ls (.int x :: st) h) Q := G_unf rfl rfl
set_option maxRecDepth 100000 in
theorem g207_205 : G d 207 205 ls st h Q ↔ GN d 207 205 ls h (pII st fun x y r => nx 206 ls (.int (x + y) :: r) h) Q := G_unf rfl rfl
set_option maxRecDepth 100000 in
theorem g207_206 : G d 207 206 ls st h Q ↔ GN d 207 206 ls h (ldR ls 0 fun a => nx 207 ls (.ref a :: st) h) Q := G_unf rfl rfl
set_option maxRecDepth 100000 in
theorem g207_207 : G d 207 207 ls st h Q ↔ GN d 207 207 ls h (pR st fun a r => ck (arr h a 9) (nx 210 ls (rv (hR h a 59) :: r) h)) Q := G_unf rfl rfl
set_option maxRecDepth 100000 in
theorem g207_210 : G d 207 210 ls st h Q ↔ GN d 207 210 ls h (nx 212 ls (.int (nI 40) :: st) h) Q := G_unf rfl rfl
set_option maxRecDepth 100000 in
theorem g207_212 : G d 207 212 ls st h Q ↔ GN d 207 212 ls h (ldI ls 2 fun x => nx 213 ls (.int x :: st) h) Q := G_unf rfl rfl
set_option maxRecDepth 100000 in
theorem g207_213 : G d 207 213 ls st h Q ↔ GN d 207 213 ls h (pII st fun x y r => nx 214 ls (.int (x * y) :: r) h) Q := G_unf rfl rfl
set_option maxRecDepth 100000 in
theorem g207_214 : G d 207 214 ls st h Q ↔ GN d 207 214 ls h (ldI ls 3 fun x => nx 215 ls (.int x :: st) h) Q := G_unf rfl rfl
set_option maxRecDepth 100000 in
theorem g207_215 : G d 207 215 ls st h Q ↔ GN d 207 215 ls h (pII st fun x y r => nx 216 ls (.int (x + y) :: r) h) Q := G_unf rfl rfl
set_option maxRecDepth 100000 in
theorem g207_216 : G d 207 216 ls st h Q ↔ GN d 207 216 ls h (pRI st fun a i r => br (a = 1000003) (ck (inb i (hS h).1) (nx 217 ls (.int ((hS h).2 i.toNatClampNeg) :: r) h)) (ck (arr h a 10 ∧ inb i (hLn h a)) (nx 217 ls (.int (hI h a i.toNatClampNeg) :: r) h))) Q := G_unf rfl rfl
set_option maxRecDepth 100000 in
theorem g207_217 : G d 207 217 ls st h Q ↔ GN d 207 217 ls h (pRII st fun a i x r => ck (arr h a 10 ∧ inb i (hLn h a)) (nx 218 ls r (sI h a i.toNatClampNeg x))) Q := G_unf rfl rfl
set_option maxRecDepth 100000 in
theorem g207_218 : G d 207 218 ls st h Q ↔ GN d 207 218 ls h (ldI ls 3 fun x => nx 221 (st1 ls 3 (.int (x + (nI 1)))) st h) Q := G_unf rfl rfl
set_option maxRecDepth 100000 in
theorem g207_221 : G d 207 221 ls st h Q ↔ GN d 207 221 ls h (nx 120 ls st h) Q := G_unf rfl rfl
set_option maxRecDepth 100000 in
theorem g207_224 : G d 207 224 ls st h Q ↔ GN d 207 224 ls h (pE st (rtn none)) Q := G_unf rfl rfl
theorem g208_0 : G d 208 0 ls st h Q ↔ GN d 208 0 ls h (ldR ls 0 fun a => nx 1 ls (.ref a :: st) h) Q := G_unf rfl rfl
theorem g208_1 : G d 208 1 ls st h Q ↔ GN d 208 1 ls h (pR st fun a r => ck (arr h a 9) (nx 4 ls (rv (hR h a 51) :: r) h)) Q := G_unf rfl rfl
theorem g208_4 : G d 208 4 ls st h Q ↔ GN d 208 4 ls h (nx 5 ls (.int (nI 0) :: st) h) Q := G_unf rfl rfl
theorem g208_5 : G d 208 5 ls st h Q ↔ GN d 208 5 ls h (nx 6 ls (.int (nI 0) :: st) h) Q := G_unf rfl rfl
theorem g208_6 : G d 208 6 ls st h Q ↔ GN d 208 6 ls h (pRII st fun a i x r => ck (arr h a 10 ∧ inb i (hLn h a)) (nx 7 ls r (sI h a i.toNatClampNeg x))) Q := G_unf rfl rfl
theorem g208_7 : G d 208 7 ls st h Q ↔ GN d 208 7 ls h (ldR ls 0 fun a => nx 8 ls (.ref a :: st) h) Q := G_unf rfl rfl
theorem g208_8 : G d 208 8 ls st h Q ↔ GN d 208 8 ls h (pR st fun a r => ck (arr h a 9) (nx 11 ls (rv (hR h a 55) :: r) h)) Q := G_unf rfl rfl
theorem g208_11 : G d 208 11 ls st h Q ↔ GN d 208 11 ls h (nx 12 ls (.int (nI 0) :: st) h) Q := G_unf rfl rfl
theorem g208_12 : G d 208 12 ls st h Q ↔ GN d 208 12 ls h (nx 13 ls (.int (nI 0) :: st) h) Q := G_unf rfl rfl
theorem g208_13 : G d 208 13 ls st h Q ↔ GN d 208 13 ls h (pRII st fun a i x r => ck (arr h a 10 ∧ inb i (hLn h a)) (nx 14 ls r (sI h a i.toNatClampNeg x))) Q := G_unf rfl rfl
theorem g208_14 : G d 208 14 ls st h Q ↔ GN d 208 14 ls h (ldR ls 0 fun a => nx 15 ls (.ref a :: st) h) Q := G_unf rfl rfl
theorem g208_15 : G d 208 15 ls st h Q ↔ GN d 208 15 ls h (nx 16 ls (.int (nI 0) :: st) h) Q := G_unf rfl rfl
theorem g208_16 : G d 208 16 ls st h Q ↔ GN d 208 16 ls h (pRI st fun a x r => ck (arr h a 9) (nx 19 ls r (sI h a 61 x))) Q := G_unf rfl rfl
theorem g208_19 : G d 208 19 ls st h Q ↔ GN d 208 19 ls h (nx 20 ls (.int (nI 0) :: st) h) Q := G_unf rfl rfl
theorem g208_20 : G d 208 20 ls st h Q ↔ GN d 208 20 ls h (pI st fun x r => ck (1 < ls.length) (nx 21 (st1 ls 1 (.int x)) r h)) Q := G_unf rfl rfl
theorem g208_21 : G d 208 21 ls st h Q ↔ GN d 208 21 ls h (ldI ls 1 fun x => nx 22 ls (.int x :: st) h) Q := G_unf rfl rfl
theorem g208_22 : G d 208 22 ls st h Q ↔ GN d 208 22 ls h (nx 24 ls (.int (nI 8) :: st) h) Q := G_unf rfl rfl
theorem g208_24 : G d 208 24 ls st h Q ↔ GN d 208 24 ls h (pII st fun x y r => br (y ≤ x) (nx 60 ls r h) (nx 27 ls r h)) Q := G_unf rfl rfl
theorem g208_27 : G d 208 27 ls st h Q ↔ GN d 208 27 ls h (ldR ls 0 fun a => nx 28 ls (.ref a :: st) h) Q := G_unf rfl rfl
theorem g208_28 : G d 208 28 ls st h Q ↔ GN d 208 28 ls h (pR st fun a r => ck (arr h a 9) (nx 31 ls (rv (hR h a 52) :: r) h)) Q := G_unf rfl rfl
theorem g208_31 : G d 208 31 ls st h Q ↔ GN d 208 31 ls h (ldI ls 1 fun x => nx 32 ls (.int x :: st) h) Q := G_unf rfl rfl
theorem g208_32 : G d 208 32 ls st h Q ↔ GN d 208 32 ls h (nx 33 ls (.int (nI 0) :: st) h) Q := G_unf rfl rfl
theorem g208_33 : G d 208 33 ls st h Q ↔ GN d 208 33 ls h (pRII st fun a i x r => ck (arr h a 10 ∧ inb i (hLn h a)) (nx 34 ls r (sI h a i.toNatClampNeg x))) Q := G_unf rfl rfl
theorem g208_34 : G d 208 34 ls st h Q ↔ GN d 208 34 ls h (ldR ls 0 fun a => nx 35 ls (.ref a :: st) h) Q := G_unf rfl rfl
theorem g208_35 : G d 208 35 ls st h Q ↔ GN d 208 35 ls h (pR st fun a r => ck (arr h a 9) (nx 38 ls (rv (hR h a 53) :: r) h)) Q := G_unf rfl rfl
theorem g208_38 : G d 208 38 ls st h Q ↔ GN d 208 38 ls h (ldI ls 1 fun x => nx 39 ls (.int x :: st) h) Q := G_unf rfl rfl
theorem g208_39 : G d 208 39 ls st h Q ↔ GN d 208 39 ls h (ldR ls 0 fun a => nx 40 ls (.ref a :: st) h) Q := G_unf rfl rfl
theorem g208_40 : G d 208 40 ls st h Q ↔ GN d 208 40 ls h (pR st fun a r => ck (arr h a 9) (nx 43 ls (rv (hR h a 22) :: r) h)) Q := G_unf rfl rfl
theorem g208_43 : G d 208 43 ls st h Q ↔ GN d 208 43 ls h (nx 45 ls (.int (nI 8) :: st) h) Q := G_unf rfl rfl
theorem g208_45 : G d 208 45 ls st h Q ↔ GN d 208 45 ls h (ldR ls 0 fun a => nx 46 ls (.ref a :: st) h) Q := G_unf rfl rfl
theorem g208_46 : G d 208 46 ls st h Q ↔ GN d 208 46 ls h (pR st fun a r => ck (arr h a 9) (nx 49 ls (.int (hI h a 13) :: r) h)) Q := G_unf rfl rfl
theorem g208_49 : G d 208 49 ls st h Q ↔ GN d 208 49 ls h (pII st fun x y r => nx 50 ls (.int (x * y) :: r) h) Q := G_unf rfl rfl
theorem g208_50 : G d 208 50 ls st h Q ↔ GN d 208 50 ls h (ldI ls 1 fun x => nx 51 ls (.int x :: st) h) Q := G_unf rfl rfl
theorem g208_51 : G d 208 51 ls st h Q ↔ GN d 208 51 ls h (pII st fun x y r => nx 52 ls (.int (x + y) :: r) h) Q := G_unf rfl rfl
theorem g208_52 : G d 208 52 ls st h Q ↔ GN d 208 52 ls h (pRI st fun a i r => br (a = 1000003) (ck (inb i (hS h).1) (nx 53 ls (.int ((hS h).2 i.toNatClampNeg) :: r) h)) (ck (arr h a 10 ∧ inb i (hLn h a)) (nx 53 ls (.int (hI h a i.toNatClampNeg) :: r) h))) Q := G_unf rfl rfl
theorem g208_53 : G d 208 53 ls st h Q ↔ GN d 208 53 ls h (pRII st fun a i x r => ck (arr h a 10 ∧ inb i (hLn h a)) (nx 54 ls r (sI h a i.toNatClampNeg x))) Q := G_unf rfl rfl
theorem g208_54 : G d 208 54 ls st h Q ↔ GN d 208 54 ls h (ldI ls 1 fun x => nx 57 (st1 ls 1 (.int (x + (nI 1)))) st h) Q := G_unf rfl rfl
theorem g208_57 : G d 208 57 ls st h Q ↔ GN d 208 57 ls h (nx 21 ls st h) Q := G_unf rfl rfl
theorem g208_60 : G d 208 60 ls st h Q ↔ GN d 208 60 ls h (nx 61 ls (.int (nI 0) :: st) h) Q := G_unf rfl rfl
theorem g208_61 : G d 208 61 ls st h Q ↔ GN d 208 61 ls h (pI st fun x r => ck (1 < ls.length) (nx 62 (st1 ls 1 (.int x)) r h)) Q := G_unf rfl rfl
theorem g208_62 : G d 208 62 ls st h Q ↔ GN d 208 62 ls h (ldI ls 1 fun x => nx 63 ls (.int x :: st) h) Q := G_unf rfl rfl
theorem g208_63 : G d 208 63 ls st h Q ↔ GN d 208 63 ls h (nx 65 ls (.int (nI 96) :: st) h) Q := G_unf rfl rfl
theorem g208_65 : G d 208 65 ls st h Q ↔ GN d 208 65 ls h (pII st fun x y r => br (y ≤ x) (nx 94 ls r h) (nx 68 ls r h)) Q := G_unf rfl rfl
theorem g208_68 : G d 208 68 ls st h Q ↔ GN d 208 68 ls h (ldR ls 0 fun a => nx 69 ls (.ref a :: st) h) Q := G_unf rfl rfl
theorem g208_69 : G d 208 69 ls st h Q ↔ GN d 208 69 ls h (pR st fun a r => ck (arr h a 9) (nx 72 ls (rv (hR h a 54) :: r) h)) Q := G_unf rfl rfl
theorem g208_72 : G d 208 72 ls st h Q ↔ GN d 208 72 ls h (ldI ls 1 fun x => nx 73 ls (.int x :: st) h) Q := G_unf rfl rfl
theorem g208_73 : G d 208 73 ls st h Q ↔ GN d 208 73 ls h (ldR ls 0 fun a => nx 74 ls (.ref a :: st) h) Q := G_unf rfl rfl
theorem g208_74 : G d 208 74 ls st h Q ↔ GN d 208 74 ls h (pR st fun a r => ck (arr h a 9) (nx 77 ls (rv (hR h a 28) :: r) h)) Q := G_unf rfl rfl
theorem g208_77 : G d 208 77 ls st h Q ↔ GN d 208 77 ls h (nx 79 ls (.int (nI 96) :: st) h) Q := G_unf rfl rfl
theorem g208_79 : G d 208 79 ls st h Q ↔ GN d 208 79 ls h (ldR ls 0 fun a => nx 80 ls (.ref a :: st) h) Q := G_unf rfl rfl
theorem g208_80 : G d 208 80 ls st h Q ↔ GN d 208 80 ls h (pR st fun a r => ck (arr h a 9) (nx 83 ls (.int (hI h a 13) :: r) h)) Q := G_unf rfl rfl
theorem g208_83 : G d 208 83 ls st h Q ↔ GN d 208 83 ls h (pII st fun x y r => nx 84 ls (.int (x * y) :: r) h) Q := G_unf rfl rfl
theorem g208_84 : G d 208 84 ls st h Q ↔ GN d 208 84 ls h (ldI ls 1 fun x => nx 85 ls (.int x :: st) h) Q := G_unf rfl rfl
theorem g208_85 : G d 208 85 ls st h Q ↔ GN d 208 85 ls h (pII st fun x y r => nx 86 ls (.int (x + y) :: r) h) Q := G_unf rfl rfl
theorem g208_86 : G d 208 86 ls st h Q ↔ GN d 208 86 ls h (pRI st fun a i r => br (a = 1000003) (ck (inb i (hS h).1) (nx 87 ls (.int ((hS h).2 i.toNatClampNeg) :: r) h)) (ck (arr h a 10 ∧ inb i (hLn h a)) (nx 87 ls (.int (hI h a i.toNatClampNeg) :: r) h))) Q := G_unf rfl rfl
theorem g208_87 : G d 208 87 ls st h Q ↔ GN d 208 87 ls h (pRII st fun a i x r => ck (arr h a 10 ∧ inb i (hLn h a)) (nx 88 ls r (sI h a i.toNatClampNeg x))) Q := G_unf rfl rfl
theorem g208_88 : G d 208 88 ls st h Q ↔ GN d 208 88 ls h (ldI ls 1 fun x => nx 91 (st1 ls 1 (.int (x + (nI 1)))) st h) Q := G_unf rfl rfl
theorem g208_91 : G d 208 91 ls st h Q ↔ GN d 208 91 ls h (nx 62 ls st h) Q := G_unf rfl rfl
theorem g208_94 : G d 208 94 ls st h Q ↔ GN d 208 94 ls h (ldR ls 0 fun a => nx 95 ls (.ref a :: st) h) Q := G_unf rfl rfl
theorem g208_95 : G d 208 95 ls st h Q ↔ GN d 208 95 ls h (nx 96 ls (.int (nI 0) :: st) h) Q := G_unf rfl rfl
theorem g208_96 : G d 208 96 ls st h Q ↔ GN d 208 96 ls h (pA 1 st fun as r => pR r fun a r => ck (r.length ≤ 4 ∧ arr h a 9) (cll 229 (.ref a :: as) r)) Q := G_unf rfl rfl
theorem g208_99 : G d 208 99 ls st h Q ↔ GN d 208 99 ls h (pE st (rtn none)) Q := G_unf rfl rfl
theorem g209_0 : G d 209 0 ls st h Q ↔ GN d 209 0 ls h (nx 1 ls (.int (nI 2) :: st) h) Q := G_unf rfl rfl
theorem g209_1 : G d 209 1 ls st h Q ↔ GN d 209 1 ls h (ldR ls 0 fun a => nx 2 ls (.ref a :: st) h) Q := G_unf rfl rfl
theorem g209_2 : G d 209 2 ls st h Q ↔ GN d 209 2 ls h (pR st fun a r => ck (arr h a 9) (nx 5 ls (.int (hI h a 60) :: r) h)) Q := G_unf rfl rfl
theorem g209_5 : G d 209 5 ls st h Q ↔ GN d 209 5 ls h (ldI ls 1 fun x => nx 6 ls (.int x :: st) h) Q := G_unf rfl rfl
theorem g209_6 : G d 209 6 ls st h Q ↔ GN d 209 6 ls h (pII st fun x y r => nx 7 ls (.int (x + y) :: r) h) Q := G_unf rfl rfl
theorem g209_7 : G d 209 7 ls st h Q ↔ GN d 209 7 ls h (nx 9 ls (.int (nI 20) :: st) h) Q := G_unf rfl rfl
theorem g209_9 : G d 209 9 ls st h Q ↔ GN d 209 9 ls h (pII st fun x y r => ck (¬ y = 0) (nx 10 ls (.int (x - x / y * y) :: r) h)) Q := G_unf rfl rfl
theorem g209_10 : G d 209 10 ls st h Q ↔ GN d 209 10 ls h (pII st fun x y r => nx 11 ls (.int (x + y) :: r) h) Q := G_unf rfl rfl
theorem g209_11 : G d 209 11 ls st h Q ↔ GN d 209 11 ls h (pIe st fun x => rtn (some (.int x))) Q := G_unf rfl rfl
theorem g210_0 : G d 210 0 ls st h Q ↔ GN d 210 0 ls h (ldR ls 0 fun a => nx 1 ls (.ref a :: st) h) Q := G_unf rfl rfl
theorem g210_1 : G d 210 1 ls st h Q ↔ GN d 210 1 ls h (pR st fun a r => ck (arr h a 9) (nx 4 ls (.int (hI h a 61) :: r) h)) Q := G_unf rfl rfl
theorem g210_4 : G d 210 4 ls st h Q ↔ GN d 210 4 ls h (nx 6 ls (.int (nI 20) :: st) h) Q := G_unf rfl rfl
theorem g210_6 : G d 210 6 ls st h Q ↔ GN d 210 6 ls h (pII st fun x y r => br (¬ x = y) (nx 32 ls r h) (nx 9 ls r h)) Q := G_unf rfl rfl
theorem g210_9 : G d 210 9 ls st h Q ↔ GN d 210 9 ls h (ldR ls 0 fun a => nx 10 ls (.ref a :: st) h) Q := G_unf rfl rfl
theorem g210_10 : G d 210 10 ls st h Q ↔ GN d 210 10 ls h (ldR ls 0 fun a => nx 11 ls (.ref a :: st) h) Q := G_unf rfl rfl
theorem g210_11 : G d 210 11 ls st h Q ↔ GN d 210 11 ls h (pR st fun a r => ck (arr h a 9) (nx 14 ls (.int (hI h a 60) :: r) h)) Q := G_unf rfl rfl
theorem g210_14 : G d 210 14 ls st h Q ↔ GN d 210 14 ls h (nx 15 ls (.int (nI 1) :: st) h) Q := G_unf rfl rfl
theorem g210_15 : G d 210 15 ls st h Q ↔ GN d 210 15 ls h (pII st fun x y r => nx 16 ls (.int (x + y) :: r) h) Q := G_unf rfl rfl
theorem g210_16 : G d 210 16 ls st h Q ↔ GN d 210 16 ls h (nx 18 ls (.int (nI 20) :: st) h) Q := G_unf rfl rfl
theorem g210_18 : G d 210 18 ls st h Q ↔ GN d 210 18 ls h (pII st fun x y r => ck (¬ y = 0) (nx 19 ls (.int (x - x / y * y) :: r) h)) Q := G_unf rfl rfl
theorem g210_19 : G d 210 19 ls st h Q ↔ GN d 210 19 ls h (pRI st fun a x r => ck (arr h a 9) (nx 22 ls r (sI h a 60 x))) Q := G_unf rfl rfl
theorem g210_22 : G d 210 22 ls st h Q ↔ GN d 210 22 ls h (ldR ls 0 fun a => nx 23 ls (.ref a :: st) h) Q := G_unf rfl rfl
theorem g210_23 : G d 210 23 ls st h Q ↔ GN d 210 23 ls h (p1 st fun v r => nx 24 ls (v :: v :: r) h) Q := G_unf rfl rfl
theorem g210_24 : G d 210 24 ls st h Q ↔ GN d 210 24 ls h (pR st fun a r => ck (arr h a 9) (nx 27 ls (.int (hI h a 61) :: r) h)) Q := G_unf rfl rfl
theorem g210_27 : G d 210 27 ls st h Q ↔ GN d 210 27 ls h (nx 28 ls (.int (nI 1) :: st) h) Q := G_unf rfl rfl
theorem g210_28 : G d 210 28 ls st h Q ↔ GN d 210 28 ls h (pII st fun x y r => nx 29 ls (.int (x - y) :: r) h) Q := G_unf rfl rfl
theorem g210_29 : G d 210 29 ls st h Q ↔ GN d 210 29 ls h (pRI st fun a x r => ck (arr h a 9) (nx 32 ls r (sI h a 61 x))) Q := G_unf rfl rfl
theorem g210_32 : G d 210 32 ls st h Q ↔ GN d 210 32 ls h (ldR ls 0 fun a => nx 33 ls (.ref a :: st) h) Q := G_unf rfl rfl
theorem g210_33 : G d 210 33 ls st h Q ↔ GN d 210 33 ls h (ldR ls 0 fun a => nx 34 ls (.ref a :: st) h) Q := G_unf rfl rfl
theorem g210_34 : G d 210 34 ls st h Q ↔ GN d 210 34 ls h (ldR ls 0 fun a => nx 35 ls (.ref a :: st) h) Q := G_unf rfl rfl
theorem g210_35 : G d 210 35 ls st h Q ↔ GN d 210 35 ls h (pR st fun a r => ck (arr h a 9) (nx 38 ls (.int (hI h a 61) :: r) h)) Q := G_unf rfl rfl
theorem g210_38 : G d 210 38 ls st h Q ↔ GN d 210 38 ls h (pA 1 st fun as r => pR r fun a r => ck (r.length ≤ 4 ∧ arr h a 9) (cll 209 (.ref a :: as) r)) Q := G_unf rfl rfl
theorem g210_41 : G d 210 41 ls st h Q ↔ GN d 210 41 ls h (nx 42 ls (.int (nI 0) :: st) h) Q := G_unf rfl rfl
theorem g210_42 : G d 210 42 ls st h Q ↔ GN d 210 42 ls h (pA 2 st fun as r => pR r fun a r => ck (r.length ≤ 4 ∧ arr h a 9) (cll 207 (.ref a :: as) r)) Q := G_unf rfl rfl
theorem g210_45 : G d 210 45 ls st h Q ↔ GN d 210 45 ls h (ldR ls 0 fun a => nx 46 ls (.ref a :: st) h) Q := G_unf rfl rfl
theorem g210_46 : G d 210 46 ls st h Q ↔ GN d 210 46 ls h (p1 st fun v r => nx 47 ls (v :: v :: r) h) Q := G_unf rfl rfl
theorem g210_47 : G d 210 47 ls st h Q ↔ GN d 210 47 ls h (pR st fun a r => ck (arr h a 9) (nx 50 ls (.int (hI h a 61) :: r) h)) Q := G_unf rfl rfl
theorem g210_50 : G d 210 50 ls st h Q ↔ GN d 210 50 ls h (nx 51 ls (.int (nI 1) :: st) h) Q := G_unf rfl rfl
theorem g210_51 : G d 210 51 ls st h Q ↔ GN d 210 51 ls h (pII st fun x y r => nx 52 ls (.int (x + y) :: r) h) Q := G_unf rfl rfl
theorem g210_52 : G d 210 52 ls st h Q ↔ GN d 210 52 ls h (pRI st fun a x r => ck (arr h a 9) (nx 55 ls r (sI h a 61 x))) Q := G_unf rfl rfl
theorem g210_55 : G d 210 55 ls st h Q ↔ GN d 210 55 ls h (pE st (rtn none)) Q := G_unf rfl rfl
theorem g211_0 : G d 211 0 ls st h Q ↔ GN d 211 0 ls h (ldR ls 0 fun a => nx 1 ls (.ref a :: st) h) Q := G_unf rfl rfl
theorem g211_1 : G d 211 1 ls st h Q ↔ GN d 211 1 ls h (pR st fun a r => ck (arr h a 9) (nx 4 ls (.int (hI h a 61) :: r) h)) Q := G_unf rfl rfl
theorem g211_4 : G d 211 4 ls st h Q ↔ GN d 211 4 ls h (pI st fun x r => br (¬ x = 0) (nx 21 ls r h) (nx 7 ls r h)) Q := G_unf rfl rfl
theorem g211_7 : G d 211 7 ls st h Q ↔ GN d 211 7 ls h (ldR ls 0 fun a => nx 8 ls (.ref a :: st) h) Q := G_unf rfl rfl
theorem g211_8 : G d 211 8 ls st h Q ↔ GN d 211 8 ls h (nx 9 ls (.int (nI 4) :: st) h) Q := G_unf rfl rfl
theorem g211_9 : G d 211 9 ls st h Q ↔ GN d 211 9 ls h (pA 1 st fun as r => pR r fun a r => ck (r.length ≤ 4 ∧ arr h a 9) (cll 200 (.ref a :: as) r)) Q := G_unf rfl rfl
theorem g211_12 : G d 211 12 ls st h Q ↔ GN d 211 12 ls h (pI st fun x r => br (x < 0) (nx 19 ls r h) (nx 15 ls r h)) Q := G_unf rfl rfl
theorem g211_15 : G d 211 15 ls st h Q ↔ GN d 211 15 ls h (nx 16 ls (.int (nI 1) :: st) h) Q := G_unf rfl rfl
theorem g211_16 : G d 211 16 ls st h Q ↔ GN d 211 16 ls h (nx 20 ls st h) Q := G_unf rfl rfl
theorem g211_19 : G d 211 19 ls st h Q ↔ GN d 211 19 ls h (nx 20 ls (.int (nI 0) :: st) h) Q := G_unf rfl rfl
theorem g211_20 : G d 211 20 ls st h Q ↔ GN d 211 20 ls h (pIe st fun x => ck (x = 0 ∨ x = 1) (rtn (some (.int x)))) Q := G_unf rfl rfl
theorem g211_21 : G d 211 21 ls st h Q ↔ GN d 211 21 ls h (ldR ls 0 fun a => nx 22 ls (.ref a :: st) h) Q := G_unf rfl rfl
theorem g211_22 : G d 211 22 ls st h Q ↔ GN d 211 22 ls h (p1 st fun v r => nx 23 ls (v :: v :: r) h) Q := G_unf rfl rfl
theorem g211_23 : G d 211 23 ls st h Q ↔ GN d 211 23 ls h (pR st fun a r => ck (arr h a 9) (nx 26 ls (.int (hI h a 61) :: r) h)) Q := G_unf rfl rfl
theorem g211_26 : G d 211 26 ls st h Q ↔ GN d 211 26 ls h (nx 27 ls (.int (nI 1) :: st) h) Q := G_unf rfl rfl
theorem g211_27 : G d 211 27 ls st h Q ↔ GN d 211 27 ls h (pII st fun x y r => nx 28 ls (.int (x - y) :: r) h) Q := G_unf rfl rfl
theorem g211_28 : G d 211 28 ls st h Q ↔ GN d 211 28 ls h (pRI st fun a x r => ck (arr h a 9) (nx 31 ls r (sI h a 61 x))) Q := G_unf rfl rfl
theorem g211_31 : G d 211 31 ls st h Q ↔ GN d 211 31 ls h (ldR ls 0 fun a => nx 32 ls (.ref a :: st) h) Q := G_unf rfl rfl
theorem g211_32 : G d 211 32 ls st h Q ↔ GN d 211 32 ls h (nx 33 ls (.int (nI 0) :: st) h) Q := G_unf rfl rfl
theorem g211_33 : G d 211 33 ls st h Q ↔ GN d 211 33 ls h (ldR ls 0 fun a => nx 34 ls (.ref a :: st) h) Q := G_unf rfl rfl
theorem g211_34 : G d 211 34 ls st h Q ↔ GN d 211 34 ls h (ldR ls 0 fun a => nx 35 ls (.ref a :: st) h) Q := G_unf rfl rfl
theorem g211_35 : G d 211 35 ls st h Q ↔ GN d 211 35 ls h (pR st fun a r => ck (arr h a 9) (nx 38 ls (.int (hI h a 61) :: r) h)) Q := G_unf rfl rfl
theorem g211_38 : G d 211 38 ls st h Q ↔ GN d 211 38 ls h (pA 1 st fun as r => pR r fun a r => ck (r.length ≤ 4 ∧ arr h a 9) (cll 209 (.ref a :: as) r)) Q := G_unf rfl rfl
theorem g211_41 : G d 211 41 ls st h Q ↔ GN d 211 41 ls h (pA 2 st fun as r => pR r fun a r => ck (r.length ≤ 4 ∧ arr h a 9) (cll 207 (.ref a :: as) r)) Q := G_unf rfl rfl
theorem g211_44 : G d 211 44 ls st h Q ↔ GN d 211 44 ls h (nx 45 ls (.int (nI 1) :: st) h) Q := G_unf rfl rfl
theorem g211_45 : G d 211 45 ls st h Q ↔ GN d 211 45 ls h (pIe st fun x => ck (x = 0 ∨ x = 1) (rtn (some (.int x)))) Q := G_unf rfl rfl
theorem g212_0 : G d 212 0 ls st h Q ↔ GN d 212 0 ls h (ldR ls 0 fun a => nx 1 ls (.ref a :: st) h) Q := G_unf rfl rfl
theorem g212_1 : G d 212 1 ls st h Q ↔ GN d 212 1 ls h (pR st fun a r => ck (arr h a 9) (nx 4 ls (rv (hR h a 54) :: r) h)) Q := G_unf rfl rfl
theorem g212_4 : G d 212 4 ls st h Q ↔ GN d 212 4 ls h (nx 6 ls (.int (nI 96) :: st) h) Q := G_unf rfl rfl
theorem g212_6 : G d 212 6 ls st h Q ↔ GN d 212 6 ls h (ldI ls 1 fun x => nx 7 ls (.int x :: st) h) Q := G_unf rfl rfl
theorem g212_7 : G d 212 7 ls st h Q ↔ GN d 212 7 ls h (pII st fun x y r => nx 8 ls (.int (x * y) :: r) h) Q := G_unf rfl rfl
theorem g212_8 : G d 212 8 ls st h Q ↔ GN d 212 8 ls h (nx 10 ls (.int (nI 12) :: st) h) Q := G_unf rfl rfl
theorem g212_10 : G d 212 10 ls st h Q ↔ GN d 212 10 ls h (ldI ls 2 fun x => nx 11 ls (.int x :: st) h) Q := G_unf rfl rfl
theorem g212_11 : G d 212 11 ls st h Q ↔ GN d 212 11 ls h (pII st fun x y r => nx 12 ls (.int (x * y) :: r) h) Q := G_unf rfl rfl
theorem g212_12 : G d 212 12 ls st h Q ↔ GN d 212 12 ls h (pII st fun x y r => nx 13 ls (.int (x + y) :: r) h) Q := G_unf rfl rfl
theorem g212_13 : G d 212 13 ls st h Q ↔ GN d 212 13 ls h (ldI ls 3 fun x => nx 14 ls (.int x :: st) h) Q := G_unf rfl rfl
theorem g212_14 : G d 212 14 ls st h Q ↔ GN d 212 14 ls h (pII st fun x y r => nx 15 ls (.int (x + y) :: r) h) Q := G_unf rfl rfl
theorem g212_15 : G d 212 15 ls st h Q ↔ GN d 212 15 ls h (pRI st fun a i r => br (a = 1000003) (ck (inb i (hS h).1) (nx 16 ls (.int ((hS h).2 i.toNatClampNeg) :: r) h)) (ck (arr h a 10 ∧ inb i (hLn h a)) (nx 16 ls (.int (hI h a i.toNatClampNeg) :: r) h))) Q := G_unf rfl rfl
theorem g212_16 : G d 212 16 ls st h Q ↔ GN d 212 16 ls h (ldR ls 0 fun a => nx 17 ls (.ref a :: st) h) Q := G_unf rfl rfl
theorem g212_17 : G d 212 17 ls st h Q ↔ GN d 212 17 ls h (pR st fun a r => ck (arr h a 9) (nx 20 ls (rv (hR h a 51) :: r) h)) Q := G_unf rfl rfl
theorem g212_20 : G d 212 20 ls st h Q ↔ GN d 212 20 ls h (ldI ls 1 fun x => nx 21 ls (.int x :: st) h) Q := G_unf rfl rfl
theorem g212_21 : G d 212 21 ls st h Q ↔ GN d 212 21 ls h (pRI st fun a i r => br (a = 1000003) (ck (inb i (hS h).1) (nx 22 ls (.int ((hS h).2 i.toNatClampNeg) :: r) h)) (ck (arr h a 10 ∧ inb i (hLn h a)) (nx 22 ls (.int (hI h a i.toNatClampNeg) :: r) h))) Q := G_unf rfl rfl
theorem g212_22 : G d 212 22 ls st h Q ↔ GN d 212 22 ls h (pII st fun x y r => br (x < y) (nx 29 ls r h) (nx 25 ls r h)) Q := G_unf rfl rfl
theorem g212_25 : G d 212 25 ls st h Q ↔ GN d 212 25 ls h (nx 26 ls (.int (nI 1) :: st) h) Q := G_unf rfl rfl
theorem g212_26 : G d 212 26 ls st h Q ↔ GN d 212 26 ls h (nx 30 ls st h) Q := G_unf rfl rfl
theorem g212_29 : G d 212 29 ls st h Q ↔ GN d 212 29 ls h (nx 30 ls (.int (nI 0) :: st) h) Q := G_unf rfl rfl
theorem g212_30 : G d 212 30 ls st h Q ↔ GN d 212 30 ls h (pIe st fun x => ck (x = 0 ∨ x = 1) (rtn (some (.int x)))) Q := G_unf rfl rfl
theorem g213_0 : G d 213 0 ls st h Q ↔ GN d 213 0 ls h (nx 1 ls (.int (nI 0) :: st) h) Q := G_unf rfl rfl
theorem g213_1 : G d 213 1 ls st h Q ↔ GN d 213 1 ls h (pI st fun x r => ck (3 < ls.length) (nx 2 (st1 ls 3 (.int x)) r h)) Q := G_unf rfl rfl
theorem g213_2 : G d 213 2 ls st h Q ↔ GN d 213 2 ls h (nx 3 ls (.int (nI 0) :: st) h) Q := G_unf rfl rfl
theorem g213_3 : G d 213 3 ls st h Q ↔ GN d 213 3 ls h (pI st fun x r => ck (4 < ls.length) (nx 5 (st1 ls 4 (.int x)) r h)) Q := G_unf rfl rfl
theorem g213_5 : G d 213 5 ls st h Q ↔ GN d 213 5 ls h (ldI ls 4 fun x => nx 7 ls (.int x :: st) h) Q := G_unf rfl rfl
theorem g213_7 : G d 213 7 ls st h Q ↔ GN d 213 7 ls h (ldR ls 0 fun a => nx 8 ls (.ref a :: st) h) Q := G_unf rfl rfl
theorem g213_8 : G d 213 8 ls st h Q ↔ GN d 213 8 ls h (pR st fun a r => ck (arr h a 9) (nx 11 ls (rv (hR h a 14) :: r) h)) Q := G_unf rfl rfl
theorem g213_11 : G d 213 11 ls st h Q ↔ GN d 213 11 ls h (ldR ls 0 fun a => nx 12 ls (.ref a :: st) h) Q := G_unf rfl rfl
theorem g213_12 : G d 213 12 ls st h Q ↔ GN d 213 12 ls h (pR st fun a r => ck (arr h a 9) (nx 15 ls (.int (hI h a 13) :: r) h)) Q := G_unf rfl rfl
theorem g213_15 : G d 213 15 ls st h Q ↔ GN d 213 15 ls h (pRI st fun a i r => br (a = 1000003) (ck (inb i (hS h).1) (nx 16 ls (.int ((hS h).2 i.toNatClampNeg) :: r) h)) (ck (arr h a 10 ∧ inb i (hLn h a)) (nx 16 ls (.int (hI h a i.toNatClampNeg) :: r) h))) Q := G_unf rfl rfl
theorem g213_16 : G d 213 16 ls st h Q ↔ GN d 213 16 ls h (pII st fun x y r => br (y ≤ x) (nx 47 ls r h) (nx 19 ls r h)) Q := G_unf rfl rfl
theorem g213_19 : G d 213 19 ls st h Q ↔ GN d 213 19 ls h (ldI ls 3 fun x => nx 20 ls (.int x :: st) h) Q := G_unf rfl rfl
theorem g213_20 : G d 213 20 ls st h Q ↔ GN d 213 20 ls h (ldR ls 0 fun a => nx 21 ls (.ref a :: st) h) Q := G_unf rfl rfl
theorem g213_21 : G d 213 21 ls st h Q ↔ GN d 213 21 ls h (ldI ls 1 fun x => nx 22 ls (.int x :: st) h) Q := G_unf rfl rfl
theorem g213_22 : G d 213 22 ls st h Q ↔ GN d 213 22 ls h (ldI ls 2 fun x => nx 23 ls (.int x :: st) h) Q := G_unf rfl rfl
theorem g213_23 : G d 213 23 ls st h Q ↔ GN d 213 23 ls h (ldI ls 4 fun x => nx 25 ls (.int x :: st) h) Q := G_unf rfl rfl
theorem g213_25 : G d 213 25 ls st h Q ↔ GN d 213 25 ls h (pA 3 st fun as r => pR r fun a r => ck (r.length ≤ 4 ∧ arr h a 9) (cll 212 (.ref a :: as) r)) Q := G_unf rfl rfl
theorem g213_28 : G d 213 28 ls st h Q ↔ GN d 213 28 ls h (pI st fun x r => br (x = 0) (nx 38 ls r h) (nx 31 ls r h)) Q := G_unf rfl rfl
theorem g213_31 : G d 213 31 ls st h Q ↔ GN d 213 31 ls h (nx 32 ls (.int (nI 1) :: st) h) Q := G_unf rfl rfl
theorem g213_32 : G d 213 32 ls st h Q ↔ GN d 213 32 ls h (ldI ls 4 fun x => nx 34 ls (.int x :: st) h) Q := G_unf rfl rfl
theorem g213_34 : G d 213 34 ls st h Q ↔ GN d 213 34 ls h (pII st fun x y r => nx 35 ls (.int (x <<< (y &&& 31)) :: r) h) Q := G_unf rfl rfl
theorem g213_35 : G d 213 35 ls st h Q ↔ GN d 213 35 ls h (nx 39 ls st h) Q := G_unf rfl rfl
theorem g213_38 : G d 213 38 ls st h Q ↔ GN d 213 38 ls h (nx 39 ls (.int (nI 0) :: st) h) Q := G_unf rfl rfl
theorem g213_39 : G d 213 39 ls st h Q ↔ GN d 213 39 ls h (pII st fun x y r => nx 40 ls (.int (x ||| y) :: r) h) Q := G_unf rfl rfl
theorem g213_40 : G d 213 40 ls st h Q ↔ GN d 213 40 ls h (pI st fun x r => ck (3 < ls.length) (nx 41 (st1 ls 3 (.int x)) r h)) Q := G_unf rfl rfl
theorem g213_41 : G d 213 41 ls st h Q ↔ GN d 213 41 ls h (ldI ls 4 fun x => nx 44 (st1 ls 4 (.int (x + (nI 1)))) st h) Q := G_unf rfl rfl
theorem g213_44 : G d 213 44 ls st h Q ↔ GN d 213 44 ls h (nx 5 ls st h) Q := G_unf rfl rfl
theorem g213_47 : G d 213 47 ls st h Q ↔ GN d 213 47 ls h (ldI ls 3 fun x => nx 48 ls (.int x :: st) h) Q := G_unf rfl rfl
theorem g213_48 : G d 213 48 ls st h Q ↔ GN d 213 48 ls h (pIe st fun x => rtn (some (.int x))) Q := G_unf rfl rfl
theorem g214_0 : G d 214 0 ls st h Q ↔ GN d 214 0 ls h (ldR ls 0 fun a => nx 1 ls (.ref a :: st) h) Q := G_unf rfl rfl
theorem g214_1 : G d 214 1 ls st h Q ↔ GN d 214 1 ls h (pR st fun a r => ck (arr h a 9) (nx 4 ls (rv (hR h a 29) :: r) h)) Q := G_unf rfl rfl
theorem g214_4 : G d 214 4 ls st h Q ↔ GN d 214 4 ls h (ldR ls 0 fun a => nx 5 ls (.ref a :: st) h) Q := G_unf rfl rfl
theorem g214_5 : G d 214 5 ls st h Q ↔ GN d 214 5 ls h (pR st fun a r => ck (arr h a 9) (nx 8 ls (.int (hI h a 13) :: r) h)) Q := G_unf rfl rfl
theorem g214_8 : G d 214 8 ls st h Q ↔ GN d 214 8 ls h (pRI st fun a i r => br (a = 1000003) (ck (inb i (hS h).1) (nx 9 ls (.int ((hS h).2 i.toNatClampNeg) :: r) h)) (ck (arr h a 10 ∧ inb i (hLn h a)) (nx 9 ls (.int (hI h a i.toNatClampNeg) :: r) h))) Q := G_unf rfl rfl
theorem g214_9 : G d 214 9 ls st h Q ↔ GN d 214 9 ls h (pI st fun x r => ck (2 < ls.length) (nx 10 (st1 ls 2 (.int x)) r h)) Q := G_unf rfl rfl
theorem g214_10 : G d 214 10 ls st h Q ↔ GN d 214 10 ls h (nx 11 ls (.int (nI 0) :: st) h) Q := G_unf rfl rfl
theorem g214_11 : G d 214 11 ls st h Q ↔ GN d 214 11 ls h (pI st fun x r => ck (3 < ls.length) (nx 12 (st1 ls 3 (.int x)) r h)) Q := G_unf rfl rfl
theorem g214_12 : G d 214 12 ls st h Q ↔ GN d 214 12 ls h (ldI ls 3 fun x => nx 13 ls (.int x :: st) h) Q := G_unf rfl rfl
theorem g214_13 : G d 214 13 ls st h Q ↔ GN d 214 13 ls h (ldR ls 0 fun a => nx 14 ls (.ref a :: st) h) Q := G_unf rfl rfl
theorem g214_14 : G d 214 14 ls st h Q ↔ GN d 214 14 ls h (pR st fun a r => ck (arr h a 9) (nx 17 ls (rv (hR h a 20) :: r) h)) Q := G_unf rfl rfl
theorem g214_17 : G d 214 17 ls st h Q ↔ GN d 214 17 ls h (ldR ls 0 fun a => nx 18 ls (.ref a :: st) h) Q := G_unf rfl rfl
theorem g214_18 : G d 214 18 ls st h Q ↔ GN d 214 18 ls h (pR st fun a r => ck (arr h a 9) (nx 21 ls (.int (hI h a 13) :: r) h)) Q := G_unf rfl rfl
theorem g214_21 : G d 214 21 ls st h Q ↔ GN d 214 21 ls h (pRI st fun a i r => br (a = 1000003) (ck (inb i (hS h).1) (nx 22 ls (.int ((hS h).2 i.toNatClampNeg) :: r) h)) (ck (arr h a 10 ∧ inb i (hLn h a)) (nx 22 ls (.int (hI h a i.toNatClampNeg) :: r) h))) Q := G_unf rfl rfl
theorem g214_22 : G d 214 22 ls st h Q ↔ GN d 214 22 ls h (pII st fun x y r => br (y ≤ x) (nx 43 ls r h) (nx 25 ls r h)) Q := G_unf rfl rfl
theorem g214_25 : G d 214 25 ls st h Q ↔ GN d 214 25 ls h (ldI ls 2 fun x => nx 26 ls (.int x :: st) h) Q := G_unf rfl rfl
theorem g214_26 : G d 214 26 ls st h Q ↔ GN d 214 26 ls h (ldR ls 0 fun a => nx 27 ls (.ref a :: st) h) Q := G_unf rfl rfl
theorem g214_27 : G d 214 27 ls st h Q ↔ GN d 214 27 ls h (ldI ls 1 fun x => nx 28 ls (.int x :: st) h) Q := G_unf rfl rfl
theorem g214_28 : G d 214 28 ls st h Q ↔ GN d 214 28 ls h (ldI ls 3 fun x => nx 29 ls (.int x :: st) h) Q := G_unf rfl rfl
theorem g214_29 : G d 214 29 ls st h Q ↔ GN d 214 29 ls h (pA 2 st fun as r => pR r fun a r => ck (r.length ≤ 4 ∧ arr h a 9) (cll 213 (.ref a :: as) r)) Q := G_unf rfl rfl
theorem g214_32 : G d 214 32 ls st h Q ↔ GN d 214 32 ls h (pA 1 st fun as r => ck (r.length ≤ 4) (cll 206 as r)) Q := G_unf rfl rfl
theorem g214_35 : G d 214 35 ls st h Q ↔ GN d 214 35 ls h (pII st fun x y r => nx 36 ls (.int (x - y) :: r) h) Q := G_unf rfl rfl
theorem g214_36 : G d 214 36 ls st h Q ↔ GN d 214 36 ls h (pI st fun x r => ck (2 < ls.length) (nx 37 (st1 ls 2 (.int x)) r h)) Q := G_unf rfl rfl
theorem g214_37 : G d 214 37 ls st h Q ↔ GN d 214 37 ls h (ldI ls 3 fun x => nx 40 (st1 ls 3 (.int (x + (nI 1)))) st h) Q := G_unf rfl rfl
theorem g214_40 : G d 214 40 ls st h Q ↔ GN d 214 40 ls h (nx 12 ls st h) Q := G_unf rfl rfl
theorem g214_43 : G d 214 43 ls st h Q ↔ GN d 214 43 ls h (ldI ls 2 fun x => nx 44 ls (.int x :: st) h) Q := G_unf rfl rfl
theorem g214_44 : G d 214 44 ls st h Q ↔ GN d 214 44 ls h (pIe st fun x => rtn (some (.int x))) Q := G_unf rfl rfl
theorem g215_0 : G d 215 0 ls st h Q ↔ GN d 215 0 ls h (nx 1 ls (.int (nI 0) :: st) h) Q := G_unf rfl rfl
theorem g215_1 : G d 215 1 ls st h Q ↔ GN d 215 1 ls h (pI st fun x r => ck (2 < ls.length) (nx 2 (st1 ls 2 (.int x)) r h)) Q := G_unf rfl rfl
theorem g215_2 : G d 215 2 ls st h Q ↔ GN d 215 2 ls h (nx 3 ls (.int (nI 0) :: st) h) Q := G_unf rfl rfl
theorem g215_3 : G d 215 3 ls st h Q ↔ GN d 215 3 ls h (pI st fun x r => ck (3 < ls.length) (nx 4 (st1 ls 3 (.int x)) r h)) Q := G_unf rfl rfl
theorem g215_4 : G d 215 4 ls st h Q ↔ GN d 215 4 ls h (ldI ls 3 fun x => nx 5 ls (.int x :: st) h) Q := G_unf rfl rfl
theorem g215_5 : G d 215 5 ls st h Q ↔ GN d 215 5 ls h (ldR ls 0 fun a => nx 6 ls (.ref a :: st) h) Q := G_unf rfl rfl
theorem g215_6 : G d 215 6 ls st h Q ↔ GN d 215 6 ls h (pR st fun a r => ck (arr h a 9) (nx 9 ls (rv (hR h a 14) :: r) h)) Q := G_unf rfl rfl
theorem g215_9 : G d 215 9 ls st h Q ↔ GN d 215 9 ls h (ldR ls 0 fun a => nx 10 ls (.ref a :: st) h) Q := G_unf rfl rfl
theorem g215_10 : G d 215 10 ls st h Q ↔ GN d 215 10 ls h (pR st fun a r => ck (arr h a 9) (nx 13 ls (.int (hI h a 13) :: r) h)) Q := G_unf rfl rfl
theorem g215_13 : G d 215 13 ls st h Q ↔ GN d 215 13 ls h (pRI st fun a i r => br (a = 1000003) (ck (inb i (hS h).1) (nx 14 ls (.int ((hS h).2 i.toNatClampNeg) :: r) h)) (ck (arr h a 10 ∧ inb i (hLn h a)) (nx 14 ls (.int (hI h a i.toNatClampNeg) :: r) h))) Q := G_unf rfl rfl
theorem g215_14 : G d 215 14 ls st h Q ↔ GN d 215 14 ls h (pII st fun x y r => br (y ≤ x) (nx 51 ls r h) (nx 17 ls r h)) Q := G_unf rfl rfl
theorem g215_17 : G d 215 17 ls st h Q ↔ GN d 215 17 ls h (ldI ls 2 fun x => nx 18 ls (.int x :: st) h) Q := G_unf rfl rfl
theorem g215_18 : G d 215 18 ls st h Q ↔ GN d 215 18 ls h (ldR ls 0 fun a => nx 19 ls (.ref a :: st) h) Q := G_unf rfl rfl
theorem g215_19 : G d 215 19 ls st h Q ↔ GN d 215 19 ls h (pR st fun a r => ck (arr h a 9) (nx 22 ls (rv (hR h a 15) :: r) h)) Q := G_unf rfl rfl
theorem g215_22 : G d 215 22 ls st h Q ↔ GN d 215 22 ls h (nx 24 ls (.int (nI 12) :: st) h) Q := G_unf rfl rfl
theorem g215_24 : G d 215 24 ls st h Q ↔ GN d 215 24 ls h (ldR ls 0 fun a => nx 25 ls (.ref a :: st) h) Q := G_unf rfl rfl
theorem g215_25 : G d 215 25 ls st h Q ↔ GN d 215 25 ls h (pR st fun a r => ck (arr h a 9) (nx 28 ls (.int (hI h a 13) :: r) h)) Q := G_unf rfl rfl
theorem g215_28 : G d 215 28 ls st h Q ↔ GN d 215 28 ls h (pII st fun x y r => nx 29 ls (.int (x * y) :: r) h) Q := G_unf rfl rfl
theorem g215_29 : G d 215 29 ls st h Q ↔ GN d 215 29 ls h (ldI ls 3 fun x => nx 30 ls (.int x :: st) h) Q := G_unf rfl rfl
theorem g215_30 : G d 215 30 ls st h Q ↔ GN d 215 30 ls h (pII st fun x y r => nx 31 ls (.int (x + y) :: r) h) Q := G_unf rfl rfl
theorem g215_31 : G d 215 31 ls st h Q ↔ GN d 215 31 ls h (pRI st fun a i r => br (a = 1000003) (ck (inb i (hS h).1) (nx 32 ls (.int ((hS h).2 i.toNatClampNeg) :: r) h)) (ck (arr h a 10 ∧ inb i (hLn h a)) (nx 32 ls (.int (hI h a i.toNatClampNeg) :: r) h))) Q := G_unf rfl rfl
theorem g215_32 : G d 215 32 ls st h Q ↔ GN d 215 32 ls h (ldI ls 1 fun x => nx 33 ls (.int x :: st) h) Q := G_unf rfl rfl
theorem g215_33 : G d 215 33 ls st h Q ↔ GN d 215 33 ls h (pII st fun x y r => br (y < x) (nx 42 ls r h) (nx 36 ls r h)) Q := G_unf rfl rfl
theorem g215_36 : G d 215 36 ls st h Q ↔ GN d 215 36 ls h (nx 37 ls (.int (nI 1) :: st) h) Q := G_unf rfl rfl
theorem g215_37 : G d 215 37 ls st h Q ↔ GN d 215 37 ls h (ldI ls 3 fun x => nx 38 ls (.int x :: st) h) Q := G_unf rfl rfl
theorem g215_38 : G d 215 38 ls st h Q ↔ GN d 215 38 ls h (pII st fun x y r => nx 39 ls (.int (x <<< (y &&& 31)) :: r) h) Q := G_unf rfl rfl
theorem g215_39 : G d 215 39 ls st h Q ↔ GN d 215 39 ls h (nx 43 ls st h) Q := G_unf rfl rfl
theorem g215_42 : G d 215 42 ls st h Q ↔ GN d 215 42 ls h (nx 43 ls (.int (nI 0) :: st) h) Q := G_unf rfl rfl
theorem g215_43 : G d 215 43 ls st h Q ↔ GN d 215 43 ls h (pII st fun x y r => nx 44 ls (.int (x ||| y) :: r) h) Q := G_unf rfl rfl
theorem g215_44 : G d 215 44 ls st h Q ↔ GN d 215 44 ls h (pI st fun x r => ck (2 < ls.length) (nx 45 (st1 ls 2 (.int x)) r h)) Q := G_unf rfl rfl
theorem g215_45 : G d 215 45 ls st h Q ↔ GN d 215 45 ls h (ldI ls 3 fun x => nx 48 (st1 ls 3 (.int (x + (nI 1)))) st h) Q := G_unf rfl rfl
theorem g215_48 : G d 215 48 ls st h Q ↔ GN d 215 48 ls h (nx 4 ls st h) Q := G_unf rfl rfl
theorem g215_51 : G d 215 51 ls st h Q ↔ GN d 215 51 ls h (ldI ls 2 fun x => nx 52 ls (.int x :: st) h) Q := G_unf rfl rfl
theorem g215_52 : G d 215 52 ls st h Q ↔ GN d 215 52 ls h (pIe st fun x => rtn (some (.int x))) Q := G_unf rfl rfl
theorem g216_0 : G d 216 0 ls st h Q ↔ GN d 216 0 ls h (nx 1 ls (.int (nI 0) :: st) h) Q := G_unf rfl rfl
theorem g216_1 : G d 216 1 ls st h Q ↔ GN d 216 1 ls h (pI st fun x r => ck (2 < ls.length) (nx 2 (st1 ls 2 (.int x)) r h)) Q := G_unf rfl rfl
theorem g216_2 : G d 216 2 ls st h Q ↔ GN d 216 2 ls h (nx 3 ls (.int (nI 0) :: st) h) Q := G_unf rfl rfl
theorem g216_3 : G d 216 3 ls st h Q ↔ GN d 216 3 ls h (pI st fun x r => ck (3 < ls.length) (nx 4 (st1 ls 3 (.int x)) r h)) Q := G_unf rfl rfl
theorem g216_4 : G d 216 4 ls st h Q ↔ GN d 216 4 ls h (ldI ls 3 fun x => nx 5 ls (.int x :: st) h) Q := G_unf rfl rfl
theorem g216_5 : G d 216 5 ls st h Q ↔ GN d 216 5 ls h (ldR ls 0 fun a => nx 6 ls (.ref a :: st) h) Q := G_unf rfl rfl
theorem g216_6 : G d 216 6 ls st h Q ↔ GN d 216 6 ls h (pR st fun a r => ck (arr h a 9) (nx 9 ls (rv (hR h a 14) :: r) h)) Q := G_unf rfl rfl
theorem g216_9 : G d 216 9 ls st h Q ↔ GN d 216 9 ls h (ldR ls 0 fun a => nx 10 ls (.ref a :: st) h) Q := G_unf rfl rfl
theorem g216_10 : G d 216 10 ls st h Q ↔ GN d 216 10 ls h (pR st fun a r => ck (arr h a 9) (nx 13 ls (.int (hI h a 13) :: r) h)) Q := G_unf rfl rfl
theorem g216_13 : G d 216 13 ls st h Q ↔ GN d 216 13 ls h (pRI st fun a i r => br (a = 1000003) (ck (inb i (hS h).1) (nx 14 ls (.int ((hS h).2 i.toNatClampNeg) :: r) h)) (ck (arr h a 10 ∧ inb i (hLn h a)) (nx 14 ls (.int (hI h a i.toNatClampNeg) :: r) h))) Q := G_unf rfl rfl
theorem g216_14 : G d 216 14 ls st h Q ↔ GN d 216 14 ls h (pII st fun x y r => br (y ≤ x) (nx 52 ls r h) (nx 17 ls r h)) Q := G_unf rfl rfl
theorem g216_17 : G d 216 17 ls st h Q ↔ GN d 216 17 ls h (ldI ls 2 fun x => nx 18 ls (.int x :: st) h) Q := G_unf rfl rfl
theorem g216_18 : G d 216 18 ls st h Q ↔ GN d 216 18 ls h (ldI ls 1 fun x => nx 19 ls (.int x :: st) h) Q := G_unf rfl rfl
theorem g216_19 : G d 216 19 ls st h Q ↔ GN d 216 19 ls h (ldI ls 3 fun x => nx 20 ls (.int x :: st) h) Q := G_unf rfl rfl
theorem g216_20 : G d 216 20 ls st h Q ↔ GN d 216 20 ls h (pA 2 st fun as r => ck (r.length ≤ 4) (cll 205 as r)) Q := G_unf rfl rfl
theorem g216_23 : G d 216 23 ls st h Q ↔ GN d 216 23 ls h (pI st fun x r => br (x = 0) (nx 43 ls r h) (nx 26 ls r h)) Q := G_unf rfl rfl
theorem g216_26 : G d 216 26 ls st h Q ↔ GN d 216 26 ls h (ldR ls 0 fun a => nx 27 ls (.ref a :: st) h) Q := G_unf rfl rfl
theorem g216_27 : G d 216 27 ls st h Q ↔ GN d 216 27 ls h (pR st fun a r => ck (arr h a 9) (nx 30 ls (rv (hR h a 16) :: r) h)) Q := G_unf rfl rfl
theorem g216_30 : G d 216 30 ls st h Q ↔ GN d 216 30 ls h (nx 32 ls (.int (nI 12) :: st) h) Q := G_unf rfl rfl
theorem g216_32 : G d 216 32 ls st h Q ↔ GN d 216 32 ls h (ldR ls 0 fun a => nx 33 ls (.ref a :: st) h) Q := G_unf rfl rfl
theorem g216_33 : G d 216 33 ls st h Q ↔ GN d 216 33 ls h (pR st fun a r => ck (arr h a 9) (nx 36 ls (.int (hI h a 13) :: r) h)) Q := G_unf rfl rfl
theorem g216_36 : G d 216 36 ls st h Q ↔ GN d 216 36 ls h (pII st fun x y r => nx 37 ls (.int (x * y) :: r) h) Q := G_unf rfl rfl
theorem g216_37 : G d 216 37 ls st h Q ↔ GN d 216 37 ls h (ldI ls 3 fun x => nx 38 ls (.int x :: st) h) Q := G_unf rfl rfl
theorem g216_38 : G d 216 38 ls st h Q ↔ GN d 216 38 ls h (pII st fun x y r => nx 39 ls (.int (x + y) :: r) h) Q := G_unf rfl rfl
theorem g216_39 : G d 216 39 ls st h Q ↔ GN d 216 39 ls h (pRI st fun a i r => br (a = 1000003) (ck (inb i (hS h).1) (nx 40 ls (.int ((hS h).2 i.toNatClampNeg) :: r) h)) (ck (arr h a 10 ∧ inb i (hLn h a)) (nx 40 ls (.int (hI h a i.toNatClampNeg) :: r) h))) Q := G_unf rfl rfl
theorem g216_40 : G d 216 40 ls st h Q ↔ GN d 216 40 ls h (nx 44 ls st h) Q := G_unf rfl rfl
theorem g216_43 : G d 216 43 ls st h Q ↔ GN d 216 43 ls h (nx 44 ls (.int (nI 0) :: st) h) Q := G_unf rfl rfl
theorem g216_44 : G d 216 44 ls st h Q ↔ GN d 216 44 ls h (pII st fun x y r => nx 45 ls (.int (x + y) :: r) h) Q := G_unf rfl rfl
theorem g216_45 : G d 216 45 ls st h Q ↔ GN d 216 45 ls h (pI st fun x r => ck (2 < ls.length) (nx 46 (st1 ls 2 (.int x)) r h)) Q := G_unf rfl rfl
theorem g216_46 : G d 216 46 ls st h Q ↔ GN d 216 46 ls h (ldI ls 3 fun x => nx 49 (st1 ls 3 (.int (x + (nI 1)))) st h) Q := G_unf rfl rfl
theorem g216_49 : G d 216 49 ls st h Q ↔ GN d 216 49 ls h (nx 4 ls st h) Q := G_unf rfl rfl
theorem g216_52 : G d 216 52 ls st h Q ↔ GN d 216 52 ls h (ldI ls 2 fun x => nx 53 ls (.int x :: st) h) Q := G_unf rfl rfl
theorem g216_53 : G d 216 53 ls st h Q ↔ GN d 216 53 ls h (pIe st fun x => rtn (some (.int x))) Q := G_unf rfl rfl
theorem g217_0 : G d 217 0 ls st h Q ↔ GN d 217 0 ls h (ldR ls 0 fun a => nx 1 ls (.ref a :: st) h) Q := G_unf rfl rfl
theorem g217_1 : G d 217 1 ls st h Q ↔ GN d 217 1 ls h (ldR ls 0 fun a => nx 2 ls (.ref a :: st) h) Q := G_unf rfl rfl
theorem g217_2 : G d 217 2 ls st h Q ↔ GN d 217 2 ls h (ldR ls 0 fun a => nx 3 ls (.ref a :: st) h) Q := G_unf rfl rfl
theorem g217_3 : G d 217 3 ls st h Q ↔ GN d 217 3 ls h (pR st fun a r => ck (arr h a 9) (nx 6 ls (rv (hR h a 51) :: r) h)) Q := G_unf rfl rfl
theorem g217_6 : G d 217 6 ls st h Q ↔ GN d 217 6 ls h (ldI ls 1 fun x => nx 7 ls (.int x :: st) h) Q := G_unf rfl rfl
theorem g217_7 : G d 217 7 ls st h Q ↔ GN d 217 7 ls h (pRI st fun a i r => br (a = 1000003) (ck (inb i (hS h).1) (nx 8 ls (.int ((hS h).2 i.toNatClampNeg) :: r) h)) (ck (arr h a 10 ∧ inb i (hLn h a)) (nx 8 ls (.int (hI h a i.toNatClampNeg) :: r) h))) Q := G_unf rfl rfl
theorem g217_8 : G d 217 8 ls st h Q ↔ GN d 217 8 ls h (pA 1 st fun as r => pR r fun a r => ck (r.length ≤ 4 ∧ arr h a 9) (cll 215 (.ref a :: as) r)) Q := G_unf rfl rfl
theorem g217_11 : G d 217 11 ls st h Q ↔ GN d 217 11 ls h (ldR ls 0 fun a => nx 12 ls (.ref a :: st) h) Q := G_unf rfl rfl
theorem g217_12 : G d 217 12 ls st h Q ↔ GN d 217 12 ls h (pR st fun a r => ck (arr h a 9) (nx 15 ls (rv (hR h a 52) :: r) h)) Q := G_unf rfl rfl
theorem g217_15 : G d 217 15 ls st h Q ↔ GN d 217 15 ls h (nx 17 ls (.int (nI 8) :: st) h) Q := G_unf rfl rfl
theorem g217_17 : G d 217 17 ls st h Q ↔ GN d 217 17 ls h (ldI ls 1 fun x => nx 18 ls (.int x :: st) h) Q := G_unf rfl rfl
theorem g217_18 : G d 217 18 ls st h Q ↔ GN d 217 18 ls h (pII st fun x y r => nx 19 ls (.int (x * y) :: r) h) Q := G_unf rfl rfl
theorem g217_19 : G d 217 19 ls st h Q ↔ GN d 217 19 ls h (ldI ls 2 fun x => nx 20 ls (.int x :: st) h) Q := G_unf rfl rfl
theorem g217_20 : G d 217 20 ls st h Q ↔ GN d 217 20 ls h (pII st fun x y r => nx 21 ls (.int (x + y) :: r) h) Q := G_unf rfl rfl
theorem g217_21 : G d 217 21 ls st h Q ↔ GN d 217 21 ls h (pRI st fun a i r => br (a = 1000003) (ck (inb i (hS h).1) (nx 22 ls (.int ((hS h).2 i.toNatClampNeg) :: r) h)) (ck (arr h a 10 ∧ inb i (hLn h a)) (nx 22 ls (.int (hI h a i.toNatClampNeg) :: r) h))) Q := G_unf rfl rfl
theorem g217_22 : G d 217 22 ls st h Q ↔ GN d 217 22 ls h (nx 23 ls (.int (-1) :: st) h) Q := G_unf rfl rfl
theorem g217_23 : G d 217 23 ls st h Q ↔ GN d 217 23 ls h (pII st fun x y r => nx 24 ls (.int (x ^^^ y) :: r) h) Q := G_unf rfl rfl
theorem g217_24 : G d 217 24 ls st h Q ↔ GN d 217 24 ls h (pII st fun x y r => nx 25 ls (.int (x &&& y) :: r) h) Q := G_unf rfl rfl
theorem g217_25 : G d 217 25 ls st h Q ↔ GN d 217 25 ls h (pA 1 st fun as r => pR r fun a r => ck (r.length ≤ 4 ∧ arr h a 9) (cll 216 (.ref a :: as) r)) Q := G_unf rfl rfl
theorem g217_28 : G d 217 28 ls st h Q ↔ GN d 217 28 ls h (pIe st fun x => rtn (some (.int x))) Q := G_unf rfl rfl
theorem g218_0 : G d 218 0 ls st h Q ↔ GN d 218 0 ls h (ldR ls 0 fun a => nx 1 ls (.ref a :: st) h) Q := G_unf rfl rfl
theorem g218_1 : G d 218 1 ls st h Q ↔ GN d 218 1 ls h (pR st fun a r => ck (arr h a 9) (nx 4 ls (.int (hI h a 64) :: r) h)) Q := G_unf rfl rfl
theorem g218_4 : G d 218 4 ls st h Q ↔ GN d 218 4 ls h (pI st fun x r => ck (3 < ls.length) (nx 5 (st1 ls 3 (.int x)) r h)) Q := G_unf rfl rfl
theorem g218_5 : G d 218 5 ls st h Q ↔ GN d 218 5 ls h (ldI ls 1 fun x => nx 6 ls (.int x :: st) h) Q := G_unf rfl rfl
theorem g218_6 : G d 218 6 ls st h Q ↔ GN d 218 6 ls h (pI st fun x r => br (x.toInt = 0) (nx 56 ls r h) (br (x.toInt = 1) (nx 59 ls r h) (br (x.toInt = 2) (nx 78 ls r h) (br (x.toInt = 3) (nx 86 ls r h) (br (x.toInt = 4) (nx 105 ls r h) (br (x.toInt = 5) (nx 136 ls r h) (br (x.toInt = 6) (nx 143 ls r h) (br (x.toInt = 7) (nx 149 ls r h) (br (x.toInt = 8) (nx 163 ls r h) (nx 182 ls r h)))))))))) Q := G_unf rfl rfl
theorem g218_56 : G d 218 56 ls st h Q ↔ GN d 218 56 ls h (ldI ls 2 fun x => nx 57 ls (.int x :: st) h) Q := G_unf rfl rfl
theorem g218_57 : G d 218 57 ls st h Q ↔ GN d 218 57 ls h (pI st fun x r => nx 58 ls (.long x.toInt64 :: r) h) Q := G_unf rfl rfl
theorem g218_58 : G d 218 58 ls st h Q ↔ GN d 218 58 ls h (pJe st fun x => rtn (some (.long x))) Q := G_unf rfl rfl
theorem g218_59 : G d 218 59 ls st h Q ↔ GN d 218 59 ls h (ldR ls 0 fun a => nx 60 ls (.ref a :: st) h) Q := G_unf rfl rfl
theorem g218_60 : G d 218 60 ls st h Q ↔ GN d 218 60 ls h (pR st fun a r => ck (arr h a 9) (nx 63 ls (rv (hR h a 16) :: r) h)) Q := G_unf rfl rfl
theorem g218_63 : G d 218 63 ls st h Q ↔ GN d 218 63 ls h (nx 65 ls (.int (nI 12) :: st) h) Q := G_unf rfl rfl
theorem g218_65 : G d 218 65 ls st h Q ↔ GN d 218 65 ls h (ldR ls 0 fun a => nx 66 ls (.ref a :: st) h) Q := G_unf rfl rfl
theorem g218_66 : G d 218 66 ls st h Q ↔ GN d 218 66 ls h (pR st fun a r => ck (arr h a 9) (nx 69 ls (.int (hI h a 13) :: r) h)) Q := G_unf rfl rfl
theorem g218_69 : G d 218 69 ls st h Q ↔ GN d 218 69 ls h (pII st fun x y r => nx 70 ls (.int (x * y) :: r) h) Q := G_unf rfl rfl
theorem g218_70 : G d 218 70 ls st h Q ↔ GN d 218 70 ls h (ldR ls 0 fun a => nx 71 ls (.ref a :: st) h) Q := G_unf rfl rfl
theorem g218_71 : G d 218 71 ls st h Q ↔ GN d 218 71 ls h (pR st fun a r => ck (arr h a 9) (nx 74 ls (.int (hI h a 66) :: r) h)) Q := G_unf rfl rfl
theorem g218_74 : G d 218 74 ls st h Q ↔ GN d 218 74 ls h (pII st fun x y r => nx 75 ls (.int (x + y) :: r) h) Q := G_unf rfl rfl
theorem g218_75 : G d 218 75 ls st h Q ↔ GN d 218 75 ls h (pRI st fun a i r => br (a = 1000003) (ck (inb i (hS h).1) (nx 76 ls (.int ((hS h).2 i.toNatClampNeg) :: r) h)) (ck (arr h a 10 ∧ inb i (hLn h a)) (nx 76 ls (.int (hI h a i.toNatClampNeg) :: r) h))) Q := G_unf rfl rfl
theorem g218_76 : G d 218 76 ls st h Q ↔ GN d 218 76 ls h (pI st fun x r => nx 77 ls (.long x.toInt64 :: r) h) Q := G_unf rfl rfl
theorem g218_77 : G d 218 77 ls st h Q ↔ GN d 218 77 ls h (pJe st fun x => rtn (some (.long x))) Q := G_unf rfl rfl
theorem g218_78 : G d 218 78 ls st h Q ↔ GN d 218 78 ls h (ldR ls 0 fun a => nx 79 ls (.ref a :: st) h) Q := G_unf rfl rfl
theorem g218_79 : G d 218 79 ls st h Q ↔ GN d 218 79 ls h (pR st fun a r => ck (arr h a 9) (nx 82 ls (rv (hR h a 51) :: r) h)) Q := G_unf rfl rfl
theorem g218_82 : G d 218 82 ls st h Q ↔ GN d 218 82 ls h (ldI ls 3 fun x => nx 83 ls (.int x :: st) h) Q := G_unf rfl rfl
theorem g218_83 : G d 218 83 ls st h Q ↔ GN d 218 83 ls h (pRI st fun a i r => br (a = 1000003) (ck (inb i (hS h).1) (nx 84 ls (.int ((hS h).2 i.toNatClampNeg) :: r) h)) (ck (arr h a 10 ∧ inb i (hLn h a)) (nx 84 ls (.int (hI h a i.toNatClampNeg) :: r) h))) Q := G_unf rfl rfl
theorem g218_84 : G d 218 84 ls st h Q ↔ GN d 218 84 ls h (pI st fun x r => nx 85 ls (.long x.toInt64 :: r) h) Q := G_unf rfl rfl
theorem g218_85 : G d 218 85 ls st h Q ↔ GN d 218 85 ls h (pJe st fun x => rtn (some (.long x))) Q := G_unf rfl rfl
theorem g218_86 : G d 218 86 ls st h Q ↔ GN d 218 86 ls h (ldR ls 0 fun a => nx 87 ls (.ref a :: st) h) Q := G_unf rfl rfl
theorem g218_87 : G d 218 87 ls st h Q ↔ GN d 218 87 ls h (pR st fun a r => ck (arr h a 9) (nx 90 ls (rv (hR h a 21) :: r) h)) Q := G_unf rfl rfl
theorem g218_90 : G d 218 90 ls st h Q ↔ GN d 218 90 ls h (nx 92 ls (.int (nI 8) :: st) h) Q := G_unf rfl rfl
theorem g218_92 : G d 218 92 ls st h Q ↔ GN d 218 92 ls h (ldR ls 0 fun a => nx 93 ls (.ref a :: st) h) Q := G_unf rfl rfl
theorem g218_93 : G d 218 93 ls st h Q ↔ GN d 218 93 ls h (pR st fun a r => ck (arr h a 9) (nx 96 ls (.int (hI h a 13) :: r) h)) Q := G_unf rfl rfl
theorem g218_96 : G d 218 96 ls st h Q ↔ GN d 218 96 ls h (pII st fun x y r => nx 97 ls (.int (x * y) :: r) h) Q := G_unf rfl rfl
theorem g218_97 : G d 218 97 ls st h Q ↔ GN d 218 97 ls h (ldR ls 0 fun a => nx 98 ls (.ref a :: st) h) Q := G_unf rfl rfl
theorem g218_98 : G d 218 98 ls st h Q ↔ GN d 218 98 ls h (pR st fun a r => ck (arr h a 9) (nx 101 ls (.int (hI h a 65) :: r) h)) Q := G_unf rfl rfl
theorem g218_101 : G d 218 101 ls st h Q ↔ GN d 218 101 ls h (pII st fun x y r => nx 102 ls (.int (x + y) :: r) h) Q := G_unf rfl rfl
theorem g218_102 : G d 218 102 ls st h Q ↔ GN d 218 102 ls h (pRI st fun a i r => br (a = 1000003) (ck (inb i (hS h).1) (nx 103 ls (.int ((hS h).2 i.toNatClampNeg) :: r) h)) (ck (arr h a 10 ∧ inb i (hLn h a)) (nx 103 ls (.int (hI h a i.toNatClampNeg) :: r) h))) Q := G_unf rfl rfl
theorem g218_103 : G d 218 103 ls st h Q ↔ GN d 218 103 ls h (pI st fun x r => nx 104 ls (.long x.toInt64 :: r) h) Q := G_unf rfl rfl
theorem g218_104 : G d 218 104 ls st h Q ↔ GN d 218 104 ls h (pJe st fun x => rtn (some (.long x))) Q := G_unf rfl rfl
theorem g218_105 : G d 218 105 ls st h Q ↔ GN d 218 105 ls h (ldR ls 0 fun a => nx 106 ls (.ref a :: st) h) Q := G_unf rfl rfl
theorem g218_106 : G d 218 106 ls st h Q ↔ GN d 218 106 ls h (pR st fun a r => ck (arr h a 9) (nx 109 ls (.int (hI h a 67) :: r) h)) Q := G_unf rfl rfl
theorem g218_109 : G d 218 109 ls st h Q ↔ GN d 218 109 ls h (nx 110 ls (.int (-1) :: st) h) Q := G_unf rfl rfl
theorem g218_110 : G d 218 110 ls st h Q ↔ GN d 218 110 ls h (pII st fun x y r => br (¬ x = y) (nx 117 ls r h) (nx 113 ls r h)) Q := G_unf rfl rfl
theorem g218_113 : G d 218 113 ls st h Q ↔ GN d 218 113 ls h (nx 114 ls (.long (lN 0) :: st) h) Q := G_unf rfl rfl
theorem g218_114 : G d 218 114 ls st h Q ↔ GN d 218 114 ls h (nx 135 ls st h) Q := G_unf rfl rfl
theorem g218_117 : G d 218 117 ls st h Q ↔ GN d 218 117 ls h (ldR ls 0 fun a => nx 118 ls (.ref a :: st) h) Q := G_unf rfl rfl
theorem g218_118 : G d 218 118 ls st h Q ↔ GN d 218 118 ls h (pR st fun a r => ck (arr h a 9) (nx 121 ls (rv (hR h a 21) :: r) h)) Q := G_unf rfl rfl
theorem g218_121 : G d 218 121 ls st h Q ↔ GN d 218 121 ls h (nx 123 ls (.int (nI 8) :: st) h) Q := G_unf rfl rfl
theorem g218_123 : G d 218 123 ls st h Q ↔ GN d 218 123 ls h (ldR ls 0 fun a => nx 124 ls (.ref a :: st) h) Q := G_unf rfl rfl
theorem g218_124 : G d 218 124 ls st h Q ↔ GN d 218 124 ls h (pR st fun a r => ck (arr h a 9) (nx 127 ls (.int (hI h a 13) :: r) h)) Q := G_unf rfl rfl
theorem g218_127 : G d 218 127 ls st h Q ↔ GN d 218 127 ls h (pII st fun x y r => nx 128 ls (.int (x * y) :: r) h) Q := G_unf rfl rfl
theorem g218_128 : G d 218 128 ls st h Q ↔ GN d 218 128 ls h (ldR ls 0 fun a => nx 129 ls (.ref a :: st) h) Q := G_unf rfl rfl
theorem g218_129 : G d 218 129 ls st h Q ↔ GN d 218 129 ls h (pR st fun a r => ck (arr h a 9) (nx 132 ls (.int (hI h a 67) :: r) h)) Q := G_unf rfl rfl
theorem g218_132 : G d 218 132 ls st h Q ↔ GN d 218 132 ls h (pII st fun x y r => nx 133 ls (.int (x + y) :: r) h) Q := G_unf rfl rfl
theorem g218_133 : G d 218 133 ls st h Q ↔ GN d 218 133 ls h (pRI st fun a i r => br (a = 1000003) (ck (inb i (hS h).1) (nx 134 ls (.int ((hS h).2 i.toNatClampNeg) :: r) h)) (ck (arr h a 10 ∧ inb i (hLn h a)) (nx 134 ls (.int (hI h a i.toNatClampNeg) :: r) h))) Q := G_unf rfl rfl
theorem g218_134 : G d 218 134 ls st h Q ↔ GN d 218 134 ls h (pI st fun x r => nx 135 ls (.long x.toInt64 :: r) h) Q := G_unf rfl rfl
theorem g218_135 : G d 218 135 ls st h Q ↔ GN d 218 135 ls h (pJe st fun x => rtn (some (.long x))) Q := G_unf rfl rfl
theorem g218_136 : G d 218 136 ls st h Q ↔ GN d 218 136 ls h (ldR ls 0 fun a => nx 137 ls (.ref a :: st) h) Q := G_unf rfl rfl
theorem g218_137 : G d 218 137 ls st h Q ↔ GN d 218 137 ls h (ldI ls 3 fun x => nx 138 ls (.int x :: st) h) Q := G_unf rfl rfl
theorem g218_138 : G d 218 138 ls st h Q ↔ GN d 218 138 ls h (pA 1 st fun as r => pR r fun a r => ck (r.length ≤ 4 ∧ arr h a 9) (cll 214 (.ref a :: as) r)) Q := G_unf rfl rfl
theorem g218_141 : G d 218 141 ls st h Q ↔ GN d 218 141 ls h (pI st fun x r => nx 142 ls (.long x.toInt64 :: r) h) Q := G_unf rfl rfl
theorem g218_142 : G d 218 142 ls st h Q ↔ GN d 218 142 ls h (pJe st fun x => rtn (some (.long x))) Q := G_unf rfl rfl
theorem g218_143 : G d 218 143 ls st h Q ↔ GN d 218 143 ls h (ldR ls 0 fun a => nx 144 ls (.ref a :: st) h) Q := G_unf rfl rfl
theorem g218_144 : G d 218 144 ls st h Q ↔ GN d 218 144 ls h (pR st fun a r => ck (arr h a 9) (nx 147 ls (.int (hI h a 68) :: r) h)) Q := G_unf rfl rfl
theorem g218_147 : G d 218 147 ls st h Q ↔ GN d 218 147 ls h (pI st fun x r => nx 148 ls (.long x.toInt64 :: r) h) Q := G_unf rfl rfl
theorem g218_148 : G d 218 148 ls st h Q ↔ GN d 218 148 ls h (pJe st fun x => rtn (some (.long x))) Q := G_unf rfl rfl
theorem g218_149 : G d 218 149 ls st h Q ↔ GN d 218 149 ls h (ldR ls 0 fun a => nx 150 ls (.ref a :: st) h) Q := G_unf rfl rfl
theorem g218_150 : G d 218 150 ls st h Q ↔ GN d 218 150 ls h (ldI ls 3 fun x => nx 151 ls (.int x :: st) h) Q := G_unf rfl rfl
theorem g218_151 : G d 218 151 ls st h Q ↔ GN d 218 151 ls h (ldR ls 0 fun a => nx 152 ls (.ref a :: st) h) Q := G_unf rfl rfl
theorem g218_152 : G d 218 152 ls st h Q ↔ GN d 218 152 ls h (pR st fun a r => ck (arr h a 9) (nx 155 ls (.int (hI h a 65) :: r) h)) Q := G_unf rfl rfl
theorem g218_155 : G d 218 155 ls st h Q ↔ GN d 218 155 ls h (pA 2 st fun as r => pR r fun a r => ck (r.length ≤ 4 ∧ arr h a 9) (cll 213 (.ref a :: as) r)) Q := G_unf rfl rfl
theorem g218_158 : G d 218 158 ls st h Q ↔ GN d 218 158 ls h (pA 1 st fun as r => ck (r.length ≤ 4) (cll 206 as r)) Q := G_unf rfl rfl
theorem g218_161 : G d 218 161 ls st h Q ↔ GN d 218 161 ls h (pI st fun x r => nx 162 ls (.long x.toInt64 :: r) h) Q := G_unf rfl rfl
theorem g218_162 : G d 218 162 ls st h Q ↔ GN d 218 162 ls h (pJe st fun x => rtn (some (.long x))) Q := G_unf rfl rfl
theorem g218_163 : G d 218 163 ls st h Q ↔ GN d 218 163 ls h (ldR ls 0 fun a => nx 164 ls (.ref a :: st) h) Q := G_unf rfl rfl
theorem g218_164 : G d 218 164 ls st h Q ↔ GN d 218 164 ls h (pR st fun a r => ck (arr h a 9) (nx 167 ls (rv (hR h a 52) :: r) h)) Q := G_unf rfl rfl
theorem g218_167 : G d 218 167 ls st h Q ↔ GN d 218 167 ls h (nx 169 ls (.int (nI 8) :: st) h) Q := G_unf rfl rfl
theorem g218_169 : G d 218 169 ls st h Q ↔ GN d 218 169 ls h (ldI ls 3 fun x => nx 170 ls (.int x :: st) h) Q := G_unf rfl rfl
theorem g218_170 : G d 218 170 ls st h Q ↔ GN d 218 170 ls h (pII st fun x y r => nx 171 ls (.int (x * y) :: r) h) Q := G_unf rfl rfl
theorem g218_171 : G d 218 171 ls st h Q ↔ GN d 218 171 ls h (ldR ls 0 fun a => nx 172 ls (.ref a :: st) h) Q := G_unf rfl rfl
theorem g218_172 : G d 218 172 ls st h Q ↔ GN d 218 172 ls h (pR st fun a r => ck (arr h a 9) (nx 175 ls (.int (hI h a 65) :: r) h)) Q := G_unf rfl rfl
theorem g218_175 : G d 218 175 ls st h Q ↔ GN d 218 175 ls h (pII st fun x y r => nx 176 ls (.int (x + y) :: r) h) Q := G_unf rfl rfl
set_option maxRecDepth 100000 in
theorem g218_176 : G d 218 176 ls st h Q ↔ GN d 218 176 ls h (pRI st fun a i r => br (a = 1000003) (ck (inb i (hS h).1) (nx 177 ls (.int ((hS h).2 i.toNatClampNeg) :: r) h)) (ck (arr h a 10 ∧ inb i (hLn h a)) (nx 177 ls (.int (hI h a i.toNatClampNeg) :: r) h))) Q := G_unf rfl rfl
set_option maxRecDepth 100000 in
theorem g218_177 : G d 218 177 ls st h Q ↔ GN d 218 177 ls h (pA 1 st fun as r => ck (r.length ≤ 4) (cll 206 as r)) Q := G_unf rfl rfl
set_option maxRecDepth 100000 in
theorem g218_180 : G d 218 180 ls st h Q ↔ GN d 218 180 ls h (pI st fun x r => nx 181 ls (.long x.toInt64 :: r) h) Q := G_unf rfl rfl
set_option maxRecDepth 100000 in
theorem g218_181 : G d 218 181 ls st h Q ↔ GN d 218 181 ls h (pJe st fun x => rtn (some (.long x))) Q := G_unf rfl rfl
set_option maxRecDepth 100000 in
theorem g218_182 : G d 218 182 ls st h Q ↔ GN d 218 182 ls h (nx 183 ls (.long (lN 1) :: st) h) Q := G_unf rfl rfl
set_option maxRecDepth 100000 in
theorem g218_183 : G d 218 183 ls st h Q ↔ GN d 218 183 ls h (pJe st fun x => rtn (some (.long x))) Q := G_unf rfl rfl
theorem g219_0 : G d 219 0 ls st h Q ↔ GN d 219 0 ls h (ldJ ls 0 fun x => nx 1 ls (.long x :: st) h) Q := G_unf rfl rfl
theorem g219_1 : G d 219 1 ls st h Q ↔ GN d 219 1 ls h (nx 4 ls (.long (lN 1000000) :: st) h) Q := G_unf rfl rfl
theorem g219_4 : G d 219 4 ls st h Q ↔ GN d 219 4 ls h (pJJ st fun x y r => nx 5 ls (.int (lg_cmp x y) :: r) h) Q := G_unf rfl rfl
theorem g219_5 : G d 219 5 ls st h Q ↔ GN d 219 5 ls h (pI st fun x r => br (x ≤ 0) (nx 14 ls r h) (nx 8 ls r h)) Q := G_unf rfl rfl
theorem g219_8 : G d 219 8 ls st h Q ↔ GN d 219 8 ls h (nx 11 ls (.long (lN 1000000) :: st) h) Q := G_unf rfl rfl
theorem g219_11 : G d 219 11 ls st h Q ↔ GN d 219 11 ls h (nx 29 ls st h) Q := G_unf rfl rfl
theorem g219_14 : G d 219 14 ls st h Q ↔ GN d 219 14 ls h (ldJ ls 0 fun x => nx 15 ls (.long x :: st) h) Q := G_unf rfl rfl
theorem g219_15 : G d 219 15 ls st h Q ↔ GN d 219 15 ls h (nx 18 ls (.long (-1000000) :: st) h) Q := G_unf rfl rfl
theorem g219_18 : G d 219 18 ls st h Q ↔ GN d 219 18 ls h (pJJ st fun x y r => nx 19 ls (.int (lg_cmp x y) :: r) h) Q := G_unf rfl rfl
theorem g219_19 : G d 219 19 ls st h Q ↔ GN d 219 19 ls h (pI st fun x r => br (0 ≤ x) (nx 28 ls r h) (nx 22 ls r h)) Q := G_unf rfl rfl
theorem g219_22 : G d 219 22 ls st h Q ↔ GN d 219 22 ls h (nx 25 ls (.long (-1000000) :: st) h) Q := G_unf rfl rfl
theorem g219_25 : G d 219 25 ls st h Q ↔ GN d 219 25 ls h (nx 29 ls st h) Q := G_unf rfl rfl
theorem g219_28 : G d 219 28 ls st h Q ↔ GN d 219 28 ls h (ldJ ls 0 fun x => nx 29 ls (.long x :: st) h) Q := G_unf rfl rfl
theorem g219_29 : G d 219 29 ls st h Q ↔ GN d 219 29 ls h (pJe st fun x => rtn (some (.long x))) Q := G_unf rfl rfl
theorem g220_0 : G d 220 0 ls st h Q ↔ GN d 220 0 ls h (ldJ ls 2 fun x => nx 1 ls (.long x :: st) h) Q := G_unf rfl rfl
theorem g220_1 : G d 220 1 ls st h Q ↔ GN d 220 1 ls h (nx 2 ls (.long (lN 0) :: st) h) Q := G_unf rfl rfl
theorem g220_2 : G d 220 2 ls st h Q ↔ GN d 220 2 ls h (pJJ st fun x y r => nx 3 ls (.int (lg_cmp x y) :: r) h) Q := G_unf rfl rfl
theorem g220_3 : G d 220 3 ls st h Q ↔ GN d 220 3 ls h (pI st fun x r => br (¬ x = 0) (nx 8 ls r h) (nx 6 ls r h)) Q := G_unf rfl rfl
theorem g220_6 : G d 220 6 ls st h Q ↔ GN d 220 6 ls h (nx 7 ls (.long (lN 0) :: st) h) Q := G_unf rfl rfl
theorem g220_7 : G d 220 7 ls st h Q ↔ GN d 220 7 ls h (pJe st fun x => rtn (some (.long x))) Q := G_unf rfl rfl
theorem g220_8 : G d 220 8 ls st h Q ↔ GN d 220 8 ls h (ldJ ls 0 fun x => nx 9 ls (.long x :: st) h) Q := G_unf rfl rfl
theorem g220_9 : G d 220 9 ls st h Q ↔ GN d 220 9 ls h (ldJ ls 2 fun x => nx 10 ls (.long x :: st) h) Q := G_unf rfl rfl
theorem g220_10 : G d 220 10 ls st h Q ↔ GN d 220 10 ls h (pJJ st fun x y r => ck (¬ y = 0) (nx 11 ls (.long (x / y) :: r) h)) Q := G_unf rfl rfl
theorem g220_11 : G d 220 11 ls st h Q ↔ GN d 220 11 ls h (pJ st fun x r => ck (5 < ls.length) (nx 13 (st2 ls 4 (.long x)) r h)) Q := G_unf rfl rfl
theorem g220_13 : G d 220 13 ls st h Q ↔ GN d 220 13 ls h (ldJ ls 0 fun x => nx 14 ls (.long x :: st) h) Q := G_unf rfl rfl
theorem g220_14 : G d 220 14 ls st h Q ↔ GN d 220 14 ls h (ldJ ls 2 fun x => nx 15 ls (.long x :: st) h) Q := G_unf rfl rfl
theorem g220_15 : G d 220 15 ls st h Q ↔ GN d 220 15 ls h (pJJ st fun x y r => ck (¬ y = 0) (nx 16 ls (.long (x - x / y * y) :: r) h)) Q := G_unf rfl rfl
theorem g220_16 : G d 220 16 ls st h Q ↔ GN d 220 16 ls h (nx 17 ls (.long (lN 0) :: st) h) Q := G_unf rfl rfl
theorem g220_17 : G d 220 17 ls st h Q ↔ GN d 220 17 ls h (pJJ st fun x y r => nx 18 ls (.int (lg_cmp x y) :: r) h) Q := G_unf rfl rfl
theorem g220_18 : G d 220 18 ls st h Q ↔ GN d 220 18 ls h (pI st fun x r => br (x = 0) (nx 53 ls r h) (nx 21 ls r h)) Q := G_unf rfl rfl
theorem g220_21 : G d 220 21 ls st h Q ↔ GN d 220 21 ls h (ldJ ls 0 fun x => nx 22 ls (.long x :: st) h) Q := G_unf rfl rfl
theorem g220_22 : G d 220 22 ls st h Q ↔ GN d 220 22 ls h (nx 23 ls (.long (lN 0) :: st) h) Q := G_unf rfl rfl
theorem g220_23 : G d 220 23 ls st h Q ↔ GN d 220 23 ls h (pJJ st fun x y r => nx 24 ls (.int (lg_cmp x y) :: r) h) Q := G_unf rfl rfl
theorem g220_24 : G d 220 24 ls st h Q ↔ GN d 220 24 ls h (pI st fun x r => br (0 ≤ x) (nx 31 ls r h) (nx 27 ls r h)) Q := G_unf rfl rfl
theorem g220_27 : G d 220 27 ls st h Q ↔ GN d 220 27 ls h (nx 28 ls (.int (nI 1) :: st) h) Q := G_unf rfl rfl
theorem g220_28 : G d 220 28 ls st h Q ↔ GN d 220 28 ls h (nx 32 ls st h) Q := G_unf rfl rfl
theorem g220_31 : G d 220 31 ls st h Q ↔ GN d 220 31 ls h (nx 32 ls (.int (nI 0) :: st) h) Q := G_unf rfl rfl
theorem g220_32 : G d 220 32 ls st h Q ↔ GN d 220 32 ls h (ldJ ls 2 fun x => nx 33 ls (.long x :: st) h) Q := G_unf rfl rfl
theorem g220_33 : G d 220 33 ls st h Q ↔ GN d 220 33 ls h (nx 34 ls (.long (lN 0) :: st) h) Q := G_unf rfl rfl
theorem g220_34 : G d 220 34 ls st h Q ↔ GN d 220 34 ls h (pJJ st fun x y r => nx 35 ls (.int (lg_cmp x y) :: r) h) Q := G_unf rfl rfl
theorem g220_35 : G d 220 35 ls st h Q ↔ GN d 220 35 ls h (pI st fun x r => br (0 ≤ x) (nx 42 ls r h) (nx 38 ls r h)) Q := G_unf rfl rfl
theorem g220_38 : G d 220 38 ls st h Q ↔ GN d 220 38 ls h (nx 39 ls (.int (nI 1) :: st) h) Q := G_unf rfl rfl
theorem g220_39 : G d 220 39 ls st h Q ↔ GN d 220 39 ls h (nx 43 ls st h) Q := G_unf rfl rfl
theorem g220_42 : G d 220 42 ls st h Q ↔ GN d 220 42 ls h (nx 43 ls (.int (nI 0) :: st) h) Q := G_unf rfl rfl
theorem g220_43 : G d 220 43 ls st h Q ↔ GN d 220 43 ls h (pII st fun x y r => br (x = y) (nx 53 ls r h) (nx 46 ls r h)) Q := G_unf rfl rfl
theorem g220_46 : G d 220 46 ls st h Q ↔ GN d 220 46 ls h (ldJ ls 4 fun x => nx 48 ls (.long x :: st) h) Q := G_unf rfl rfl
theorem g220_48 : G d 220 48 ls st h Q ↔ GN d 220 48 ls h (nx 49 ls (.long (lN 1) :: st) h) Q := G_unf rfl rfl
theorem g220_49 : G d 220 49 ls st h Q ↔ GN d 220 49 ls h (pJJ st fun x y r => nx 50 ls (.long (x - y) :: r) h) Q := G_unf rfl rfl
theorem g220_50 : G d 220 50 ls st h Q ↔ GN d 220 50 ls h (nx 55 ls st h) Q := G_unf rfl rfl
theorem g220_53 : G d 220 53 ls st h Q ↔ GN d 220 53 ls h (ldJ ls 4 fun x => nx 55 ls (.long x :: st) h) Q := G_unf rfl rfl
theorem g220_55 : G d 220 55 ls st h Q ↔ GN d 220 55 ls h (pJe st fun x => rtn (some (.long x))) Q := G_unf rfl rfl
theorem g221_0 : G d 221 0 ls st h Q ↔ GN d 221 0 ls h (ldI ls 0 fun x => nx 1 ls (.int x :: st) h) Q := G_unf rfl rfl
theorem g221_1 : G d 221 1 ls st h Q ↔ GN d 221 1 ls h (pI st fun x r => br (x.toInt = 10) (nx 60 ls r h) (br (x.toInt = 11) (nx 67 ls r h) (br (x.toInt = 12) (nx 74 ls r h) (br (x.toInt = 13) (nx 81 ls r h) (br (x.toInt = 14) (nx 90 ls r h) (br (x.toInt = 15) (nx 113 ls r h) (br (x.toInt = 16) (nx 125 ls r h) (br (x.toInt = 17) (nx 137 ls r h) (br (x.toInt = 18) (nx 149 ls r h) (br (x.toInt = 19) (nx 161 ls r h) (br (x.toInt = 20) (nx 173 ls r h) (nx 177 ls r h)))))))))))) Q := G_unf rfl rfl
theorem g221_60 : G d 221 60 ls st h Q ↔ GN d 221 60 ls h (ldJ ls 1 fun x => nx 61 ls (.long x :: st) h) Q := G_unf rfl rfl
theorem g221_61 : G d 221 61 ls st h Q ↔ GN d 221 61 ls h (ldJ ls 3 fun x => nx 62 ls (.long x :: st) h) Q := G_unf rfl rfl
theorem g221_62 : G d 221 62 ls st h Q ↔ GN d 221 62 ls h (pJJ st fun x y r => nx 63 ls (.long (x + y) :: r) h) Q := G_unf rfl rfl
theorem g221_63 : G d 221 63 ls st h Q ↔ GN d 221 63 ls h (pA 1 st fun as r => ck (r.length ≤ 4) (cll 219 as r)) Q := G_unf rfl rfl
theorem g221_66 : G d 221 66 ls st h Q ↔ GN d 221 66 ls h (pJe st fun x => rtn (some (.long x))) Q := G_unf rfl rfl
theorem g221_67 : G d 221 67 ls st h Q ↔ GN d 221 67 ls h (ldJ ls 1 fun x => nx 68 ls (.long x :: st) h) Q := G_unf rfl rfl
theorem g221_68 : G d 221 68 ls st h Q ↔ GN d 221 68 ls h (ldJ ls 3 fun x => nx 69 ls (.long x :: st) h) Q := G_unf rfl rfl
theorem g221_69 : G d 221 69 ls st h Q ↔ GN d 221 69 ls h (pJJ st fun x y r => nx 70 ls (.long (x - y) :: r) h) Q := G_unf rfl rfl
theorem g221_70 : G d 221 70 ls st h Q ↔ GN d 221 70 ls h (pA 1 st fun as r => ck (r.length ≤ 4) (cll 219 as r)) Q := G_unf rfl rfl
theorem g221_73 : G d 221 73 ls st h Q ↔ GN d 221 73 ls h (pJe st fun x => rtn (some (.long x))) Q := G_unf rfl rfl
theorem g221_74 : G d 221 74 ls st h Q ↔ GN d 221 74 ls h (ldJ ls 1 fun x => nx 75 ls (.long x :: st) h) Q := G_unf rfl rfl
theorem g221_75 : G d 221 75 ls st h Q ↔ GN d 221 75 ls h (ldJ ls 3 fun x => nx 76 ls (.long x :: st) h) Q := G_unf rfl rfl
theorem g221_76 : G d 221 76 ls st h Q ↔ GN d 221 76 ls h (pJJ st fun x y r => nx 77 ls (.long (x * y) :: r) h) Q := G_unf rfl rfl
theorem g221_77 : G d 221 77 ls st h Q ↔ GN d 221 77 ls h (pA 1 st fun as r => ck (r.length ≤ 4) (cll 219 as r)) Q := G_unf rfl rfl
theorem g221_80 : G d 221 80 ls st h Q ↔ GN d 221 80 ls h (pJe st fun x => rtn (some (.long x))) Q := G_unf rfl rfl
theorem g221_81 : G d 221 81 ls st h Q ↔ GN d 221 81 ls h (ldJ ls 1 fun x => nx 82 ls (.long x :: st) h) Q := G_unf rfl rfl
theorem g221_82 : G d 221 82 ls st h Q ↔ GN d 221 82 ls h (ldJ ls 3 fun x => nx 83 ls (.long x :: st) h) Q := G_unf rfl rfl
theorem g221_83 : G d 221 83 ls st h Q ↔ GN d 221 83 ls h (pA 2 st fun as r => ck (r.length ≤ 4) (cll 220 as r)) Q := G_unf rfl rfl
theorem g221_86 : G d 221 86 ls st h Q ↔ GN d 221 86 ls h (pA 1 st fun as r => ck (r.length ≤ 4) (cll 219 as r)) Q := G_unf rfl rfl
theorem g221_89 : G d 221 89 ls st h Q ↔ GN d 221 89 ls h (pJe st fun x => rtn (some (.long x))) Q := G_unf rfl rfl
theorem g221_90 : G d 221 90 ls st h Q ↔ GN d 221 90 ls h (ldJ ls 3 fun x => nx 91 ls (.long x :: st) h) Q := G_unf rfl rfl
theorem g221_91 : G d 221 91 ls st h Q ↔ GN d 221 91 ls h (nx 92 ls (.long (lN 0) :: st) h) Q := G_unf rfl rfl
theorem g221_92 : G d 221 92 ls st h Q ↔ GN d 221 92 ls h (pJJ st fun x y r => nx 93 ls (.int (lg_cmp x y) :: r) h) Q := G_unf rfl rfl
theorem g221_93 : G d 221 93 ls st h Q ↔ GN d 221 93 ls h (pI st fun x r => br (¬ x = 0) (nx 100 ls r h) (nx 96 ls r h)) Q := G_unf rfl rfl
theorem g221_96 : G d 221 96 ls st h Q ↔ GN d 221 96 ls h (nx 97 ls (.long (lN 0) :: st) h) Q := G_unf rfl rfl
theorem g221_97 : G d 221 97 ls st h Q ↔ GN d 221 97 ls h (nx 112 ls st h) Q := G_unf rfl rfl
theorem g221_100 : G d 221 100 ls st h Q ↔ GN d 221 100 ls h (ldJ ls 1 fun x => nx 101 ls (.long x :: st) h) Q := G_unf rfl rfl
theorem g221_101 : G d 221 101 ls st h Q ↔ GN d 221 101 ls h (ldJ ls 3 fun x => nx 102 ls (.long x :: st) h) Q := G_unf rfl rfl
theorem g221_102 : G d 221 102 ls st h Q ↔ GN d 221 102 ls h (ldJ ls 1 fun x => nx 103 ls (.long x :: st) h) Q := G_unf rfl rfl
theorem g221_103 : G d 221 103 ls st h Q ↔ GN d 221 103 ls h (ldJ ls 3 fun x => nx 104 ls (.long x :: st) h) Q := G_unf rfl rfl
theorem g221_104 : G d 221 104 ls st h Q ↔ GN d 221 104 ls h (pA 2 st fun as r => ck (r.length ≤ 4) (cll 220 as r)) Q := G_unf rfl rfl
theorem g221_107 : G d 221 107 ls st h Q ↔ GN d 221 107 ls h (pJJ st fun x y r => nx 108 ls (.long (x * y) :: r) h) Q := G_unf rfl rfl
theorem g221_108 : G d 221 108 ls st h Q ↔ GN d 221 108 ls h (pJJ st fun x y r => nx 109 ls (.long (x - y) :: r) h) Q := G_unf rfl rfl
theorem g221_109 : G d 221 109 ls st h Q ↔ GN d 221 109 ls h (pA 1 st fun as r => ck (r.length ≤ 4) (cll 219 as r)) Q := G_unf rfl rfl
theorem g221_112 : G d 221 112 ls st h Q ↔ GN d 221 112 ls h (pJe st fun x => rtn (some (.long x))) Q := G_unf rfl rfl
theorem g221_113 : G d 221 113 ls st h Q ↔ GN d 221 113 ls h (ldJ ls 1 fun x => nx 114 ls (.long x :: st) h) Q := G_unf rfl rfl
theorem g221_114 : G d 221 114 ls st h Q ↔ GN d 221 114 ls h (ldJ ls 3 fun x => nx 115 ls (.long x :: st) h) Q := G_unf rfl rfl
theorem g221_115 : G d 221 115 ls st h Q ↔ GN d 221 115 ls h (pJJ st fun x y r => nx 116 ls (.int (lg_cmp x y) :: r) h) Q := G_unf rfl rfl
theorem g221_116 : G d 221 116 ls st h Q ↔ GN d 221 116 ls h (pI st fun x r => br (0 ≤ x) (nx 123 ls r h) (nx 119 ls r h)) Q := G_unf rfl rfl
theorem g221_119 : G d 221 119 ls st h Q ↔ GN d 221 119 ls h (ldJ ls 1 fun x => nx 120 ls (.long x :: st) h) Q := G_unf rfl rfl
theorem g221_120 : G d 221 120 ls st h Q ↔ GN d 221 120 ls h (nx 124 ls st h) Q := G_unf rfl rfl
theorem g221_123 : G d 221 123 ls st h Q ↔ GN d 221 123 ls h (ldJ ls 3 fun x => nx 124 ls (.long x :: st) h) Q := G_unf rfl rfl
theorem g221_124 : G d 221 124 ls st h Q ↔ GN d 221 124 ls h (pJe st fun x => rtn (some (.long x))) Q := G_unf rfl rfl
theorem g221_125 : G d 221 125 ls st h Q ↔ GN d 221 125 ls h (ldJ ls 1 fun x => nx 126 ls (.long x :: st) h) Q := G_unf rfl rfl
theorem g221_126 : G d 221 126 ls st h Q ↔ GN d 221 126 ls h (ldJ ls 3 fun x => nx 127 ls (.long x :: st) h) Q := G_unf rfl rfl
theorem g221_127 : G d 221 127 ls st h Q ↔ GN d 221 127 ls h (pJJ st fun x y r => nx 128 ls (.int (lg_cmp x y) :: r) h) Q := G_unf rfl rfl
theorem g221_128 : G d 221 128 ls st h Q ↔ GN d 221 128 ls h (pI st fun x r => br (x ≤ 0) (nx 135 ls r h) (nx 131 ls r h)) Q := G_unf rfl rfl
theorem g221_131 : G d 221 131 ls st h Q ↔ GN d 221 131 ls h (ldJ ls 1 fun x => nx 132 ls (.long x :: st) h) Q := G_unf rfl rfl
theorem g221_132 : G d 221 132 ls st h Q ↔ GN d 221 132 ls h (nx 136 ls st h) Q := G_unf rfl rfl
theorem g221_135 : G d 221 135 ls st h Q ↔ GN d 221 135 ls h (ldJ ls 3 fun x => nx 136 ls (.long x :: st) h) Q := G_unf rfl rfl
theorem g221_136 : G d 221 136 ls st h Q ↔ GN d 221 136 ls h (pJe st fun x => rtn (some (.long x))) Q := G_unf rfl rfl
theorem g221_137 : G d 221 137 ls st h Q ↔ GN d 221 137 ls h (ldJ ls 1 fun x => nx 138 ls (.long x :: st) h) Q := G_unf rfl rfl
theorem g221_138 : G d 221 138 ls st h Q ↔ GN d 221 138 ls h (ldJ ls 3 fun x => nx 139 ls (.long x :: st) h) Q := G_unf rfl rfl
theorem g221_139 : G d 221 139 ls st h Q ↔ GN d 221 139 ls h (pJJ st fun x y r => nx 140 ls (.int (lg_cmp x y) :: r) h) Q := G_unf rfl rfl
theorem g221_140 : G d 221 140 ls st h Q ↔ GN d 221 140 ls h (pI st fun x r => br (0 ≤ x) (nx 147 ls r h) (nx 143 ls r h)) Q := G_unf rfl rfl
theorem g221_143 : G d 221 143 ls st h Q ↔ GN d 221 143 ls h (nx 144 ls (.long (lN 1) :: st) h) Q := G_unf rfl rfl
theorem g221_144 : G d 221 144 ls st h Q ↔ GN d 221 144 ls h (nx 148 ls st h) Q := G_unf rfl rfl
theorem g221_147 : G d 221 147 ls st h Q ↔ GN d 221 147 ls h (nx 148 ls (.long (lN 0) :: st) h) Q := G_unf rfl rfl
theorem g221_148 : G d 221 148 ls st h Q ↔ GN d 221 148 ls h (pJe st fun x => rtn (some (.long x))) Q := G_unf rfl rfl
theorem g221_149 : G d 221 149 ls st h Q ↔ GN d 221 149 ls h (ldJ ls 1 fun x => nx 150 ls (.long x :: st) h) Q := G_unf rfl rfl
theorem g221_150 : G d 221 150 ls st h Q ↔ GN d 221 150 ls h (ldJ ls 3 fun x => nx 151 ls (.long x :: st) h) Q := G_unf rfl rfl
theorem g221_151 : G d 221 151 ls st h Q ↔ GN d 221 151 ls h (pJJ st fun x y r => nx 152 ls (.int (lg_cmp x y) :: r) h) Q := G_unf rfl rfl
theorem g221_152 : G d 221 152 ls st h Q ↔ GN d 221 152 ls h (pI st fun x r => br (x ≤ 0) (nx 159 ls r h) (nx 155 ls r h)) Q := G_unf rfl rfl
theorem g221_155 : G d 221 155 ls st h Q ↔ GN d 221 155 ls h (nx 156 ls (.long (lN 1) :: st) h) Q := G_unf rfl rfl
theorem g221_156 : G d 221 156 ls st h Q ↔ GN d 221 156 ls h (nx 160 ls st h) Q := G_unf rfl rfl
theorem g221_159 : G d 221 159 ls st h Q ↔ GN d 221 159 ls h (nx 160 ls (.long (lN 0) :: st) h) Q := G_unf rfl rfl
theorem g221_160 : G d 221 160 ls st h Q ↔ GN d 221 160 ls h (pJe st fun x => rtn (some (.long x))) Q := G_unf rfl rfl
theorem g221_161 : G d 221 161 ls st h Q ↔ GN d 221 161 ls h (ldJ ls 1 fun x => nx 162 ls (.long x :: st) h) Q := G_unf rfl rfl
theorem g221_162 : G d 221 162 ls st h Q ↔ GN d 221 162 ls h (ldJ ls 3 fun x => nx 163 ls (.long x :: st) h) Q := G_unf rfl rfl
theorem g221_163 : G d 221 163 ls st h Q ↔ GN d 221 163 ls h (pJJ st fun x y r => nx 164 ls (.int (lg_cmp x y) :: r) h) Q := G_unf rfl rfl
theorem g221_164 : G d 221 164 ls st h Q ↔ GN d 221 164 ls h (pI st fun x r => br (¬ x = 0) (nx 171 ls r h) (nx 167 ls r h)) Q := G_unf rfl rfl
theorem g221_167 : G d 221 167 ls st h Q ↔ GN d 221 167 ls h (nx 168 ls (.long (lN 1) :: st) h) Q := G_unf rfl rfl
theorem g221_168 : G d 221 168 ls st h Q ↔ GN d 221 168 ls h (nx 172 ls st h) Q := G_unf rfl rfl
theorem g221_171 : G d 221 171 ls st h Q ↔ GN d 221 171 ls h (nx 172 ls (.long (lN 0) :: st) h) Q := G_unf rfl rfl
theorem g221_172 : G d 221 172 ls st h Q ↔ GN d 221 172 ls h (pJe st fun x => rtn (some (.long x))) Q := G_unf rfl rfl
theorem g221_173 : G d 221 173 ls st h Q ↔ GN d 221 173 ls h (ldJ ls 1 fun x => nx 174 ls (.long x :: st) h) Q := G_unf rfl rfl
theorem g221_174 : G d 221 174 ls st h Q ↔ GN d 221 174 ls h (ldJ ls 3 fun x => nx 175 ls (.long x :: st) h) Q := G_unf rfl rfl
theorem g221_175 : G d 221 175 ls st h Q ↔ GN d 221 175 ls h (pJJ st fun x y r => nx 176 ls (.long (x &&& y) :: r) h) Q := G_unf rfl rfl
theorem g221_176 : G d 221 176 ls st h Q ↔ GN d 221 176 ls h (pJe st fun x => rtn (some (.long x))) Q := G_unf rfl rfl
set_option maxRecDepth 100000 in
theorem g221_177 : G d 221 177 ls st h Q ↔ GN d 221 177 ls h (ldJ ls 1 fun x => nx 178 ls (.long x :: st) h) Q := G_unf rfl rfl
set_option maxRecDepth 100000 in
theorem g221_178 : G d 221 178 ls st h Q ↔ GN d 221 178 ls h (ldJ ls 3 fun x => nx 179 ls (.long x :: st) h) Q := G_unf rfl rfl
set_option maxRecDepth 100000 in
theorem g221_179 : G d 221 179 ls st h Q ↔ GN d 221 179 ls h (pJJ st fun x y r => nx 180 ls (.long (x ||| y) :: r) h) Q := G_unf rfl rfl
set_option maxRecDepth 100000 in
theorem g221_180 : G d 221 180 ls st h Q ↔ GN d 221 180 ls h (pJe st fun x => rtn (some (.long x))) Q := G_unf rfl rfl
theorem g222_0 : G d 222 0 ls st h Q ↔ GN d 222 0 ls h (nx 1 ls (.int (nI 0) :: st) h) Q := G_unf rfl rfl
theorem g222_1 : G d 222 1 ls st h Q ↔ GN d 222 1 ls h (pI st fun x r => ck (3 < ls.length) (nx 2 (st1 ls 3 (.int x)) r h)) Q := G_unf rfl rfl
theorem g222_2 : G d 222 2 ls st h Q ↔ GN d 222 2 ls h (nx 5 ls (.int (nI 1600) :: st) h) Q := G_unf rfl rfl
theorem g222_5 : G d 222 5 ls st h Q ↔ GN d 222 5 ls h (ldR ls 0 fun a => nx 6 ls (.ref a :: st) h) Q := G_unf rfl rfl
theorem g222_6 : G d 222 6 ls st h Q ↔ GN d 222 6 ls h (pR st fun a r => ck (arr h a 9) (nx 9 ls (.int (hI h a 13) :: r) h)) Q := G_unf rfl rfl
theorem g222_9 : G d 222 9 ls st h Q ↔ GN d 222 9 ls h (pII st fun x y r => nx 10 ls (.int (x * y) :: r) h) Q := G_unf rfl rfl
theorem g222_10 : G d 222 10 ls st h Q ↔ GN d 222 10 ls h (ldI ls 1 fun x => nx 11 ls (.int x :: st) h) Q := G_unf rfl rfl
theorem g222_11 : G d 222 11 ls st h Q ↔ GN d 222 11 ls h (pII st fun x y r => nx 12 ls (.int (x + y) :: r) h) Q := G_unf rfl rfl
theorem g222_12 : G d 222 12 ls st h Q ↔ GN d 222 12 ls h (pI st fun x r => ck (4 < ls.length) (nx 14 (st1 ls 4 (.int x)) r h)) Q := G_unf rfl rfl
theorem g222_14 : G d 222 14 ls st h Q ↔ GN d 222 14 ls h (ldI ls 4 fun x => nx 16 ls (.int x :: st) h) Q := G_unf rfl rfl
theorem g222_16 : G d 222 16 ls st h Q ↔ GN d 222 16 ls h (nx 19 ls (.int (nI 1600) :: st) h) Q := G_unf rfl rfl
theorem g222_19 : G d 222 19 ls st h Q ↔ GN d 222 19 ls h (ldR ls 0 fun a => nx 20 ls (.ref a :: st) h) Q := G_unf rfl rfl
theorem g222_20 : G d 222 20 ls st h Q ↔ GN d 222 20 ls h (pR st fun a r => ck (arr h a 9) (nx 23 ls (.int (hI h a 13) :: r) h)) Q := G_unf rfl rfl
theorem g222_23 : G d 222 23 ls st h Q ↔ GN d 222 23 ls h (pII st fun x y r => nx 24 ls (.int (x * y) :: r) h) Q := G_unf rfl rfl
theorem g222_24 : G d 222 24 ls st h Q ↔ GN d 222 24 ls h (ldI ls 2 fun x => nx 25 ls (.int x :: st) h) Q := G_unf rfl rfl
theorem g222_25 : G d 222 25 ls st h Q ↔ GN d 222 25 ls h (pII st fun x y r => nx 26 ls (.int (x + y) :: r) h) Q := G_unf rfl rfl
theorem g222_26 : G d 222 26 ls st h Q ↔ GN d 222 26 ls h (pII st fun x y r => br (y ≤ x) (nx 134 ls r h) (nx 29 ls r h)) Q := G_unf rfl rfl
theorem g222_29 : G d 222 29 ls st h Q ↔ GN d 222 29 ls h (ldR ls 0 fun a => nx 30 ls (.ref a :: st) h) Q := G_unf rfl rfl
theorem g222_30 : G d 222 30 ls st h Q ↔ GN d 222 30 ls h (pR st fun a r => ck (arr h a 9) (nx 33 ls (rv (hR h a 34) :: r) h)) Q := G_unf rfl rfl
theorem g222_33 : G d 222 33 ls st h Q ↔ GN d 222 33 ls h (ldI ls 4 fun x => nx 35 ls (.int x :: st) h) Q := G_unf rfl rfl
theorem g222_35 : G d 222 35 ls st h Q ↔ GN d 222 35 ls h (pRI st fun a i r => br (a = 1000003) (ck (inb i (hS h).1) (nx 36 ls (.int ((hS h).2 i.toNatClampNeg) :: r) h)) (ck (arr h a 10 ∧ inb i (hLn h a)) (nx 36 ls (.int (hI h a i.toNatClampNeg) :: r) h))) Q := G_unf rfl rfl
theorem g222_36 : G d 222 36 ls st h Q ↔ GN d 222 36 ls h (pI st fun x r => ck (5 < ls.length) (nx 38 (st1 ls 5 (.int x)) r h)) Q := G_unf rfl rfl
theorem g222_38 : G d 222 38 ls st h Q ↔ GN d 222 38 ls h (ldI ls 5 fun x => nx 40 ls (.int x :: st) h) Q := G_unf rfl rfl
theorem g222_40 : G d 222 40 ls st h Q ↔ GN d 222 40 ls h (nx 42 ls (.int (nI 9) :: st) h) Q := G_unf rfl rfl
theorem g222_42 : G d 222 42 ls st h Q ↔ GN d 222 42 ls h (pII st fun x y r => br (y < x) (nx 70 ls r h) (nx 45 ls r h)) Q := G_unf rfl rfl
theorem g222_45 : G d 222 45 ls st h Q ↔ GN d 222 45 ls h (ldR ls 0 fun a => nx 46 ls (.ref a :: st) h) Q := G_unf rfl rfl
theorem g222_46 : G d 222 46 ls st h Q ↔ GN d 222 46 ls h (pR st fun a r => ck (arr h a 9) (nx 49 ls (rv (hR h a 63) :: r) h)) Q := G_unf rfl rfl
theorem g222_49 : G d 222 49 ls st h Q ↔ GN d 222 49 ls h (ldI ls 3 fun x => nx 50 ls (.int x :: st) h) Q := G_unf rfl rfl
theorem g222_50 : G d 222 50 ls st h Q ↔ GN d 222 50 ls h (ldR ls 0 fun a => nx 51 ls (.ref a :: st) h) Q := G_unf rfl rfl
theorem g222_51 : G d 222 51 ls st h Q ↔ GN d 222 51 ls h (ldI ls 5 fun x => nx 53 ls (.int x :: st) h) Q := G_unf rfl rfl
theorem g222_53 : G d 222 53 ls st h Q ↔ GN d 222 53 ls h (ldR ls 0 fun a => nx 54 ls (.ref a :: st) h) Q := G_unf rfl rfl
theorem g222_54 : G d 222 54 ls st h Q ↔ GN d 222 54 ls h (pR st fun a r => ck (arr h a 9) (nx 57 ls (rv (hR h a 35) :: r) h)) Q := G_unf rfl rfl
theorem g222_57 : G d 222 57 ls st h Q ↔ GN d 222 57 ls h (ldI ls 4 fun x => nx 59 ls (.int x :: st) h) Q := G_unf rfl rfl
theorem g222_59 : G d 222 59 ls st h Q ↔ GN d 222 59 ls h (pRI st fun a i r => br (a = 1000003) (ck (inb i (hS h).1) (nx 60 ls (.int ((hS h).2 i.toNatClampNeg) :: r) h)) (ck (arr h a 10 ∧ inb i (hLn h a)) (nx 60 ls (.int (hI h a i.toNatClampNeg) :: r) h))) Q := G_unf rfl rfl
theorem g222_60 : G d 222 60 ls st h Q ↔ GN d 222 60 ls h (pA 2 st fun as r => pR r fun a r => ck (r.length ≤ 4 ∧ arr h a 9) (cll 218 (.ref a :: as) r)) Q := G_unf rfl rfl
theorem g222_63 : G d 222 63 ls st h Q ↔ GN d 222 63 ls h (pRIJ st fun a i x r => ck (arr h a 13 ∧ inb i (hLn h a)) (nx 64 ls r (sL h a i.toNatClampNeg x))) Q := G_unf rfl rfl
theorem g222_64 : G d 222 64 ls st h Q ↔ GN d 222 64 ls h (ldI ls 3 fun x => nx 67 (st1 ls 3 (.int (x + (nI 1)))) st h) Q := G_unf rfl rfl
theorem g222_67 : G d 222 67 ls st h Q ↔ GN d 222 67 ls h (nx 128 ls st h) Q := G_unf rfl rfl
theorem g222_70 : G d 222 70 ls st h Q ↔ GN d 222 70 ls h (ldI ls 5 fun x => nx 72 ls (.int x :: st) h) Q := G_unf rfl rfl
theorem g222_72 : G d 222 72 ls st h Q ↔ GN d 222 72 ls h (nx 74 ls (.int (nI 22) :: st) h) Q := G_unf rfl rfl
theorem g222_74 : G d 222 74 ls st h Q ↔ GN d 222 74 ls h (pII st fun x y r => br (¬ x = y) (nx 98 ls r h) (nx 77 ls r h)) Q := G_unf rfl rfl
theorem g222_77 : G d 222 77 ls st h Q ↔ GN d 222 77 ls h (ldR ls 0 fun a => nx 78 ls (.ref a :: st) h) Q := G_unf rfl rfl
theorem g222_78 : G d 222 78 ls st h Q ↔ GN d 222 78 ls h (pR st fun a r => ck (arr h a 9) (nx 81 ls (rv (hR h a 63) :: r) h)) Q := G_unf rfl rfl
theorem g222_81 : G d 222 81 ls st h Q ↔ GN d 222 81 ls h (ldI ls 3 fun x => nx 82 ls (.int x :: st) h) Q := G_unf rfl rfl
theorem g222_82 : G d 222 82 ls st h Q ↔ GN d 222 82 ls h (nx 83 ls (.int (nI 1) :: st) h) Q := G_unf rfl rfl
theorem g222_83 : G d 222 83 ls st h Q ↔ GN d 222 83 ls h (pII st fun x y r => nx 84 ls (.int (x - y) :: r) h) Q := G_unf rfl rfl
theorem g222_84 : G d 222 84 ls st h Q ↔ GN d 222 84 ls h (nx 85 ls (.long (lN 1) :: st) h) Q := G_unf rfl rfl
theorem g222_85 : G d 222 85 ls st h Q ↔ GN d 222 85 ls h (ldR ls 0 fun a => nx 86 ls (.ref a :: st) h) Q := G_unf rfl rfl
theorem g222_86 : G d 222 86 ls st h Q ↔ GN d 222 86 ls h (pR st fun a r => ck (arr h a 9) (nx 89 ls (rv (hR h a 63) :: r) h)) Q := G_unf rfl rfl
theorem g222_89 : G d 222 89 ls st h Q ↔ GN d 222 89 ls h (ldI ls 3 fun x => nx 90 ls (.int x :: st) h) Q := G_unf rfl rfl
theorem g222_90 : G d 222 90 ls st h Q ↔ GN d 222 90 ls h (nx 91 ls (.int (nI 1) :: st) h) Q := G_unf rfl rfl
theorem g222_91 : G d 222 91 ls st h Q ↔ GN d 222 91 ls h (pII st fun x y r => nx 92 ls (.int (x - y) :: r) h) Q := G_unf rfl rfl
theorem g222_92 : G d 222 92 ls st h Q ↔ GN d 222 92 ls h (pRI st fun a i r => ck (arr h a 13 ∧ inb i (hLn h a)) (nx 93 ls (.long (hL h a i.toNatClampNeg) :: r) h)) Q := G_unf rfl rfl
theorem g222_93 : G d 222 93 ls st h Q ↔ GN d 222 93 ls h (pJJ st fun x y r => nx 94 ls (.long (x - y) :: r) h) Q := G_unf rfl rfl
theorem g222_94 : G d 222 94 ls st h Q ↔ GN d 222 94 ls h (pRIJ st fun a i x r => ck (arr h a 13 ∧ inb i (hLn h a)) (nx 95 ls r (sL h a i.toNatClampNeg x))) Q := G_unf rfl rfl
theorem g222_95 : G d 222 95 ls st h Q ↔ GN d 222 95 ls h (nx 128 ls st h) Q := G_unf rfl rfl
theorem g222_98 : G d 222 98 ls st h Q ↔ GN d 222 98 ls h (ldI ls 3 fun x => nx 101 (st1 ls 3 (.int (x + (-1)))) st h) Q := G_unf rfl rfl
theorem g222_101 : G d 222 101 ls st h Q ↔ GN d 222 101 ls h (ldR ls 0 fun a => nx 102 ls (.ref a :: st) h) Q := G_unf rfl rfl
theorem g222_102 : G d 222 102 ls st h Q ↔ GN d 222 102 ls h (pR st fun a r => ck (arr h a 9) (nx 105 ls (rv (hR h a 63) :: r) h)) Q := G_unf rfl rfl
theorem g222_105 : G d 222 105 ls st h Q ↔ GN d 222 105 ls h (ldI ls 3 fun x => nx 106 ls (.int x :: st) h) Q := G_unf rfl rfl
theorem g222_106 : G d 222 106 ls st h Q ↔ GN d 222 106 ls h (nx 107 ls (.int (nI 1) :: st) h) Q := G_unf rfl rfl
theorem g222_107 : G d 222 107 ls st h Q ↔ GN d 222 107 ls h (pII st fun x y r => nx 108 ls (.int (x - y) :: r) h) Q := G_unf rfl rfl
theorem g222_108 : G d 222 108 ls st h Q ↔ GN d 222 108 ls h (ldI ls 5 fun x => nx 110 ls (.int x :: st) h) Q := G_unf rfl rfl
theorem g222_110 : G d 222 110 ls st h Q ↔ GN d 222 110 ls h (ldR ls 0 fun a => nx 111 ls (.ref a :: st) h) Q := G_unf rfl rfl
theorem g222_111 : G d 222 111 ls st h Q ↔ GN d 222 111 ls h (pR st fun a r => ck (arr h a 9) (nx 114 ls (rv (hR h a 63) :: r) h)) Q := G_unf rfl rfl
theorem g222_114 : G d 222 114 ls st h Q ↔ GN d 222 114 ls h (ldI ls 3 fun x => nx 115 ls (.int x :: st) h) Q := G_unf rfl rfl
theorem g222_115 : G d 222 115 ls st h Q ↔ GN d 222 115 ls h (nx 116 ls (.int (nI 1) :: st) h) Q := G_unf rfl rfl
theorem g222_116 : G d 222 116 ls st h Q ↔ GN d 222 116 ls h (pII st fun x y r => nx 117 ls (.int (x - y) :: r) h) Q := G_unf rfl rfl
theorem g222_117 : G d 222 117 ls st h Q ↔ GN d 222 117 ls h (pRI st fun a i r => ck (arr h a 13 ∧ inb i (hLn h a)) (nx 118 ls (.long (hL h a i.toNatClampNeg) :: r) h)) Q := G_unf rfl rfl
theorem g222_118 : G d 222 118 ls st h Q ↔ GN d 222 118 ls h (ldR ls 0 fun a => nx 119 ls (.ref a :: st) h) Q := G_unf rfl rfl
theorem g222_119 : G d 222 119 ls st h Q ↔ GN d 222 119 ls h (pR st fun a r => ck (arr h a 9) (nx 122 ls (rv (hR h a 63) :: r) h)) Q := G_unf rfl rfl
theorem g222_122 : G d 222 122 ls st h Q ↔ GN d 222 122 ls h (ldI ls 3 fun x => nx 123 ls (.int x :: st) h) Q := G_unf rfl rfl
theorem g222_123 : G d 222 123 ls st h Q ↔ GN d 222 123 ls h (pRI st fun a i r => ck (arr h a 13 ∧ inb i (hLn h a)) (nx 124 ls (.long (hL h a i.toNatClampNeg) :: r) h)) Q := G_unf rfl rfl
theorem g222_124 : G d 222 124 ls st h Q ↔ GN d 222 124 ls h (pA 3 st fun as r => ck (r.length ≤ 4) (cll 221 as r)) Q := G_unf rfl rfl
theorem g222_127 : G d 222 127 ls st h Q ↔ GN d 222 127 ls h (pRIJ st fun a i x r => ck (arr h a 13 ∧ inb i (hLn h a)) (nx 128 ls r (sL h a i.toNatClampNeg x))) Q := G_unf rfl rfl
theorem g222_128 : G d 222 128 ls st h Q ↔ GN d 222 128 ls h (ldI ls 4 fun x => nx 131 (st1 ls 4 (.int (x + (nI 1)))) st h) Q := G_unf rfl rfl
theorem g222_131 : G d 222 131 ls st h Q ↔ GN d 222 131 ls h (nx 14 ls st h) Q := G_unf rfl rfl
theorem g222_134 : G d 222 134 ls st h Q ↔ GN d 222 134 ls h (ldR ls 0 fun a => nx 135 ls (.ref a :: st) h) Q := G_unf rfl rfl
theorem g222_135 : G d 222 135 ls st h Q ↔ GN d 222 135 ls h (pR st fun a r => ck (arr h a 9) (nx 138 ls (rv (hR h a 63) :: r) h)) Q := G_unf rfl rfl
theorem g222_138 : G d 222 138 ls st h Q ↔ GN d 222 138 ls h (nx 139 ls (.int (nI 0) :: st) h) Q := G_unf rfl rfl
theorem g222_139 : G d 222 139 ls st h Q ↔ GN d 222 139 ls h (pRI st fun a i r => ck (arr h a 13 ∧ inb i (hLn h a)) (nx 140 ls (.long (hL h a i.toNatClampNeg) :: r) h)) Q := G_unf rfl rfl
set_option maxRecDepth 100000 in
theorem g222_140 : G d 222 140 ls st h Q ↔ GN d 222 140 ls h (pJe st fun x => rtn (some (.long x))) Q := G_unf rfl rfl
theorem g223_0 : G d 223 0 ls st h Q ↔ GN d 223 0 ls h (ldR ls 0 fun a => nx 1 ls (.ref a :: st) h) Q := G_unf rfl rfl
theorem g223_1 : G d 223 1 ls st h Q ↔ GN d 223 1 ls h (pR st fun a r => ck (arr h a 9) (nx 4 ls (rv (hR h a 30) :: r) h)) Q := G_unf rfl rfl
theorem g223_4 : G d 223 4 ls st h Q ↔ GN d 223 4 ls h (ldR ls 0 fun a => nx 5 ls (.ref a :: st) h) Q := G_unf rfl rfl
theorem g223_5 : G d 223 5 ls st h Q ↔ GN d 223 5 ls h (pR st fun a r => ck (arr h a 9) (nx 8 ls (.int (hI h a 13) :: r) h)) Q := G_unf rfl rfl
theorem g223_8 : G d 223 8 ls st h Q ↔ GN d 223 8 ls h (pRI st fun a i r => br (a = 1000003) (ck (inb i (hS h).1) (nx 9 ls (.int ((hS h).2 i.toNatClampNeg) :: r) h)) (ck (arr h a 10 ∧ inb i (hLn h a)) (nx 9 ls (.int (hI h a i.toNatClampNeg) :: r) h))) Q := G_unf rfl rfl
theorem g223_9 : G d 223 9 ls st h Q ↔ GN d 223 9 ls h (nx 10 ls (.int (-1) :: st) h) Q := G_unf rfl rfl
theorem g223_10 : G d 223 10 ls st h Q ↔ GN d 223 10 ls h (pII st fun x y r => br (¬ x = y) (nx 15 ls r h) (nx 13 ls r h)) Q := G_unf rfl rfl
theorem g223_13 : G d 223 13 ls st h Q ↔ GN d 223 13 ls h (nx 14 ls (.int (nI 0) :: st) h) Q := G_unf rfl rfl
theorem g223_14 : G d 223 14 ls st h Q ↔ GN d 223 14 ls h (pIe st fun x => rtn (some (.int x))) Q := G_unf rfl rfl
theorem g223_15 : G d 223 15 ls st h Q ↔ GN d 223 15 ls h (ldR ls 0 fun a => nx 16 ls (.ref a :: st) h) Q := G_unf rfl rfl
theorem g223_16 : G d 223 16 ls st h Q ↔ GN d 223 16 ls h (ldI ls 1 fun x => nx 17 ls (.int x :: st) h) Q := G_unf rfl rfl
theorem g223_17 : G d 223 17 ls st h Q ↔ GN d 223 17 ls h (pRI st fun a x r => ck (arr h a 9) (nx 20 ls r (sI h a 64 x))) Q := G_unf rfl rfl
theorem g223_20 : G d 223 20 ls st h Q ↔ GN d 223 20 ls h (ldR ls 0 fun a => nx 21 ls (.ref a :: st) h) Q := G_unf rfl rfl
theorem g223_21 : G d 223 21 ls st h Q ↔ GN d 223 21 ls h (ldI ls 2 fun x => nx 22 ls (.int x :: st) h) Q := G_unf rfl rfl
theorem g223_22 : G d 223 22 ls st h Q ↔ GN d 223 22 ls h (pRI st fun a x r => ck (arr h a 9) (nx 25 ls r (sI h a 65 x))) Q := G_unf rfl rfl
theorem g223_25 : G d 223 25 ls st h Q ↔ GN d 223 25 ls h (ldR ls 0 fun a => nx 26 ls (.ref a :: st) h) Q := G_unf rfl rfl
theorem g223_26 : G d 223 26 ls st h Q ↔ GN d 223 26 ls h (ldI ls 3 fun x => nx 27 ls (.int x :: st) h) Q := G_unf rfl rfl
theorem g223_27 : G d 223 27 ls st h Q ↔ GN d 223 27 ls h (pRI st fun a x r => ck (arr h a 9) (nx 30 ls r (sI h a 66 x))) Q := G_unf rfl rfl
theorem g223_30 : G d 223 30 ls st h Q ↔ GN d 223 30 ls h (ldR ls 0 fun a => nx 31 ls (.ref a :: st) h) Q := G_unf rfl rfl
theorem g223_31 : G d 223 31 ls st h Q ↔ GN d 223 31 ls h (nx 32 ls (.int (-1) :: st) h) Q := G_unf rfl rfl
theorem g223_32 : G d 223 32 ls st h Q ↔ GN d 223 32 ls h (pRI st fun a x r => ck (arr h a 9) (nx 35 ls r (sI h a 67 x))) Q := G_unf rfl rfl
theorem g223_35 : G d 223 35 ls st h Q ↔ GN d 223 35 ls h (ldR ls 0 fun a => nx 36 ls (.ref a :: st) h) Q := G_unf rfl rfl
theorem g223_36 : G d 223 36 ls st h Q ↔ GN d 223 36 ls h (ldI ls 4 fun x => nx 38 ls (.int x :: st) h) Q := G_unf rfl rfl
theorem g223_38 : G d 223 38 ls st h Q ↔ GN d 223 38 ls h (pRI st fun a x r => ck (arr h a 9) (nx 41 ls r (sI h a 68 x))) Q := G_unf rfl rfl
theorem g223_41 : G d 223 41 ls st h Q ↔ GN d 223 41 ls h (ldR ls 0 fun a => nx 42 ls (.ref a :: st) h) Q := G_unf rfl rfl
theorem g223_42 : G d 223 42 ls st h Q ↔ GN d 223 42 ls h (ldR ls 0 fun a => nx 43 ls (.ref a :: st) h) Q := G_unf rfl rfl
theorem g223_43 : G d 223 43 ls st h Q ↔ GN d 223 43 ls h (pR st fun a r => ck (arr h a 9) (nx 46 ls (rv (hR h a 30) :: r) h)) Q := G_unf rfl rfl
theorem g223_46 : G d 223 46 ls st h Q ↔ GN d 223 46 ls h (ldR ls 0 fun a => nx 47 ls (.ref a :: st) h) Q := G_unf rfl rfl
theorem g223_47 : G d 223 47 ls st h Q ↔ GN d 223 47 ls h (pR st fun a r => ck (arr h a 9) (nx 50 ls (.int (hI h a 13) :: r) h)) Q := G_unf rfl rfl
theorem g223_50 : G d 223 50 ls st h Q ↔ GN d 223 50 ls h (pRI st fun a i r => br (a = 1000003) (ck (inb i (hS h).1) (nx 51 ls (.int ((hS h).2 i.toNatClampNeg) :: r) h)) (ck (arr h a 10 ∧ inb i (hLn h a)) (nx 51 ls (.int (hI h a i.toNatClampNeg) :: r) h))) Q := G_unf rfl rfl
theorem g223_51 : G d 223 51 ls st h Q ↔ GN d 223 51 ls h (ldR ls 0 fun a => nx 52 ls (.ref a :: st) h) Q := G_unf rfl rfl
theorem g223_52 : G d 223 52 ls st h Q ↔ GN d 223 52 ls h (pR st fun a r => ck (arr h a 9) (nx 55 ls (rv (hR h a 31) :: r) h)) Q := G_unf rfl rfl
theorem g223_55 : G d 223 55 ls st h Q ↔ GN d 223 55 ls h (ldR ls 0 fun a => nx 56 ls (.ref a :: st) h) Q := G_unf rfl rfl
theorem g223_56 : G d 223 56 ls st h Q ↔ GN d 223 56 ls h (pR st fun a r => ck (arr h a 9) (nx 59 ls (.int (hI h a 13) :: r) h)) Q := G_unf rfl rfl
theorem g223_59 : G d 223 59 ls st h Q ↔ GN d 223 59 ls h (pRI st fun a i r => br (a = 1000003) (ck (inb i (hS h).1) (nx 60 ls (.int ((hS h).2 i.toNatClampNeg) :: r) h)) (ck (arr h a 10 ∧ inb i (hLn h a)) (nx 60 ls (.int (hI h a i.toNatClampNeg) :: r) h))) Q := G_unf rfl rfl
theorem g223_60 : G d 223 60 ls st h Q ↔ GN d 223 60 ls h (pA 2 st fun as r => pR r fun a r => ck (r.length ≤ 4 ∧ arr h a 9) (cll 222 (.ref a :: as) r)) Q := G_unf rfl rfl
theorem g223_63 : G d 223 63 ls st h Q ↔ GN d 223 63 ls h (pJ st fun x r => ck (6 < ls.length) (nx 65 (st2 ls 5 (.long x)) r h)) Q := G_unf rfl rfl
theorem g223_65 : G d 223 65 ls st h Q ↔ GN d 223 65 ls h (ldJ ls 5 fun x => nx 67 ls (.long x :: st) h) Q := G_unf rfl rfl
theorem g223_67 : G d 223 67 ls st h Q ↔ GN d 223 67 ls h (nx 68 ls (.long (lN 0) :: st) h) Q := G_unf rfl rfl
theorem g223_68 : G d 223 68 ls st h Q ↔ GN d 223 68 ls h (pJJ st fun x y r => nx 69 ls (.int (lg_cmp x y) :: r) h) Q := G_unf rfl rfl
theorem g223_69 : G d 223 69 ls st h Q ↔ GN d 223 69 ls h (pI st fun x r => br (0 ≤ x) (nx 76 ls r h) (nx 72 ls r h)) Q := G_unf rfl rfl
theorem g223_72 : G d 223 72 ls st h Q ↔ GN d 223 72 ls h (nx 73 ls (.int (nI 0) :: st) h) Q := G_unf rfl rfl
theorem g223_73 : G d 223 73 ls st h Q ↔ GN d 223 73 ls h (nx 94 ls st h) Q := G_unf rfl rfl
theorem g223_76 : G d 223 76 ls st h Q ↔ GN d 223 76 ls h (ldJ ls 5 fun x => nx 78 ls (.long x :: st) h) Q := G_unf rfl rfl
theorem g223_78 : G d 223 78 ls st h Q ↔ GN d 223 78 ls h (nx 81 ls (.long (lN 999) :: st) h) Q := G_unf rfl rfl
theorem g223_81 : G d 223 81 ls st h Q ↔ GN d 223 81 ls h (pJJ st fun x y r => nx 82 ls (.int (lg_cmp x y) :: r) h) Q := G_unf rfl rfl
theorem g223_82 : G d 223 82 ls st h Q ↔ GN d 223 82 ls h (pI st fun x r => br (x ≤ 0) (nx 91 ls r h) (nx 85 ls r h)) Q := G_unf rfl rfl
theorem g223_85 : G d 223 85 ls st h Q ↔ GN d 223 85 ls h (nx 88 ls (.int (nI 999) :: st) h) Q := G_unf rfl rfl
theorem g223_88 : G d 223 88 ls st h Q ↔ GN d 223 88 ls h (nx 94 ls st h) Q := G_unf rfl rfl
theorem g223_91 : G d 223 91 ls st h Q ↔ GN d 223 91 ls h (ldJ ls 5 fun x => nx 93 ls (.long x :: st) h) Q := G_unf rfl rfl
theorem g223_93 : G d 223 93 ls st h Q ↔ GN d 223 93 ls h (pJ st fun x r => nx 94 ls (.int x.toInt32 :: r) h) Q := G_unf rfl rfl
theorem g223_94 : G d 223 94 ls st h Q ↔ GN d 223 94 ls h (pIe st fun x => rtn (some (.int x))) Q := G_unf rfl rfl
theorem g224_0 : G d 224 0 ls st h Q ↔ GN d 224 0 ls h (ldR ls 0 fun a => nx 1 ls (.ref a :: st) h) Q := G_unf rfl rfl
theorem g224_1 : G d 224 1 ls st h Q ↔ GN d 224 1 ls h (pR st fun a r => ck (arr h a 9) (nx 4 ls (rv (hR h a 32) :: r) h)) Q := G_unf rfl rfl
theorem g224_4 : G d 224 4 ls st h Q ↔ GN d 224 4 ls h (ldR ls 0 fun a => nx 5 ls (.ref a :: st) h) Q := G_unf rfl rfl
theorem g224_5 : G d 224 5 ls st h Q ↔ GN d 224 5 ls h (pR st fun a r => ck (arr h a 9) (nx 8 ls (.int (hI h a 13) :: r) h)) Q := G_unf rfl rfl
theorem g224_8 : G d 224 8 ls st h Q ↔ GN d 224 8 ls h (pRI st fun a i r => br (a = 1000003) (ck (inb i (hS h).1) (nx 9 ls (.int ((hS h).2 i.toNatClampNeg) :: r) h)) (ck (arr h a 10 ∧ inb i (hLn h a)) (nx 9 ls (.int (hI h a i.toNatClampNeg) :: r) h))) Q := G_unf rfl rfl
theorem g224_9 : G d 224 9 ls st h Q ↔ GN d 224 9 ls h (nx 10 ls (.int (-1) :: st) h) Q := G_unf rfl rfl
theorem g224_10 : G d 224 10 ls st h Q ↔ GN d 224 10 ls h (pII st fun x y r => br (¬ x = y) (nx 15 ls r h) (nx 13 ls r h)) Q := G_unf rfl rfl
theorem g224_13 : G d 224 13 ls st h Q ↔ GN d 224 13 ls h (nx 14 ls (.int (nI 1) :: st) h) Q := G_unf rfl rfl
theorem g224_14 : G d 224 14 ls st h Q ↔ GN d 224 14 ls h (pIe st fun x => ck (x = 0 ∨ x = 1) (rtn (some (.int x)))) Q := G_unf rfl rfl
theorem g224_15 : G d 224 15 ls st h Q ↔ GN d 224 15 ls h (ldR ls 0 fun a => nx 16 ls (.ref a :: st) h) Q := G_unf rfl rfl
theorem g224_16 : G d 224 16 ls st h Q ↔ GN d 224 16 ls h (ldI ls 1 fun x => nx 17 ls (.int x :: st) h) Q := G_unf rfl rfl
theorem g224_17 : G d 224 17 ls st h Q ↔ GN d 224 17 ls h (pRI st fun a x r => ck (arr h a 9) (nx 20 ls r (sI h a 64 x))) Q := G_unf rfl rfl
theorem g224_20 : G d 224 20 ls st h Q ↔ GN d 224 20 ls h (ldR ls 0 fun a => nx 21 ls (.ref a :: st) h) Q := G_unf rfl rfl
theorem g224_21 : G d 224 21 ls st h Q ↔ GN d 224 21 ls h (ldI ls 2 fun x => nx 22 ls (.int x :: st) h) Q := G_unf rfl rfl
theorem g224_22 : G d 224 22 ls st h Q ↔ GN d 224 22 ls h (pRI st fun a x r => ck (arr h a 9) (nx 25 ls r (sI h a 65 x))) Q := G_unf rfl rfl
theorem g224_25 : G d 224 25 ls st h Q ↔ GN d 224 25 ls h (ldR ls 0 fun a => nx 26 ls (.ref a :: st) h) Q := G_unf rfl rfl
theorem g224_26 : G d 224 26 ls st h Q ↔ GN d 224 26 ls h (ldI ls 4 fun x => nx 28 ls (.int x :: st) h) Q := G_unf rfl rfl
theorem g224_28 : G d 224 28 ls st h Q ↔ GN d 224 28 ls h (pRI st fun a x r => ck (arr h a 9) (nx 31 ls r (sI h a 66 x))) Q := G_unf rfl rfl
theorem g224_31 : G d 224 31 ls st h Q ↔ GN d 224 31 ls h (ldR ls 0 fun a => nx 32 ls (.ref a :: st) h) Q := G_unf rfl rfl
theorem g224_32 : G d 224 32 ls st h Q ↔ GN d 224 32 ls h (ldI ls 3 fun x => nx 33 ls (.int x :: st) h) Q := G_unf rfl rfl
theorem g224_33 : G d 224 33 ls st h Q ↔ GN d 224 33 ls h (pRI st fun a x r => ck (arr h a 9) (nx 36 ls r (sI h a 67 x))) Q := G_unf rfl rfl
theorem g224_36 : G d 224 36 ls st h Q ↔ GN d 224 36 ls h (ldR ls 0 fun a => nx 37 ls (.ref a :: st) h) Q := G_unf rfl rfl
theorem g224_37 : G d 224 37 ls st h Q ↔ GN d 224 37 ls h (nx 38 ls (.int (nI 0) :: st) h) Q := G_unf rfl rfl
theorem g224_38 : G d 224 38 ls st h Q ↔ GN d 224 38 ls h (pRI st fun a x r => ck (arr h a 9) (nx 41 ls r (sI h a 68 x))) Q := G_unf rfl rfl
theorem g224_41 : G d 224 41 ls st h Q ↔ GN d 224 41 ls h (ldR ls 0 fun a => nx 42 ls (.ref a :: st) h) Q := G_unf rfl rfl
theorem g224_42 : G d 224 42 ls st h Q ↔ GN d 224 42 ls h (ldR ls 0 fun a => nx 43 ls (.ref a :: st) h) Q := G_unf rfl rfl
theorem g224_43 : G d 224 43 ls st h Q ↔ GN d 224 43 ls h (pR st fun a r => ck (arr h a 9) (nx 46 ls (rv (hR h a 32) :: r) h)) Q := G_unf rfl rfl
theorem g224_46 : G d 224 46 ls st h Q ↔ GN d 224 46 ls h (ldR ls 0 fun a => nx 47 ls (.ref a :: st) h) Q := G_unf rfl rfl
theorem g224_47 : G d 224 47 ls st h Q ↔ GN d 224 47 ls h (pR st fun a r => ck (arr h a 9) (nx 50 ls (.int (hI h a 13) :: r) h)) Q := G_unf rfl rfl
theorem g224_50 : G d 224 50 ls st h Q ↔ GN d 224 50 ls h (pRI st fun a i r => br (a = 1000003) (ck (inb i (hS h).1) (nx 51 ls (.int ((hS h).2 i.toNatClampNeg) :: r) h)) (ck (arr h a 10 ∧ inb i (hLn h a)) (nx 51 ls (.int (hI h a i.toNatClampNeg) :: r) h))) Q := G_unf rfl rfl
theorem g224_51 : G d 224 51 ls st h Q ↔ GN d 224 51 ls h (ldR ls 0 fun a => nx 52 ls (.ref a :: st) h) Q := G_unf rfl rfl
theorem g224_52 : G d 224 52 ls st h Q ↔ GN d 224 52 ls h (pR st fun a r => ck (arr h a 9) (nx 55 ls (rv (hR h a 33) :: r) h)) Q := G_unf rfl rfl
theorem g224_55 : G d 224 55 ls st h Q ↔ GN d 224 55 ls h (ldR ls 0 fun a => nx 56 ls (.ref a :: st) h) Q := G_unf rfl rfl
theorem g224_56 : G d 224 56 ls st h Q ↔ GN d 224 56 ls h (pR st fun a r => ck (arr h a 9) (nx 59 ls (.int (hI h a 13) :: r) h)) Q := G_unf rfl rfl
theorem g224_59 : G d 224 59 ls st h Q ↔ GN d 224 59 ls h (pRI st fun a i r => br (a = 1000003) (ck (inb i (hS h).1) (nx 60 ls (.int ((hS h).2 i.toNatClampNeg) :: r) h)) (ck (arr h a 10 ∧ inb i (hLn h a)) (nx 60 ls (.int (hI h a i.toNatClampNeg) :: r) h))) Q := G_unf rfl rfl
theorem g224_60 : G d 224 60 ls st h Q ↔ GN d 224 60 ls h (pA 2 st fun as r => pR r fun a r => ck (r.length ≤ 4 ∧ arr h a 9) (cll 222 (.ref a :: as) r)) Q := G_unf rfl rfl
theorem g224_63 : G d 224 63 ls st h Q ↔ GN d 224 63 ls h (nx 64 ls (.long (lN 1) :: st) h) Q := G_unf rfl rfl
theorem g224_64 : G d 224 64 ls st h Q ↔ GN d 224 64 ls h (pJJ st fun x y r => nx 65 ls (.int (lg_cmp x y) :: r) h) Q := G_unf rfl rfl
theorem g224_65 : G d 224 65 ls st h Q ↔ GN d 224 65 ls h (pI st fun x r => br (¬ x = 0) (nx 72 ls r h) (nx 68 ls r h)) Q := G_unf rfl rfl
theorem g224_68 : G d 224 68 ls st h Q ↔ GN d 224 68 ls h (nx 69 ls (.int (nI 1) :: st) h) Q := G_unf rfl rfl
theorem g224_69 : G d 224 69 ls st h Q ↔ GN d 224 69 ls h (nx 73 ls st h) Q := G_unf rfl rfl
theorem g224_72 : G d 224 72 ls st h Q ↔ GN d 224 72 ls h (nx 73 ls (.int (nI 0) :: st) h) Q := G_unf rfl rfl
theorem g224_73 : G d 224 73 ls st h Q ↔ GN d 224 73 ls h (pIe st fun x => ck (x = 0 ∨ x = 1) (rtn (some (.int x)))) Q := G_unf rfl rfl
theorem g225_0 : G d 225 0 ls st h Q ↔ GN d 225 0 ls h (ldR ls 0 fun a => nx 1 ls (.ref a :: st) h) Q := G_unf rfl rfl
theorem g225_1 : G d 225 1 ls st h Q ↔ GN d 225 1 ls h (p1 st fun v r => nx 2 ls (v :: v :: r) h) Q := G_unf rfl rfl
theorem g225_2 : G d 225 2 ls st h Q ↔ GN d 225 2 ls h (pR st fun a r => ck (arr h a 9) (nx 5 ls (.int (hI h a 69) :: r) h)) Q := G_unf rfl rfl
theorem g225_5 : G d 225 5 ls st h Q ↔ GN d 225 5 ls h (nx 6 ls (.int (nI 1) :: st) h) Q := G_unf rfl rfl
theorem g225_6 : G d 225 6 ls st h Q ↔ GN d 225 6 ls h (pII st fun x y r => nx 7 ls (.int (x + y) :: r) h) Q := G_unf rfl rfl
theorem g225_7 : G d 225 7 ls st h Q ↔ GN d 225 7 ls h (pRI st fun a x r => ck (arr h a 9) (nx 10 ls r (sI h a 69 x))) Q := G_unf rfl rfl
theorem g225_10 : G d 225 10 ls st h Q ↔ GN d 225 10 ls h (ldR ls 0 fun a => nx 11 ls (.ref a :: st) h) Q := G_unf rfl rfl
theorem g225_11 : G d 225 11 ls st h Q ↔ GN d 225 11 ls h (pR st fun a r => ck (arr h a 9) (nx 14 ls (rv (hR h a 55) :: r) h)) Q := G_unf rfl rfl
theorem g225_14 : G d 225 14 ls st h Q ↔ GN d 225 14 ls h (ldI ls 1 fun x => nx 15 ls (.int x :: st) h) Q := G_unf rfl rfl
theorem g225_15 : G d 225 15 ls st h Q ↔ GN d 225 15 ls h (pRI st fun a i r => br (a = 1000003) (ck (inb i (hS h).1) (nx 16 ls (.int ((hS h).2 i.toNatClampNeg) :: r) h)) (ck (arr h a 10 ∧ inb i (hLn h a)) (nx 16 ls (.int (hI h a i.toNatClampNeg) :: r) h))) Q := G_unf rfl rfl
theorem g225_16 : G d 225 16 ls st h Q ↔ GN d 225 16 ls h (nx 18 ls (.int (nI 40) :: st) h) Q := G_unf rfl rfl
theorem g225_18 : G d 225 18 ls st h Q ↔ GN d 225 18 ls h (pII st fun x y r => br (¬ x = y) (nx 121 ls r h) (nx 21 ls r h)) Q := G_unf rfl rfl
theorem g225_21 : G d 225 21 ls st h Q ↔ GN d 225 21 ls h (nx 23 ls (.int (nI 40) :: st) h) Q := G_unf rfl rfl
theorem g225_23 : G d 225 23 ls st h Q ↔ GN d 225 23 ls h (ldI ls 1 fun x => nx 24 ls (.int x :: st) h) Q := G_unf rfl rfl
theorem g225_24 : G d 225 24 ls st h Q ↔ GN d 225 24 ls h (pII st fun x y r => nx 25 ls (.int (x * y) :: r) h) Q := G_unf rfl rfl
theorem g225_25 : G d 225 25 ls st h Q ↔ GN d 225 25 ls h (pI st fun x r => ck (5 < ls.length) (nx 27 (st1 ls 5 (.int x)) r h)) Q := G_unf rfl rfl
theorem g225_27 : G d 225 27 ls st h Q ↔ GN d 225 27 ls h (ldI ls 5 fun x => nx 29 ls (.int x :: st) h) Q := G_unf rfl rfl
theorem g225_29 : G d 225 29 ls st h Q ↔ GN d 225 29 ls h (nx 31 ls (.int (nI 40) :: st) h) Q := G_unf rfl rfl
theorem g225_31 : G d 225 31 ls st h Q ↔ GN d 225 31 ls h (ldI ls 1 fun x => nx 32 ls (.int x :: st) h) Q := G_unf rfl rfl
theorem g225_32 : G d 225 32 ls st h Q ↔ GN d 225 32 ls h (pII st fun x y r => nx 33 ls (.int (x * y) :: r) h) Q := G_unf rfl rfl
theorem g225_33 : G d 225 33 ls st h Q ↔ GN d 225 33 ls h (nx 35 ls (.int (nI 40) :: st) h) Q := G_unf rfl rfl
theorem g225_35 : G d 225 35 ls st h Q ↔ GN d 225 35 ls h (pII st fun x y r => nx 36 ls (.int (x + y) :: r) h) Q := G_unf rfl rfl
theorem g225_36 : G d 225 36 ls st h Q ↔ GN d 225 36 ls h (nx 37 ls (.int (nI 1) :: st) h) Q := G_unf rfl rfl
theorem g225_37 : G d 225 37 ls st h Q ↔ GN d 225 37 ls h (pII st fun x y r => nx 38 ls (.int (x - y) :: r) h) Q := G_unf rfl rfl
theorem g225_38 : G d 225 38 ls st h Q ↔ GN d 225 38 ls h (pII st fun x y r => br (y ≤ x) (nx 111 ls r h) (nx 41 ls r h)) Q := G_unf rfl rfl
theorem g225_41 : G d 225 41 ls st h Q ↔ GN d 225 41 ls h (ldR ls 0 fun a => nx 42 ls (.ref a :: st) h) Q := G_unf rfl rfl
theorem g225_42 : G d 225 42 ls st h Q ↔ GN d 225 42 ls h (pR st fun a r => ck (arr h a 9) (nx 45 ls (rv (hR h a 56) :: r) h)) Q := G_unf rfl rfl
theorem g225_45 : G d 225 45 ls st h Q ↔ GN d 225 45 ls h (ldI ls 5 fun x => nx 47 ls (.int x :: st) h) Q := G_unf rfl rfl
theorem g225_47 : G d 225 47 ls st h Q ↔ GN d 225 47 ls h (ldR ls 0 fun a => nx 48 ls (.ref a :: st) h) Q := G_unf rfl rfl
theorem g225_48 : G d 225 48 ls st h Q ↔ GN d 225 48 ls h (pR st fun a r => ck (arr h a 9) (nx 51 ls (rv (hR h a 56) :: r) h)) Q := G_unf rfl rfl
theorem g225_51 : G d 225 51 ls st h Q ↔ GN d 225 51 ls h (ldI ls 5 fun x => nx 53 ls (.int x :: st) h) Q := G_unf rfl rfl
theorem g225_53 : G d 225 53 ls st h Q ↔ GN d 225 53 ls h (nx 54 ls (.int (nI 1) :: st) h) Q := G_unf rfl rfl
theorem g225_54 : G d 225 54 ls st h Q ↔ GN d 225 54 ls h (pII st fun x y r => nx 55 ls (.int (x + y) :: r) h) Q := G_unf rfl rfl
theorem g225_55 : G d 225 55 ls st h Q ↔ GN d 225 55 ls h (pRI st fun a i r => br (a = 1000003) (ck (inb i (hS h).1) (nx 56 ls (.int ((hS h).2 i.toNatClampNeg) :: r) h)) (ck (arr h a 10 ∧ inb i (hLn h a)) (nx 56 ls (.int (hI h a i.toNatClampNeg) :: r) h))) Q := G_unf rfl rfl
theorem g225_56 : G d 225 56 ls st h Q ↔ GN d 225 56 ls h (pRII st fun a i x r => ck (arr h a 10 ∧ inb i (hLn h a)) (nx 57 ls r (sI h a i.toNatClampNeg x))) Q := G_unf rfl rfl
theorem g225_57 : G d 225 57 ls st h Q ↔ GN d 225 57 ls h (ldR ls 0 fun a => nx 58 ls (.ref a :: st) h) Q := G_unf rfl rfl
theorem g225_58 : G d 225 58 ls st h Q ↔ GN d 225 58 ls h (pR st fun a r => ck (arr h a 9) (nx 61 ls (rv (hR h a 57) :: r) h)) Q := G_unf rfl rfl
theorem g225_61 : G d 225 61 ls st h Q ↔ GN d 225 61 ls h (ldI ls 5 fun x => nx 63 ls (.int x :: st) h) Q := G_unf rfl rfl
theorem g225_63 : G d 225 63 ls st h Q ↔ GN d 225 63 ls h (ldR ls 0 fun a => nx 64 ls (.ref a :: st) h) Q := G_unf rfl rfl
theorem g225_64 : G d 225 64 ls st h Q ↔ GN d 225 64 ls h (pR st fun a r => ck (arr h a 9) (nx 67 ls (rv (hR h a 57) :: r) h)) Q := G_unf rfl rfl
theorem g225_67 : G d 225 67 ls st h Q ↔ GN d 225 67 ls h (ldI ls 5 fun x => nx 69 ls (.int x :: st) h) Q := G_unf rfl rfl
theorem g225_69 : G d 225 69 ls st h Q ↔ GN d 225 69 ls h (nx 70 ls (.int (nI 1) :: st) h) Q := G_unf rfl rfl
theorem g225_70 : G d 225 70 ls st h Q ↔ GN d 225 70 ls h (pII st fun x y r => nx 71 ls (.int (x + y) :: r) h) Q := G_unf rfl rfl
theorem g225_71 : G d 225 71 ls st h Q ↔ GN d 225 71 ls h (pRI st fun a i r => br (a = 1000003) (ck (inb i (hS h).1) (nx 72 ls (.int ((hS h).2 i.toNatClampNeg) :: r) h)) (ck (arr h a 10 ∧ inb i (hLn h a)) (nx 72 ls (.int (hI h a i.toNatClampNeg) :: r) h))) Q := G_unf rfl rfl
theorem g225_72 : G d 225 72 ls st h Q ↔ GN d 225 72 ls h (pRII st fun a i x r => ck (arr h a 10 ∧ inb i (hLn h a)) (nx 73 ls r (sI h a i.toNatClampNeg x))) Q := G_unf rfl rfl
theorem g225_73 : G d 225 73 ls st h Q ↔ GN d 225 73 ls h (ldR ls 0 fun a => nx 74 ls (.ref a :: st) h) Q := G_unf rfl rfl
theorem g225_74 : G d 225 74 ls st h Q ↔ GN d 225 74 ls h (pR st fun a r => ck (arr h a 9) (nx 77 ls (rv (hR h a 58) :: r) h)) Q := G_unf rfl rfl
theorem g225_77 : G d 225 77 ls st h Q ↔ GN d 225 77 ls h (ldI ls 5 fun x => nx 79 ls (.int x :: st) h) Q := G_unf rfl rfl
theorem g225_79 : G d 225 79 ls st h Q ↔ GN d 225 79 ls h (ldR ls 0 fun a => nx 80 ls (.ref a :: st) h) Q := G_unf rfl rfl
theorem g225_80 : G d 225 80 ls st h Q ↔ GN d 225 80 ls h (pR st fun a r => ck (arr h a 9) (nx 83 ls (rv (hR h a 58) :: r) h)) Q := G_unf rfl rfl
theorem g225_83 : G d 225 83 ls st h Q ↔ GN d 225 83 ls h (ldI ls 5 fun x => nx 85 ls (.int x :: st) h) Q := G_unf rfl rfl
theorem g225_85 : G d 225 85 ls st h Q ↔ GN d 225 85 ls h (nx 86 ls (.int (nI 1) :: st) h) Q := G_unf rfl rfl
theorem g225_86 : G d 225 86 ls st h Q ↔ GN d 225 86 ls h (pII st fun x y r => nx 87 ls (.int (x + y) :: r) h) Q := G_unf rfl rfl
theorem g225_87 : G d 225 87 ls st h Q ↔ GN d 225 87 ls h (pRI st fun a i r => br (a = 1000003) (ck (inb i (hS h).1) (nx 88 ls (.int ((hS h).2 i.toNatClampNeg) :: r) h)) (ck (arr h a 10 ∧ inb i (hLn h a)) (nx 88 ls (.int (hI h a i.toNatClampNeg) :: r) h))) Q := G_unf rfl rfl
theorem g225_88 : G d 225 88 ls st h Q ↔ GN d 225 88 ls h (pRII st fun a i x r => ck (arr h a 10 ∧ inb i (hLn h a)) (nx 89 ls r (sI h a i.toNatClampNeg x))) Q := G_unf rfl rfl
theorem g225_89 : G d 225 89 ls st h Q ↔ GN d 225 89 ls h (ldR ls 0 fun a => nx 90 ls (.ref a :: st) h) Q := G_unf rfl rfl
theorem g225_90 : G d 225 90 ls st h Q ↔ GN d 225 90 ls h (pR st fun a r => ck (arr h a 9) (nx 93 ls (rv (hR h a 59) :: r) h)) Q := G_unf rfl rfl
theorem g225_93 : G d 225 93 ls st h Q ↔ GN d 225 93 ls h (ldI ls 5 fun x => nx 95 ls (.int x :: st) h) Q := G_unf rfl rfl
theorem g225_95 : G d 225 95 ls st h Q ↔ GN d 225 95 ls h (ldR ls 0 fun a => nx 96 ls (.ref a :: st) h) Q := G_unf rfl rfl
theorem g225_96 : G d 225 96 ls st h Q ↔ GN d 225 96 ls h (pR st fun a r => ck (arr h a 9) (nx 99 ls (rv (hR h a 59) :: r) h)) Q := G_unf rfl rfl
theorem g225_99 : G d 225 99 ls st h Q ↔ GN d 225 99 ls h (ldI ls 5 fun x => nx 101 ls (.int x :: st) h) Q := G_unf rfl rfl
theorem g225_101 : G d 225 101 ls st h Q ↔ GN d 225 101 ls h (nx 102 ls (.int (nI 1) :: st) h) Q := G_unf rfl rfl
theorem g225_102 : G d 225 102 ls st h Q ↔ GN d 225 102 ls h (pII st fun x y r => nx 103 ls (.int (x + y) :: r) h) Q := G_unf rfl rfl
theorem g225_103 : G d 225 103 ls st h Q ↔ GN d 225 103 ls h (pRI st fun a i r => br (a = 1000003) (ck (inb i (hS h).1) (nx 104 ls (.int ((hS h).2 i.toNatClampNeg) :: r) h)) (ck (arr h a 10 ∧ inb i (hLn h a)) (nx 104 ls (.int (hI h a i.toNatClampNeg) :: r) h))) Q := G_unf rfl rfl
theorem g225_104 : G d 225 104 ls st h Q ↔ GN d 225 104 ls h (pRII st fun a i x r => ck (arr h a 10 ∧ inb i (hLn h a)) (nx 105 ls r (sI h a i.toNatClampNeg x))) Q := G_unf rfl rfl
theorem g225_105 : G d 225 105 ls st h Q ↔ GN d 225 105 ls h (ldI ls 5 fun x => nx 108 (st1 ls 5 (.int (x + (nI 1)))) st h) Q := G_unf rfl rfl
theorem g225_108 : G d 225 108 ls st h Q ↔ GN d 225 108 ls h (nx 27 ls st h) Q := G_unf rfl rfl
theorem g225_111 : G d 225 111 ls st h Q ↔ GN d 225 111 ls h (ldR ls 0 fun a => nx 112 ls (.ref a :: st) h) Q := G_unf rfl rfl
theorem g225_112 : G d 225 112 ls st h Q ↔ GN d 225 112 ls h (pR st fun a r => ck (arr h a 9) (nx 115 ls (rv (hR h a 55) :: r) h)) Q := G_unf rfl rfl
theorem g225_115 : G d 225 115 ls st h Q ↔ GN d 225 115 ls h (ldI ls 1 fun x => nx 116 ls (.int x :: st) h) Q := G_unf rfl rfl
theorem g225_116 : G d 225 116 ls st h Q ↔ GN d 225 116 ls h (p11 st fun v w r => nx 117 ls (v :: w :: v :: w :: r) h) Q := G_unf rfl rfl
theorem g225_117 : G d 225 117 ls st h Q ↔ GN d 225 117 ls h (pRI st fun a i r => br (a = 1000003) (ck (inb i (hS h).1) (nx 118 ls (.int ((hS h).2 i.toNatClampNeg) :: r) h)) (ck (arr h a 10 ∧ inb i (hLn h a)) (nx 118 ls (.int (hI h a i.toNatClampNeg) :: r) h))) Q := G_unf rfl rfl
theorem g225_118 : G d 225 118 ls st h Q ↔ GN d 225 118 ls h (nx 119 ls (.int (nI 1) :: st) h) Q := G_unf rfl rfl
theorem g225_119 : G d 225 119 ls st h Q ↔ GN d 225 119 ls h (pII st fun x y r => nx 120 ls (.int (x - y) :: r) h) Q := G_unf rfl rfl
theorem g225_120 : G d 225 120 ls st h Q ↔ GN d 225 120 ls h (pRII st fun a i x r => ck (arr h a 10 ∧ inb i (hLn h a)) (nx 121 ls r (sI h a i.toNatClampNeg x))) Q := G_unf rfl rfl
theorem g225_121 : G d 225 121 ls st h Q ↔ GN d 225 121 ls h (nx 123 ls (.int (nI 40) :: st) h) Q := G_unf rfl rfl
theorem g225_123 : G d 225 123 ls st h Q ↔ GN d 225 123 ls h (ldI ls 1 fun x => nx 124 ls (.int x :: st) h) Q := G_unf rfl rfl
theorem g225_124 : G d 225 124 ls st h Q ↔ GN d 225 124 ls h (pII st fun x y r => nx 125 ls (.int (x * y) :: r) h) Q := G_unf rfl rfl
theorem g225_125 : G d 225 125 ls st h Q ↔ GN d 225 125 ls h (ldR ls 0 fun a => nx 126 ls (.ref a :: st) h) Q := G_unf rfl rfl
theorem g225_126 : G d 225 126 ls st h Q ↔ GN d 225 126 ls h (pR st fun a r => ck (arr h a 9) (nx 129 ls (rv (hR h a 55) :: r) h)) Q := G_unf rfl rfl
theorem g225_129 : G d 225 129 ls st h Q ↔ GN d 225 129 ls h (ldI ls 1 fun x => nx 130 ls (.int x :: st) h) Q := G_unf rfl rfl
set_option maxRecDepth 100000 in
theorem g225_130 : G d 225 130 ls st h Q ↔ GN d 225 130 ls h (pRI st fun a i r => br (a = 1000003) (ck (inb i (hS h).1) (nx 131 ls (.int ((hS h).2 i.toNatClampNeg) :: r) h)) (ck (arr h a 10 ∧ inb i (hLn h a)) (nx 131 ls (.int (hI h a i.toNatClampNeg) :: r) h))) Q := G_unf rfl rfl
set_option maxRecDepth 100000 in
theorem g225_131 : G d 225 131 ls st h Q ↔ GN d 225 131 ls h (pII st fun x y r => nx 132 ls (.int (x + y) :: r) h) Q := G_unf rfl rfl
set_option maxRecDepth 100000 in
theorem g225_132 : G d 225 132 ls st h Q ↔ GN d 225 132 ls h (pI st fun x r => ck (5 < ls.length) (nx 134 (st1 ls 5 (.int x)) r h)) Q := G_unf rfl rfl
set_option maxRecDepth 100000 in
theorem g225_134 : G d 225 134 ls st h Q ↔ GN d 225 134 ls h (ldR ls 0 fun a => nx 135 ls (.ref a :: st) h) Q := G_unf rfl rfl
set_option maxRecDepth 100000 in
theorem g225_135 : G d 225 135 ls st h Q ↔ GN d 225 135 ls h (pR st fun a r => ck (arr h a 9) (nx 138 ls (rv (hR h a 56) :: r) h)) Q := G_unf rfl rfl
set_option maxRecDepth 100000 in
theorem g225_138 : G d 225 138 ls st h Q ↔ GN d 225 138 ls h (ldI ls 5 fun x => nx 140 ls (.int x :: st) h) Q := G_unf rfl rfl
set_option maxRecDepth 100000 in
theorem g225_140 : G d 225 140 ls st h Q ↔ GN d 225 140 ls h (ldR ls 0 fun a => nx 141 ls (.ref a :: st) h) Q := G_unf rfl rfl
set_option maxRecDepth 100000 in
theorem g225_141 : G d 225 141 ls st h Q ↔ GN d 225 141 ls h (pR st fun a r => ck (arr h a 9) (nx 144 ls (rv (hR h a 51) :: r) h)) Q := G_unf rfl rfl
set_option maxRecDepth 100000 in
theorem g225_144 : G d 225 144 ls st h Q ↔ GN d 225 144 ls h (ldI ls 1 fun x => nx 145 ls (.int x :: st) h) Q := G_unf rfl rfl
set_option maxRecDepth 100000 in
theorem g225_145 : G d 225 145 ls st h Q ↔ GN d 225 145 ls h (pRI st fun a i r => br (a = 1000003) (ck (inb i (hS h).1) (nx 146 ls (.int ((hS h).2 i.toNatClampNeg) :: r) h)) (ck (arr h a 10 ∧ inb i (hLn h a)) (nx 146 ls (.int (hI h a i.toNatClampNeg) :: r) h))) Q := G_unf rfl rfl
set_option maxRecDepth 100000 in
theorem g225_146 : G d 225 146 ls st h Q ↔ GN d 225 146 ls h (pRII st fun a i x r => ck (arr h a 10 ∧ inb i (hLn h a)) (nx 147 ls r (sI h a i.toNatClampNeg x))) Q := G_unf rfl rfl
set_option maxRecDepth 100000 in
theorem g225_147 : G d 225 147 ls st h Q ↔ GN d 225 147 ls h (ldR ls 0 fun a => nx 148 ls (.ref a :: st) h) Q := G_unf rfl rfl
set_option maxRecDepth 100000 in
theorem g225_148 : G d 225 148 ls st h Q ↔ GN d 225 148 ls h (pR st fun a r => ck (arr h a 9) (nx 151 ls (rv (hR h a 57) :: r) h)) Q := G_unf rfl rfl
set_option maxRecDepth 100000 in
theorem g225_151 : G d 225 151 ls st h Q ↔ GN d 225 151 ls h (ldI ls 5 fun x => nx 153 ls (.int x :: st) h) Q := G_unf rfl rfl
set_option maxRecDepth 100000 in
theorem g225_153 : G d 225 153 ls st h Q ↔ GN d 225 153 ls h (ldI ls 2 fun x => nx 154 ls (.int x :: st) h) Q := G_unf rfl rfl
set_option maxRecDepth 100000 in
theorem g225_154 : G d 225 154 ls st h Q ↔ GN d 225 154 ls h (pRII st fun a i x r => ck (arr h a 10 ∧ inb i (hLn h a)) (nx 155 ls r (sI h a i.toNatClampNeg x))) Q := G_unf rfl rfl
set_option maxRecDepth 100000 in
theorem g225_155 : G d 225 155 ls st h Q ↔ GN d 225 155 ls h (ldR ls 0 fun a => nx 156 ls (.ref a :: st) h) Q := G_unf rfl rfl
set_option maxRecDepth 100000 in
theorem g225_156 : G d 225 156 ls st h Q ↔ GN d 225 156 ls h (pR st fun a r => ck (arr h a 9) (nx 159 ls (rv (hR h a 58) :: r) h)) Q := G_unf rfl rfl
set_option maxRecDepth 100000 in
theorem g225_159 : G d 225 159 ls st h Q ↔ GN d 225 159 ls h (ldI ls 5 fun x => nx 161 ls (.int x :: st) h) Q := G_unf rfl rfl
set_option maxRecDepth 100000 in
theorem g225_161 : G d 225 161 ls st h Q ↔ GN d 225 161 ls h (ldI ls 3 fun x => nx 162 ls (.int x :: st) h) Q := G_unf rfl rfl
set_option maxRecDepth 100000 in
theorem g225_162 : G d 225 162 ls st h Q ↔ GN d 225 162 ls h (pRII st fun a i x r => ck (arr h a 10 ∧ inb i (hLn h a)) (nx 163 ls r (sI h a i.toNatClampNeg x))) Q := G_unf rfl rfl
set_option maxRecDepth 100000 in
theorem g225_163 : G d 225 163 ls st h Q ↔ GN d 225 163 ls h (ldR ls 0 fun a => nx 164 ls (.ref a :: st) h) Q := G_unf rfl rfl
set_option maxRecDepth 100000 in
theorem g225_164 : G d 225 164 ls st h Q ↔ GN d 225 164 ls h (pR st fun a r => ck (arr h a 9) (nx 167 ls (rv (hR h a 59) :: r) h)) Q := G_unf rfl rfl
set_option maxRecDepth 100000 in
theorem g225_167 : G d 225 167 ls st h Q ↔ GN d 225 167 ls h (ldI ls 5 fun x => nx 169 ls (.int x :: st) h) Q := G_unf rfl rfl
set_option maxRecDepth 100000 in
theorem g225_169 : G d 225 169 ls st h Q ↔ GN d 225 169 ls h (ldI ls 4 fun x => nx 171 ls (.int x :: st) h) Q := G_unf rfl rfl
set_option maxRecDepth 100000 in
theorem g225_171 : G d 225 171 ls st h Q ↔ GN d 225 171 ls h (pRII st fun a i x r => ck (arr h a 10 ∧ inb i (hLn h a)) (nx 172 ls r (sI h a i.toNatClampNeg x))) Q := G_unf rfl rfl
set_option maxRecDepth 100000 in
theorem g225_172 : G d 225 172 ls st h Q ↔ GN d 225 172 ls h (ldR ls 0 fun a => nx 173 ls (.ref a :: st) h) Q := G_unf rfl rfl
set_option maxRecDepth 100000 in
theorem g225_173 : G d 225 173 ls st h Q ↔ GN d 225 173 ls h (pR st fun a r => ck (arr h a 9) (nx 176 ls (rv (hR h a 55) :: r) h)) Q := G_unf rfl rfl
set_option maxRecDepth 100000 in
theorem g225_176 : G d 225 176 ls st h Q ↔ GN d 225 176 ls h (ldI ls 1 fun x => nx 177 ls (.int x :: st) h) Q := G_unf rfl rfl
set_option maxRecDepth 100000 in
theorem g225_177 : G d 225 177 ls st h Q ↔ GN d 225 177 ls h (p11 st fun v w r => nx 178 ls (v :: w :: v :: w :: r) h) Q := G_unf rfl rfl
set_option maxRecDepth 100000 in
theorem g225_178 : G d 225 178 ls st h Q ↔ GN d 225 178 ls h (pRI st fun a i r => br (a = 1000003) (ck (inb i (hS h).1) (nx 179 ls (.int ((hS h).2 i.toNatClampNeg) :: r) h)) (ck (arr h a 10 ∧ inb i (hLn h a)) (nx 179 ls (.int (hI h a i.toNatClampNeg) :: r) h))) Q := G_unf rfl rfl
set_option maxRecDepth 100000 in
theorem g225_179 : G d 225 179 ls st h Q ↔ GN d 225 179 ls h (nx 180 ls (.int (nI 1) :: st) h) Q := G_unf rfl rfl
set_option maxRecDepth 100000 in
theorem g225_180 : G d 225 180 ls st h Q ↔ GN d 225 180 ls h (pII st fun x y r => nx 181 ls (.int (x + y) :: r) h) Q := G_unf rfl rfl
set_option maxRecDepth 100000 in
theorem g225_181 : G d 225 181 ls st h Q ↔ GN d 225 181 ls h (pRII st fun a i x r => ck (arr h a 10 ∧ inb i (hLn h a)) (nx 182 ls r (sI h a i.toNatClampNeg x))) Q := G_unf rfl rfl
set_option maxRecDepth 100000 in
theorem g225_182 : G d 225 182 ls st h Q ↔ GN d 225 182 ls h (ldR ls 0 fun a => nx 183 ls (.ref a :: st) h) Q := G_unf rfl rfl
set_option maxRecDepth 100000 in
theorem g225_183 : G d 225 183 ls st h Q ↔ GN d 225 183 ls h (pR st fun a r => ck (arr h a 9) (nx 186 ls (.int (hI h a 69) :: r) h)) Q := G_unf rfl rfl
set_option maxRecDepth 100000 in
theorem g225_186 : G d 225 186 ls st h Q ↔ GN d 225 186 ls h (nx 187 ls (.int (nI 1) :: st) h) Q := G_unf rfl rfl
set_option maxRecDepth 100000 in
theorem g225_187 : G d 225 187 ls st h Q ↔ GN d 225 187 ls h (pII st fun x y r => br (x ≤ y) (nx 191 ls r h) (nx 190 ls r h)) Q := G_unf rfl rfl
set_option maxRecDepth 100000 in
theorem g225_190 : G d 225 190 ls st h Q ↔ GN d 225 190 ls h (pE st (rtn none)) Q := G_unf rfl rfl
set_option maxRecDepth 100000 in
theorem g225_191 : G d 225 191 ls st h Q ↔ GN d 225 191 ls h (ldR ls 0 fun a => nx 192 ls (.ref a :: st) h) Q := G_unf rfl rfl
set_option maxRecDepth 100000 in
theorem g225_192 : G d 225 192 ls st h Q ↔ GN d 225 192 ls h (ldR ls 0 fun a => nx 193 ls (.ref a :: st) h) Q := G_unf rfl rfl
set_option maxRecDepth 100000 in
theorem g225_193 : G d 225 193 ls st h Q ↔ GN d 225 193 ls h (pR st fun a r => ck (arr h a 9) (nx 196 ls (rv (hR h a 51) :: r) h)) Q := G_unf rfl rfl
set_option maxRecDepth 100000 in
theorem g225_196 : G d 225 196 ls st h Q ↔ GN d 225 196 ls h (ldI ls 1 fun x => nx 197 ls (.int x :: st) h) Q := G_unf rfl rfl
set_option maxRecDepth 100000 in
theorem g225_197 : G d 225 197 ls st h Q ↔ GN d 225 197 ls h (pRI st fun a i r => br (a = 1000003) (ck (inb i (hS h).1) (nx 198 ls (.int ((hS h).2 i.toNatClampNeg) :: r) h)) (ck (arr h a 10 ∧ inb i (hLn h a)) (nx 198 ls (.int (hI h a i.toNatClampNeg) :: r) h))) Q := G_unf rfl rfl
set_option maxRecDepth 100000 in
theorem g225_198 : G d 225 198 ls st h Q ↔ GN d 225 198 ls h (pRI st fun a x r => ck (arr h a 9) (nx 201 ls r (sI h a 70 x))) Q := G_unf rfl rfl
set_option maxRecDepth 100000 in
theorem g225_201 : G d 225 201 ls st h Q ↔ GN d 225 201 ls h (ldR ls 0 fun a => nx 202 ls (.ref a :: st) h) Q := G_unf rfl rfl
set_option maxRecDepth 100000 in
theorem g225_202 : G d 225 202 ls st h Q ↔ GN d 225 202 ls h (ldI ls 2 fun x => nx 203 ls (.int x :: st) h) Q := G_unf rfl rfl
set_option maxRecDepth 100000 in
theorem g225_203 : G d 225 203 ls st h Q ↔ GN d 225 203 ls h (pRI st fun a x r => ck (arr h a 9) (nx 206 ls r (sI h a 71 x))) Q := G_unf rfl rfl
set_option maxRecDepth 100000 in
theorem g225_206 : G d 225 206 ls st h Q ↔ GN d 225 206 ls h (ldR ls 0 fun a => nx 207 ls (.ref a :: st) h) Q := G_unf rfl rfl
set_option maxRecDepth 100000 in
theorem g225_207 : G d 225 207 ls st h Q ↔ GN d 225 207 ls h (ldI ls 3 fun x => nx 208 ls (.int x :: st) h) Q := G_unf rfl rfl
set_option maxRecDepth 100000 in
theorem g225_208 : G d 225 208 ls st h Q ↔ GN d 225 208 ls h (pRI st fun a x r => ck (arr h a 9) (nx 211 ls r (sI h a 72 x))) Q := G_unf rfl rfl
set_option maxRecDepth 100000 in
theorem g225_211 : G d 225 211 ls st h Q ↔ GN d 225 211 ls h (ldR ls 0 fun a => nx 212 ls (.ref a :: st) h) Q := G_unf rfl rfl
set_option maxRecDepth 100000 in
theorem g225_212 : G d 225 212 ls st h Q ↔ GN d 225 212 ls h (ldI ls 4 fun x => nx 214 ls (.int x :: st) h) Q := G_unf rfl rfl
set_option maxRecDepth 100000 in
theorem g225_214 : G d 225 214 ls st h Q ↔ GN d 225 214 ls h (pRI st fun a x r => ck (arr h a 9) (nx 217 ls r (sI h a 73 x))) Q := G_unf rfl rfl
set_option maxRecDepth 100000 in
theorem g225_217 : G d 225 217 ls st h Q ↔ GN d 225 217 ls h (pE st (rtn none)) Q := G_unf rfl rfl
theorem g226_0 : G d 226 0 ls st h Q ↔ GN d 226 0 ls h (ldI ls 2 fun x => nx 1 ls (.int x :: st) h) Q := G_unf rfl rfl
theorem g226_1 : G d 226 1 ls st h Q ↔ GN d 226 1 ls h (ldR ls 0 fun a => nx 2 ls (.ref a :: st) h) Q := G_unf rfl rfl
theorem g226_2 : G d 226 2 ls st h Q ↔ GN d 226 2 ls h (pR st fun a r => ck (arr h a 9) (nx 5 ls (rv (hR h a 18) :: r) h)) Q := G_unf rfl rfl
theorem g226_5 : G d 226 5 ls st h Q ↔ GN d 226 5 ls h (nx 7 ls (.int (nI 16) :: st) h) Q := G_unf rfl rfl
theorem g226_7 : G d 226 7 ls st h Q ↔ GN d 226 7 ls h (ldR ls 0 fun a => nx 8 ls (.ref a :: st) h) Q := G_unf rfl rfl
theorem g226_8 : G d 226 8 ls st h Q ↔ GN d 226 8 ls h (pR st fun a r => ck (arr h a 9) (nx 11 ls (.int (hI h a 13) :: r) h)) Q := G_unf rfl rfl
theorem g226_11 : G d 226 11 ls st h Q ↔ GN d 226 11 ls h (pII st fun x y r => nx 12 ls (.int (x * y) :: r) h) Q := G_unf rfl rfl
theorem g226_12 : G d 226 12 ls st h Q ↔ GN d 226 12 ls h (ldI ls 1 fun x => nx 13 ls (.int x :: st) h) Q := G_unf rfl rfl
theorem g226_13 : G d 226 13 ls st h Q ↔ GN d 226 13 ls h (pII st fun x y r => nx 14 ls (.int (x + y) :: r) h) Q := G_unf rfl rfl
theorem g226_14 : G d 226 14 ls st h Q ↔ GN d 226 14 ls h (pRI st fun a i r => br (a = 1000003) (ck (inb i (hS h).1) (nx 15 ls (.int ((hS h).2 i.toNatClampNeg) :: r) h)) (ck (arr h a 10 ∧ inb i (hLn h a)) (nx 15 ls (.int (hI h a i.toNatClampNeg) :: r) h))) Q := G_unf rfl rfl
theorem g226_15 : G d 226 15 ls st h Q ↔ GN d 226 15 ls h (pA 2 st fun as r => ck (r.length ≤ 4) (cll 205 as r)) Q := G_unf rfl rfl
theorem g226_18 : G d 226 18 ls st h Q ↔ GN d 226 18 ls h (pI st fun x r => br (¬ x = 0) (nx 46 ls r h) (nx 21 ls r h)) Q := G_unf rfl rfl
theorem g226_21 : G d 226 21 ls st h Q ↔ GN d 226 21 ls h (ldR ls 0 fun a => nx 22 ls (.ref a :: st) h) Q := G_unf rfl rfl
theorem g226_22 : G d 226 22 ls st h Q ↔ GN d 226 22 ls h (pR st fun a r => ck (arr h a 9) (nx 25 ls (rv (hR h a 19) :: r) h)) Q := G_unf rfl rfl
theorem g226_25 : G d 226 25 ls st h Q ↔ GN d 226 25 ls h (nx 27 ls (.int (nI 16) :: st) h) Q := G_unf rfl rfl
theorem g226_27 : G d 226 27 ls st h Q ↔ GN d 226 27 ls h (ldR ls 0 fun a => nx 28 ls (.ref a :: st) h) Q := G_unf rfl rfl
theorem g226_28 : G d 226 28 ls st h Q ↔ GN d 226 28 ls h (pR st fun a r => ck (arr h a 9) (nx 31 ls (.int (hI h a 13) :: r) h)) Q := G_unf rfl rfl
theorem g226_31 : G d 226 31 ls st h Q ↔ GN d 226 31 ls h (pII st fun x y r => nx 32 ls (.int (x * y) :: r) h) Q := G_unf rfl rfl
theorem g226_32 : G d 226 32 ls st h Q ↔ GN d 226 32 ls h (ldI ls 1 fun x => nx 33 ls (.int x :: st) h) Q := G_unf rfl rfl
theorem g226_33 : G d 226 33 ls st h Q ↔ GN d 226 33 ls h (pII st fun x y r => nx 34 ls (.int (x + y) :: r) h) Q := G_unf rfl rfl
theorem g226_34 : G d 226 34 ls st h Q ↔ GN d 226 34 ls h (pRI st fun a i r => br (a = 1000003) (ck (inb i (hS h).1) (nx 35 ls (.int ((hS h).2 i.toNatClampNeg) :: r) h)) (ck (arr h a 10 ∧ inb i (hLn h a)) (nx 35 ls (.int (hI h a i.toNatClampNeg) :: r) h))) Q := G_unf rfl rfl
theorem g226_35 : G d 226 35 ls st h Q ↔ GN d 226 35 ls h (ldI ls 2 fun x => nx 36 ls (.int x :: st) h) Q := G_unf rfl rfl
theorem g226_36 : G d 226 36 ls st h Q ↔ GN d 226 36 ls h (nx 37 ls (.int (-1) :: st) h) Q := G_unf rfl rfl
theorem g226_37 : G d 226 37 ls st h Q ↔ GN d 226 37 ls h (pII st fun x y r => nx 38 ls (.int (x ^^^ y) :: r) h) Q := G_unf rfl rfl
theorem g226_38 : G d 226 38 ls st h Q ↔ GN d 226 38 ls h (pII st fun x y r => nx 39 ls (.int (x &&& y) :: r) h) Q := G_unf rfl rfl
theorem g226_39 : G d 226 39 ls st h Q ↔ GN d 226 39 ls h (pI st fun x r => br (¬ x = 0) (nx 46 ls r h) (nx 42 ls r h)) Q := G_unf rfl rfl
theorem g226_42 : G d 226 42 ls st h Q ↔ GN d 226 42 ls h (nx 43 ls (.int (nI 1) :: st) h) Q := G_unf rfl rfl
theorem g226_43 : G d 226 43 ls st h Q ↔ GN d 226 43 ls h (nx 47 ls st h) Q := G_unf rfl rfl
theorem g226_46 : G d 226 46 ls st h Q ↔ GN d 226 46 ls h (nx 47 ls (.int (nI 0) :: st) h) Q := G_unf rfl rfl
theorem g226_47 : G d 226 47 ls st h Q ↔ GN d 226 47 ls h (pIe st fun x => ck (x = 0 ∨ x = 1) (rtn (some (.int x)))) Q := G_unf rfl rfl
theorem g227_0 : G d 227 0 ls st h Q ↔ GN d 227 0 ls h (nx 2 ls (.int (nI 8) :: st) h) Q := G_unf rfl rfl
theorem g227_2 : G d 227 2 ls st h Q ↔ GN d 227 2 ls h (ldI ls 1 fun x => nx 3 ls (.int x :: st) h) Q := G_unf rfl rfl
theorem g227_3 : G d 227 3 ls st h Q ↔ GN d 227 3 ls h (pII st fun x y r => nx 4 ls (.int (x * y) :: r) h) Q := G_unf rfl rfl
theorem g227_4 : G d 227 4 ls st h Q ↔ GN d 227 4 ls h (ldI ls 2 fun x => nx 5 ls (.int x :: st) h) Q := G_unf rfl rfl
theorem g227_5 : G d 227 5 ls st h Q ↔ GN d 227 5 ls h (pII st fun x y r => nx 6 ls (.int (x + y) :: r) h) Q := G_unf rfl rfl
theorem g227_6 : G d 227 6 ls st h Q ↔ GN d 227 6 ls h (pI st fun x r => ck (3 < ls.length) (nx 7 (st1 ls 3 (.int x)) r h)) Q := G_unf rfl rfl
theorem g227_7 : G d 227 7 ls st h Q ↔ GN d 227 7 ls h (nx 8 ls (.int (nI 1) :: st) h) Q := G_unf rfl rfl
theorem g227_8 : G d 227 8 ls st h Q ↔ GN d 227 8 ls h (pI st fun x r => ck (4 < ls.length) (nx 10 (st1 ls 4 (.int x)) r h)) Q := G_unf rfl rfl
theorem g227_10 : G d 227 10 ls st h Q ↔ GN d 227 10 ls h (ldI ls 4 fun x => nx 12 ls (.int x :: st) h) Q := G_unf rfl rfl
theorem g227_12 : G d 227 12 ls st h Q ↔ GN d 227 12 ls h (pI st fun x r => br (x = 0) (nx 116 ls r h) (nx 15 ls r h)) Q := G_unf rfl rfl
theorem g227_15 : G d 227 15 ls st h Q ↔ GN d 227 15 ls h (nx 16 ls (.int (nI 0) :: st) h) Q := G_unf rfl rfl
theorem g227_16 : G d 227 16 ls st h Q ↔ GN d 227 16 ls h (pI st fun x r => ck (4 < ls.length) (nx 18 (st1 ls 4 (.int x)) r h)) Q := G_unf rfl rfl
theorem g227_18 : G d 227 18 ls st h Q ↔ GN d 227 18 ls h (nx 19 ls (.int (nI 0) :: st) h) Q := G_unf rfl rfl
theorem g227_19 : G d 227 19 ls st h Q ↔ GN d 227 19 ls h (pI st fun x r => ck (5 < ls.length) (nx 21 (st1 ls 5 (.int x)) r h)) Q := G_unf rfl rfl
theorem g227_21 : G d 227 21 ls st h Q ↔ GN d 227 21 ls h (ldI ls 5 fun x => nx 23 ls (.int x :: st) h) Q := G_unf rfl rfl
theorem g227_23 : G d 227 23 ls st h Q ↔ GN d 227 23 ls h (ldR ls 0 fun a => nx 24 ls (.ref a :: st) h) Q := G_unf rfl rfl
theorem g227_24 : G d 227 24 ls st h Q ↔ GN d 227 24 ls h (pR st fun a r => ck (arr h a 9) (nx 27 ls (rv (hR h a 17) :: r) h)) Q := G_unf rfl rfl
theorem g227_27 : G d 227 27 ls st h Q ↔ GN d 227 27 ls h (ldR ls 0 fun a => nx 28 ls (.ref a :: st) h) Q := G_unf rfl rfl
theorem g227_28 : G d 227 28 ls st h Q ↔ GN d 227 28 ls h (pR st fun a r => ck (arr h a 9) (nx 31 ls (.int (hI h a 13) :: r) h)) Q := G_unf rfl rfl
theorem g227_31 : G d 227 31 ls st h Q ↔ GN d 227 31 ls h (pRI st fun a i r => br (a = 1000003) (ck (inb i (hS h).1) (nx 32 ls (.int ((hS h).2 i.toNatClampNeg) :: r) h)) (ck (arr h a 10 ∧ inb i (hLn h a)) (nx 32 ls (.int (hI h a i.toNatClampNeg) :: r) h))) Q := G_unf rfl rfl
theorem g227_32 : G d 227 32 ls st h Q ↔ GN d 227 32 ls h (pII st fun x y r => br (y ≤ x) (nx 113 ls r h) (nx 35 ls r h)) Q := G_unf rfl rfl
theorem g227_35 : G d 227 35 ls st h Q ↔ GN d 227 35 ls h (ldR ls 0 fun a => nx 36 ls (.ref a :: st) h) Q := G_unf rfl rfl
theorem g227_36 : G d 227 36 ls st h Q ↔ GN d 227 36 ls h (ldI ls 5 fun x => nx 38 ls (.int x :: st) h) Q := G_unf rfl rfl
theorem g227_38 : G d 227 38 ls st h Q ↔ GN d 227 38 ls h (ldR ls 0 fun a => nx 39 ls (.ref a :: st) h) Q := G_unf rfl rfl
theorem g227_39 : G d 227 39 ls st h Q ↔ GN d 227 39 ls h (pR st fun a r => ck (arr h a 9) (nx 42 ls (rv (hR h a 52) :: r) h)) Q := G_unf rfl rfl
theorem g227_42 : G d 227 42 ls st h Q ↔ GN d 227 42 ls h (ldI ls 3 fun x => nx 43 ls (.int x :: st) h) Q := G_unf rfl rfl
theorem g227_43 : G d 227 43 ls st h Q ↔ GN d 227 43 ls h (pRI st fun a i r => br (a = 1000003) (ck (inb i (hS h).1) (nx 44 ls (.int ((hS h).2 i.toNatClampNeg) :: r) h)) (ck (arr h a 10 ∧ inb i (hLn h a)) (nx 44 ls (.int (hI h a i.toNatClampNeg) :: r) h))) Q := G_unf rfl rfl
theorem g227_44 : G d 227 44 ls st h Q ↔ GN d 227 44 ls h (pA 2 st fun as r => pR r fun a r => ck (r.length ≤ 4 ∧ arr h a 9) (cll 226 (.ref a :: as) r)) Q := G_unf rfl rfl
theorem g227_47 : G d 227 47 ls st h Q ↔ GN d 227 47 ls h (pI st fun x r => br (¬ x = 0) (nx 53 ls r h) (nx 50 ls r h)) Q := G_unf rfl rfl
theorem g227_50 : G d 227 50 ls st h Q ↔ GN d 227 50 ls h (nx 107 ls st h) Q := G_unf rfl rfl
theorem g227_53 : G d 227 53 ls st h Q ↔ GN d 227 53 ls h (ldR ls 0 fun a => nx 54 ls (.ref a :: st) h) Q := G_unf rfl rfl
theorem g227_54 : G d 227 54 ls st h Q ↔ GN d 227 54 ls h (pR st fun a r => ck (arr h a 9) (nx 57 ls (rv (hR h a 18) :: r) h)) Q := G_unf rfl rfl
theorem g227_57 : G d 227 57 ls st h Q ↔ GN d 227 57 ls h (nx 59 ls (.int (nI 16) :: st) h) Q := G_unf rfl rfl
theorem g227_59 : G d 227 59 ls st h Q ↔ GN d 227 59 ls h (ldR ls 0 fun a => nx 60 ls (.ref a :: st) h) Q := G_unf rfl rfl
theorem g227_60 : G d 227 60 ls st h Q ↔ GN d 227 60 ls h (pR st fun a r => ck (arr h a 9) (nx 63 ls (.int (hI h a 13) :: r) h)) Q := G_unf rfl rfl
theorem g227_63 : G d 227 63 ls st h Q ↔ GN d 227 63 ls h (pII st fun x y r => nx 64 ls (.int (x * y) :: r) h) Q := G_unf rfl rfl
theorem g227_64 : G d 227 64 ls st h Q ↔ GN d 227 64 ls h (ldI ls 5 fun x => nx 66 ls (.int x :: st) h) Q := G_unf rfl rfl
theorem g227_66 : G d 227 66 ls st h Q ↔ GN d 227 66 ls h (pII st fun x y r => nx 67 ls (.int (x + y) :: r) h) Q := G_unf rfl rfl
theorem g227_67 : G d 227 67 ls st h Q ↔ GN d 227 67 ls h (pRI st fun a i r => br (a = 1000003) (ck (inb i (hS h).1) (nx 68 ls (.int ((hS h).2 i.toNatClampNeg) :: r) h)) (ck (arr h a 10 ∧ inb i (hLn h a)) (nx 68 ls (.int (hI h a i.toNatClampNeg) :: r) h))) Q := G_unf rfl rfl
theorem g227_68 : G d 227 68 ls st h Q ↔ GN d 227 68 ls h (pI st fun x r => ck (6 < ls.length) (nx 70 (st1 ls 6 (.int x)) r h)) Q := G_unf rfl rfl
theorem g227_70 : G d 227 70 ls st h Q ↔ GN d 227 70 ls h (ldR ls 0 fun a => nx 71 ls (.ref a :: st) h) Q := G_unf rfl rfl
theorem g227_71 : G d 227 71 ls st h Q ↔ GN d 227 71 ls h (pR st fun a r => ck (arr h a 9) (nx 74 ls (rv (hR h a 52) :: r) h)) Q := G_unf rfl rfl
theorem g227_74 : G d 227 74 ls st h Q ↔ GN d 227 74 ls h (ldI ls 3 fun x => nx 75 ls (.int x :: st) h) Q := G_unf rfl rfl
theorem g227_75 : G d 227 75 ls st h Q ↔ GN d 227 75 ls h (p11 st fun v w r => nx 76 ls (v :: w :: v :: w :: r) h) Q := G_unf rfl rfl
theorem g227_76 : G d 227 76 ls st h Q ↔ GN d 227 76 ls h (pRI st fun a i r => br (a = 1000003) (ck (inb i (hS h).1) (nx 77 ls (.int ((hS h).2 i.toNatClampNeg) :: r) h)) (ck (arr h a 10 ∧ inb i (hLn h a)) (nx 77 ls (.int (hI h a i.toNatClampNeg) :: r) h))) Q := G_unf rfl rfl
theorem g227_77 : G d 227 77 ls st h Q ↔ GN d 227 77 ls h (nx 78 ls (.int (nI 1) :: st) h) Q := G_unf rfl rfl
theorem g227_78 : G d 227 78 ls st h Q ↔ GN d 227 78 ls h (ldI ls 6 fun x => nx 80 ls (.int x :: st) h) Q := G_unf rfl rfl
theorem g227_80 : G d 227 80 ls st h Q ↔ GN d 227 80 ls h (pII st fun x y r => nx 81 ls (.int (x <<< (y &&& 31)) :: r) h) Q := G_unf rfl rfl
theorem g227_81 : G d 227 81 ls st h Q ↔ GN d 227 81 ls h (pII st fun x y r => nx 82 ls (.int (x ||| y) :: r) h) Q := G_unf rfl rfl
theorem g227_82 : G d 227 82 ls st h Q ↔ GN d 227 82 ls h (pRII st fun a i x r => ck (arr h a 10 ∧ inb i (hLn h a)) (nx 83 ls r (sI h a i.toNatClampNeg x))) Q := G_unf rfl rfl
theorem g227_83 : G d 227 83 ls st h Q ↔ GN d 227 83 ls h (nx 84 ls (.int (nI 1) :: st) h) Q := G_unf rfl rfl
theorem g227_84 : G d 227 84 ls st h Q ↔ GN d 227 84 ls h (pI st fun x r => ck (4 < ls.length) (nx 86 (st1 ls 4 (.int x)) r h)) Q := G_unf rfl rfl
theorem g227_86 : G d 227 86 ls st h Q ↔ GN d 227 86 ls h (ldR ls 0 fun a => nx 87 ls (.ref a :: st) h) Q := G_unf rfl rfl
theorem g227_87 : G d 227 87 ls st h Q ↔ GN d 227 87 ls h (ldI ls 1 fun x => nx 88 ls (.int x :: st) h) Q := G_unf rfl rfl
theorem g227_88 : G d 227 88 ls st h Q ↔ GN d 227 88 ls h (ldI ls 2 fun x => nx 89 ls (.int x :: st) h) Q := G_unf rfl rfl
theorem g227_89 : G d 227 89 ls st h Q ↔ GN d 227 89 ls h (ldI ls 6 fun x => nx 91 ls (.int x :: st) h) Q := G_unf rfl rfl
theorem g227_91 : G d 227 91 ls st h Q ↔ GN d 227 91 ls h (pA 3 st fun as r => pR r fun a r => ck (r.length ≤ 4 ∧ arr h a 9) (cll 212 (.ref a :: as) r)) Q := G_unf rfl rfl
theorem g227_94 : G d 227 94 ls st h Q ↔ GN d 227 94 ls h (pI st fun x r => br (x = 0) (nx 107 ls r h) (nx 97 ls r h)) Q := G_unf rfl rfl
theorem g227_97 : G d 227 97 ls st h Q ↔ GN d 227 97 ls h (ldR ls 0 fun a => nx 98 ls (.ref a :: st) h) Q := G_unf rfl rfl
theorem g227_98 : G d 227 98 ls st h Q ↔ GN d 227 98 ls h (ldI ls 1 fun x => nx 99 ls (.int x :: st) h) Q := G_unf rfl rfl
theorem g227_99 : G d 227 99 ls st h Q ↔ GN d 227 99 ls h (ldI ls 2 fun x => nx 100 ls (.int x :: st) h) Q := G_unf rfl rfl
theorem g227_100 : G d 227 100 ls st h Q ↔ GN d 227 100 ls h (ldI ls 6 fun x => nx 102 ls (.int x :: st) h) Q := G_unf rfl rfl
theorem g227_102 : G d 227 102 ls st h Q ↔ GN d 227 102 ls h (ldI ls 5 fun x => nx 104 ls (.int x :: st) h) Q := G_unf rfl rfl
theorem g227_104 : G d 227 104 ls st h Q ↔ GN d 227 104 ls h (pA 4 st fun as r => pR r fun a r => ck (r.length ≤ 4 ∧ arr h a 9) (cll 225 (.ref a :: as) r)) Q := G_unf rfl rfl
theorem g227_107 : G d 227 107 ls st h Q ↔ GN d 227 107 ls h (ldI ls 5 fun x => nx 110 (st1 ls 5 (.int (x + (nI 1)))) st h) Q := G_unf rfl rfl
theorem g227_110 : G d 227 110 ls st h Q ↔ GN d 227 110 ls h (nx 21 ls st h) Q := G_unf rfl rfl
theorem g227_113 : G d 227 113 ls st h Q ↔ GN d 227 113 ls h (nx 10 ls st h) Q := G_unf rfl rfl
theorem g227_116 : G d 227 116 ls st h Q ↔ GN d 227 116 ls h (pE st (rtn none)) Q := G_unf rfl rfl
theorem g228_0 : G d 228 0 ls st h Q ↔ GN d 228 0 ls h (ldR ls 0 fun a => nx 1 ls (.ref a :: st) h) Q := G_unf rfl rfl
theorem g228_1 : G d 228 1 ls st h Q ↔ GN d 228 1 ls h (pR st fun a r => ck (arr h a 9) (nx 4 ls (rv (hR h a 24) :: r) h)) Q := G_unf rfl rfl
theorem g228_4 : G d 228 4 ls st h Q ↔ GN d 228 4 ls h (nx 6 ls (.int (nI 16) :: st) h) Q := G_unf rfl rfl
theorem g228_6 : G d 228 6 ls st h Q ↔ GN d 228 6 ls h (ldR ls 0 fun a => nx 7 ls (.ref a :: st) h) Q := G_unf rfl rfl
theorem g228_7 : G d 228 7 ls st h Q ↔ GN d 228 7 ls h (pR st fun a r => ck (arr h a 9) (nx 10 ls (.int (hI h a 13) :: r) h)) Q := G_unf rfl rfl
theorem g228_10 : G d 228 10 ls st h Q ↔ GN d 228 10 ls h (pII st fun x y r => nx 11 ls (.int (x * y) :: r) h) Q := G_unf rfl rfl
theorem g228_11 : G d 228 11 ls st h Q ↔ GN d 228 11 ls h (ldI ls 2 fun x => nx 12 ls (.int x :: st) h) Q := G_unf rfl rfl
theorem g228_12 : G d 228 12 ls st h Q ↔ GN d 228 12 ls h (pII st fun x y r => nx 13 ls (.int (x + y) :: r) h) Q := G_unf rfl rfl
theorem g228_13 : G d 228 13 ls st h Q ↔ GN d 228 13 ls h (pRI st fun a i r => br (a = 1000003) (ck (inb i (hS h).1) (nx 14 ls (.int ((hS h).2 i.toNatClampNeg) :: r) h)) (ck (arr h a 10 ∧ inb i (hLn h a)) (nx 14 ls (.int (hI h a i.toNatClampNeg) :: r) h))) Q := G_unf rfl rfl
theorem g228_14 : G d 228 14 ls st h Q ↔ GN d 228 14 ls h (pI st fun x r => ck (3 < ls.length) (nx 15 (st1 ls 3 (.int x)) r h)) Q := G_unf rfl rfl
theorem g228_15 : G d 228 15 ls st h Q ↔ GN d 228 15 ls h (ldR ls 0 fun a => nx 16 ls (.ref a :: st) h) Q := G_unf rfl rfl
theorem g228_16 : G d 228 16 ls st h Q ↔ GN d 228 16 ls h (pR st fun a r => ck (arr h a 9) (nx 19 ls (rv (hR h a 25) :: r) h)) Q := G_unf rfl rfl
theorem g228_19 : G d 228 19 ls st h Q ↔ GN d 228 19 ls h (nx 21 ls (.int (nI 16) :: st) h) Q := G_unf rfl rfl
theorem g228_21 : G d 228 21 ls st h Q ↔ GN d 228 21 ls h (ldR ls 0 fun a => nx 22 ls (.ref a :: st) h) Q := G_unf rfl rfl
theorem g228_22 : G d 228 22 ls st h Q ↔ GN d 228 22 ls h (pR st fun a r => ck (arr h a 9) (nx 25 ls (.int (hI h a 13) :: r) h)) Q := G_unf rfl rfl
theorem g228_25 : G d 228 25 ls st h Q ↔ GN d 228 25 ls h (pII st fun x y r => nx 26 ls (.int (x * y) :: r) h) Q := G_unf rfl rfl
theorem g228_26 : G d 228 26 ls st h Q ↔ GN d 228 26 ls h (ldI ls 2 fun x => nx 27 ls (.int x :: st) h) Q := G_unf rfl rfl
theorem g228_27 : G d 228 27 ls st h Q ↔ GN d 228 27 ls h (pII st fun x y r => nx 28 ls (.int (x + y) :: r) h) Q := G_unf rfl rfl
theorem g228_28 : G d 228 28 ls st h Q ↔ GN d 228 28 ls h (pRI st fun a i r => br (a = 1000003) (ck (inb i (hS h).1) (nx 29 ls (.int ((hS h).2 i.toNatClampNeg) :: r) h)) (ck (arr h a 10 ∧ inb i (hLn h a)) (nx 29 ls (.int (hI h a i.toNatClampNeg) :: r) h))) Q := G_unf rfl rfl
theorem g228_29 : G d 228 29 ls st h Q ↔ GN d 228 29 ls h (pI st fun x r => ck (4 < ls.length) (nx 31 (st1 ls 4 (.int x)) r h)) Q := G_unf rfl rfl
theorem g228_31 : G d 228 31 ls st h Q ↔ GN d 228 31 ls h (ldR ls 0 fun a => nx 32 ls (.ref a :: st) h) Q := G_unf rfl rfl
theorem g228_32 : G d 228 32 ls st h Q ↔ GN d 228 32 ls h (pR st fun a r => ck (arr h a 9) (nx 35 ls (rv (hR h a 52) :: r) h)) Q := G_unf rfl rfl
theorem g228_35 : G d 228 35 ls st h Q ↔ GN d 228 35 ls h (nx 37 ls (.int (nI 8) :: st) h) Q := G_unf rfl rfl
theorem g228_37 : G d 228 37 ls st h Q ↔ GN d 228 37 ls h (ldI ls 1 fun x => nx 38 ls (.int x :: st) h) Q := G_unf rfl rfl
theorem g228_38 : G d 228 38 ls st h Q ↔ GN d 228 38 ls h (pII st fun x y r => nx 39 ls (.int (x * y) :: r) h) Q := G_unf rfl rfl
theorem g228_39 : G d 228 39 ls st h Q ↔ GN d 228 39 ls h (ldI ls 3 fun x => nx 40 ls (.int x :: st) h) Q := G_unf rfl rfl
theorem g228_40 : G d 228 40 ls st h Q ↔ GN d 228 40 ls h (pII st fun x y r => nx 41 ls (.int (x + y) :: r) h) Q := G_unf rfl rfl
theorem g228_41 : G d 228 41 ls st h Q ↔ GN d 228 41 ls h (pRI st fun a i r => br (a = 1000003) (ck (inb i (hS h).1) (nx 42 ls (.int ((hS h).2 i.toNatClampNeg) :: r) h)) (ck (arr h a 10 ∧ inb i (hLn h a)) (nx 42 ls (.int (hI h a i.toNatClampNeg) :: r) h))) Q := G_unf rfl rfl
theorem g228_42 : G d 228 42 ls st h Q ↔ GN d 228 42 ls h (ldR ls 0 fun a => nx 43 ls (.ref a :: st) h) Q := G_unf rfl rfl
theorem g228_43 : G d 228 43 ls st h Q ↔ GN d 228 43 ls h (pR st fun a r => ck (arr h a 9) (nx 46 ls (rv (hR h a 52) :: r) h)) Q := G_unf rfl rfl
theorem g228_46 : G d 228 46 ls st h Q ↔ GN d 228 46 ls h (nx 48 ls (.int (nI 8) :: st) h) Q := G_unf rfl rfl
theorem g228_48 : G d 228 48 ls st h Q ↔ GN d 228 48 ls h (ldI ls 1 fun x => nx 49 ls (.int x :: st) h) Q := G_unf rfl rfl
theorem g228_49 : G d 228 49 ls st h Q ↔ GN d 228 49 ls h (pII st fun x y r => nx 50 ls (.int (x * y) :: r) h) Q := G_unf rfl rfl
theorem g228_50 : G d 228 50 ls st h Q ↔ GN d 228 50 ls h (ldI ls 4 fun x => nx 52 ls (.int x :: st) h) Q := G_unf rfl rfl
theorem g228_52 : G d 228 52 ls st h Q ↔ GN d 228 52 ls h (pII st fun x y r => nx 53 ls (.int (x + y) :: r) h) Q := G_unf rfl rfl
theorem g228_53 : G d 228 53 ls st h Q ↔ GN d 228 53 ls h (pRI st fun a i r => br (a = 1000003) (ck (inb i (hS h).1) (nx 54 ls (.int ((hS h).2 i.toNatClampNeg) :: r) h)) (ck (arr h a 10 ∧ inb i (hLn h a)) (nx 54 ls (.int (hI h a i.toNatClampNeg) :: r) h))) Q := G_unf rfl rfl
theorem g228_54 : G d 228 54 ls st h Q ↔ GN d 228 54 ls h (nx 55 ls (.int (-1) :: st) h) Q := G_unf rfl rfl
theorem g228_55 : G d 228 55 ls st h Q ↔ GN d 228 55 ls h (pII st fun x y r => nx 56 ls (.int (x ^^^ y) :: r) h) Q := G_unf rfl rfl
theorem g228_56 : G d 228 56 ls st h Q ↔ GN d 228 56 ls h (pII st fun x y r => nx 57 ls (.int (x &&& y) :: r) h) Q := G_unf rfl rfl
theorem g228_57 : G d 228 57 ls st h Q ↔ GN d 228 57 ls h (ldR ls 0 fun a => nx 58 ls (.ref a :: st) h) Q := G_unf rfl rfl
theorem g228_58 : G d 228 58 ls st h Q ↔ GN d 228 58 ls h (ldI ls 1 fun x => nx 59 ls (.int x :: st) h) Q := G_unf rfl rfl
theorem g228_59 : G d 228 59 ls st h Q ↔ GN d 228 59 ls h (ldI ls 4 fun x => nx 61 ls (.int x :: st) h) Q := G_unf rfl rfl
theorem g228_61 : G d 228 61 ls st h Q ↔ GN d 228 61 ls h (pA 2 st fun as r => pR r fun a r => ck (r.length ≤ 4 ∧ arr h a 9) (cll 213 (.ref a :: as) r)) Q := G_unf rfl rfl
theorem g228_64 : G d 228 64 ls st h Q ↔ GN d 228 64 ls h (nx 65 ls (.int (-1) :: st) h) Q := G_unf rfl rfl
theorem g228_65 : G d 228 65 ls st h Q ↔ GN d 228 65 ls h (pII st fun x y r => nx 66 ls (.int (x ^^^ y) :: r) h) Q := G_unf rfl rfl
theorem g228_66 : G d 228 66 ls st h Q ↔ GN d 228 66 ls h (pII st fun x y r => nx 67 ls (.int (x &&& y) :: r) h) Q := G_unf rfl rfl
theorem g228_67 : G d 228 67 ls st h Q ↔ GN d 228 67 ls h (pI st fun x r => ck (5 < ls.length) (nx 69 (st1 ls 5 (.int x)) r h)) Q := G_unf rfl rfl
theorem g228_69 : G d 228 69 ls st h Q ↔ GN d 228 69 ls h (nx 70 ls (.int (nI 0) :: st) h) Q := G_unf rfl rfl
theorem g228_70 : G d 228 70 ls st h Q ↔ GN d 228 70 ls h (pI st fun x r => ck (6 < ls.length) (nx 72 (st1 ls 6 (.int x)) r h)) Q := G_unf rfl rfl
theorem g228_72 : G d 228 72 ls st h Q ↔ GN d 228 72 ls h (nx 73 ls (.int (nI 0) :: st) h) Q := G_unf rfl rfl
theorem g228_73 : G d 228 73 ls st h Q ↔ GN d 228 73 ls h (pI st fun x r => ck (7 < ls.length) (nx 75 (st1 ls 7 (.int x)) r h)) Q := G_unf rfl rfl
theorem g228_75 : G d 228 75 ls st h Q ↔ GN d 228 75 ls h (ldI ls 7 fun x => nx 77 ls (.int x :: st) h) Q := G_unf rfl rfl
theorem g228_77 : G d 228 77 ls st h Q ↔ GN d 228 77 ls h (ldR ls 0 fun a => nx 78 ls (.ref a :: st) h) Q := G_unf rfl rfl
theorem g228_78 : G d 228 78 ls st h Q ↔ GN d 228 78 ls h (pR st fun a r => ck (arr h a 9) (nx 81 ls (rv (hR h a 14) :: r) h)) Q := G_unf rfl rfl
theorem g228_81 : G d 228 81 ls st h Q ↔ GN d 228 81 ls h (ldR ls 0 fun a => nx 82 ls (.ref a :: st) h) Q := G_unf rfl rfl
theorem g228_82 : G d 228 82 ls st h Q ↔ GN d 228 82 ls h (pR st fun a r => ck (arr h a 9) (nx 85 ls (.int (hI h a 13) :: r) h)) Q := G_unf rfl rfl
theorem g228_85 : G d 228 85 ls st h Q ↔ GN d 228 85 ls h (pRI st fun a i r => br (a = 1000003) (ck (inb i (hS h).1) (nx 86 ls (.int ((hS h).2 i.toNatClampNeg) :: r) h)) (ck (arr h a 10 ∧ inb i (hLn h a)) (nx 86 ls (.int (hI h a i.toNatClampNeg) :: r) h))) Q := G_unf rfl rfl
theorem g228_86 : G d 228 86 ls st h Q ↔ GN d 228 86 ls h (pII st fun x y r => br (y ≤ x) (nx 131 ls r h) (nx 89 ls r h)) Q := G_unf rfl rfl
theorem g228_89 : G d 228 89 ls st h Q ↔ GN d 228 89 ls h (ldI ls 6 fun x => nx 91 ls (.int x :: st) h) Q := G_unf rfl rfl
theorem g228_91 : G d 228 91 ls st h Q ↔ GN d 228 91 ls h (ldI ls 5 fun x => nx 93 ls (.int x :: st) h) Q := G_unf rfl rfl
theorem g228_93 : G d 228 93 ls st h Q ↔ GN d 228 93 ls h (ldI ls 7 fun x => nx 95 ls (.int x :: st) h) Q := G_unf rfl rfl
theorem g228_95 : G d 228 95 ls st h Q ↔ GN d 228 95 ls h (pA 2 st fun as r => ck (r.length ≤ 4) (cll 205 as r)) Q := G_unf rfl rfl
theorem g228_98 : G d 228 98 ls st h Q ↔ GN d 228 98 ls h (pI st fun x r => br (x = 0) (nx 121 ls r h) (nx 101 ls r h)) Q := G_unf rfl rfl
theorem g228_101 : G d 228 101 ls st h Q ↔ GN d 228 101 ls h (ldR ls 0 fun a => nx 102 ls (.ref a :: st) h) Q := G_unf rfl rfl
theorem g228_102 : G d 228 102 ls st h Q ↔ GN d 228 102 ls h (ldI ls 1 fun x => nx 103 ls (.int x :: st) h) Q := G_unf rfl rfl
theorem g228_103 : G d 228 103 ls st h Q ↔ GN d 228 103 ls h (ldI ls 3 fun x => nx 104 ls (.int x :: st) h) Q := G_unf rfl rfl
theorem g228_104 : G d 228 104 ls st h Q ↔ GN d 228 104 ls h (ldI ls 4 fun x => nx 106 ls (.int x :: st) h) Q := G_unf rfl rfl
theorem g228_106 : G d 228 106 ls st h Q ↔ GN d 228 106 ls h (ldI ls 7 fun x => nx 108 ls (.int x :: st) h) Q := G_unf rfl rfl
theorem g228_108 : G d 228 108 ls st h Q ↔ GN d 228 108 ls h (pA 4 st fun as r => pR r fun a r => ck (r.length ≤ 4 ∧ arr h a 9) (cll 224 (.ref a :: as) r)) Q := G_unf rfl rfl
theorem g228_111 : G d 228 111 ls st h Q ↔ GN d 228 111 ls h (pI st fun x r => br (x = 0) (nx 121 ls r h) (nx 114 ls r h)) Q := G_unf rfl rfl
theorem g228_114 : G d 228 114 ls st h Q ↔ GN d 228 114 ls h (nx 115 ls (.int (nI 1) :: st) h) Q := G_unf rfl rfl
theorem g228_115 : G d 228 115 ls st h Q ↔ GN d 228 115 ls h (ldI ls 7 fun x => nx 117 ls (.int x :: st) h) Q := G_unf rfl rfl
theorem g228_117 : G d 228 117 ls st h Q ↔ GN d 228 117 ls h (pII st fun x y r => nx 118 ls (.int (x <<< (y &&& 31)) :: r) h) Q := G_unf rfl rfl
theorem g228_118 : G d 228 118 ls st h Q ↔ GN d 228 118 ls h (nx 122 ls st h) Q := G_unf rfl rfl
theorem g228_121 : G d 228 121 ls st h Q ↔ GN d 228 121 ls h (nx 122 ls (.int (nI 0) :: st) h) Q := G_unf rfl rfl
theorem g228_122 : G d 228 122 ls st h Q ↔ GN d 228 122 ls h (pII st fun x y r => nx 123 ls (.int (x ||| y) :: r) h) Q := G_unf rfl rfl
theorem g228_123 : G d 228 123 ls st h Q ↔ GN d 228 123 ls h (pI st fun x r => ck (6 < ls.length) (nx 125 (st1 ls 6 (.int x)) r h)) Q := G_unf rfl rfl
theorem g228_125 : G d 228 125 ls st h Q ↔ GN d 228 125 ls h (ldI ls 7 fun x => nx 128 (st1 ls 7 (.int (x + (nI 1)))) st h) Q := G_unf rfl rfl
theorem g228_128 : G d 228 128 ls st h Q ↔ GN d 228 128 ls h (nx 75 ls st h) Q := G_unf rfl rfl
theorem g228_131 : G d 228 131 ls st h Q ↔ GN d 228 131 ls h (ldR ls 0 fun a => nx 132 ls (.ref a :: st) h) Q := G_unf rfl rfl
theorem g228_132 : G d 228 132 ls st h Q ↔ GN d 228 132 ls h (pR st fun a r => ck (arr h a 9) (nx 135 ls (rv (hR h a 52) :: r) h)) Q := G_unf rfl rfl
set_option maxRecDepth 100000 in
theorem g228_135 : G d 228 135 ls st h Q ↔ GN d 228 135 ls h (nx 137 ls (.int (nI 8) :: st) h) Q := G_unf rfl rfl
set_option maxRecDepth 100000 in
theorem g228_137 : G d 228 137 ls st h Q ↔ GN d 228 137 ls h (ldI ls 1 fun x => nx 138 ls (.int x :: st) h) Q := G_unf rfl rfl
set_option maxRecDepth 100000 in
theorem g228_138 : G d 228 138 ls st h Q ↔ GN d 228 138 ls h (pII st fun x y r => nx 139 ls (.int (x * y) :: r) h) Q := G_unf rfl rfl
set_option maxRecDepth 100000 in
theorem g228_139 : G d 228 139 ls st h Q ↔ GN d 228 139 ls h (ldI ls 4 fun x => nx 141 ls (.int x :: st) h) Q := G_unf rfl rfl
set_option maxRecDepth 100000 in
theorem g228_141 : G d 228 141 ls st h Q ↔ GN d 228 141 ls h (pII st fun x y r => nx 142 ls (.int (x + y) :: r) h) Q := G_unf rfl rfl
set_option maxRecDepth 100000 in
theorem g228_142 : G d 228 142 ls st h Q ↔ GN d 228 142 ls h (p11 st fun v w r => nx 143 ls (v :: w :: v :: w :: r) h) Q := G_unf rfl rfl
set_option maxRecDepth 100000 in
theorem g228_143 : G d 228 143 ls st h Q ↔ GN d 228 143 ls h (pRI st fun a i r => br (a = 1000003) (ck (inb i (hS h).1) (nx 144 ls (.int ((hS h).2 i.toNatClampNeg) :: r) h)) (ck (arr h a 10 ∧ inb i (hLn h a)) (nx 144 ls (.int (hI h a i.toNatClampNeg) :: r) h))) Q := G_unf rfl rfl
set_option maxRecDepth 100000 in
theorem g228_144 : G d 228 144 ls st h Q ↔ GN d 228 144 ls h (ldI ls 6 fun x => nx 146 ls (.int x :: st) h) Q := G_unf rfl rfl
set_option maxRecDepth 100000 in
theorem g228_146 : G d 228 146 ls st h Q ↔ GN d 228 146 ls h (pII st fun x y r => nx 147 ls (.int (x ||| y) :: r) h) Q := G_unf rfl rfl
set_option maxRecDepth 100000 in
theorem g228_147 : G d 228 147 ls st h Q ↔ GN d 228 147 ls h (pRII st fun a i x r => ck (arr h a 10 ∧ inb i (hLn h a)) (nx 148 ls r (sI h a i.toNatClampNeg x))) Q := G_unf rfl rfl
set_option maxRecDepth 100000 in
theorem g228_148 : G d 228 148 ls st h Q ↔ GN d 228 148 ls h (ldR ls 0 fun a => nx 149 ls (.ref a :: st) h) Q := G_unf rfl rfl
set_option maxRecDepth 100000 in
theorem g228_149 : G d 228 149 ls st h Q ↔ GN d 228 149 ls h (ldI ls 1 fun x => nx 150 ls (.int x :: st) h) Q := G_unf rfl rfl
set_option maxRecDepth 100000 in
theorem g228_150 : G d 228 150 ls st h Q ↔ GN d 228 150 ls h (ldI ls 4 fun x => nx 152 ls (.int x :: st) h) Q := G_unf rfl rfl
set_option maxRecDepth 100000 in
theorem g228_152 : G d 228 152 ls st h Q ↔ GN d 228 152 ls h (pA 2 st fun as r => pR r fun a r => ck (r.length ≤ 4 ∧ arr h a 9) (cll 227 (.ref a :: as) r)) Q := G_unf rfl rfl
set_option maxRecDepth 100000 in
theorem g228_155 : G d 228 155 ls st h Q ↔ GN d 228 155 ls h (pE st (rtn none)) Q := G_unf rfl rfl
theorem g229_0 : G d 229 0 ls st h Q ↔ GN d 229 0 ls h (ldR ls 0 fun a => nx 1 ls (.ref a :: st) h) Q := G_unf rfl rfl
theorem g229_1 : G d 229 1 ls st h Q ↔ GN d 229 1 ls h (ldR ls 0 fun a => nx 2 ls (.ref a :: st) h) Q := G_unf rfl rfl
theorem g229_2 : G d 229 2 ls st h Q ↔ GN d 229 2 ls h (pR st fun a r => ck (arr h a 9) (nx 5 ls (rv (hR h a 51) :: r) h)) Q := G_unf rfl rfl
theorem g229_5 : G d 229 5 ls st h Q ↔ GN d 229 5 ls h (ldI ls 1 fun x => nx 6 ls (.int x :: st) h) Q := G_unf rfl rfl
theorem g229_6 : G d 229 6 ls st h Q ↔ GN d 229 6 ls h (pRI st fun a i r => br (a = 1000003) (ck (inb i (hS h).1) (nx 7 ls (.int ((hS h).2 i.toNatClampNeg) :: r) h)) (ck (arr h a 10 ∧ inb i (hLn h a)) (nx 7 ls (.int (hI h a i.toNatClampNeg) :: r) h))) Q := G_unf rfl rfl
theorem g229_7 : G d 229 7 ls st h Q ↔ GN d 229 7 ls h (pA 1 st fun as r => pR r fun a r => ck (r.length ≤ 4 ∧ arr h a 9) (cll 215 (.ref a :: as) r)) Q := G_unf rfl rfl
theorem g229_10 : G d 229 10 ls st h Q ↔ GN d 229 10 ls h (pI st fun x r => ck (2 < ls.length) (nx 11 (st1 ls 2 (.int x)) r h)) Q := G_unf rfl rfl
theorem g229_11 : G d 229 11 ls st h Q ↔ GN d 229 11 ls h (nx 12 ls (.int (nI 0) :: st) h) Q := G_unf rfl rfl
theorem g229_12 : G d 229 12 ls st h Q ↔ GN d 229 12 ls h (pI st fun x r => ck (3 < ls.length) (nx 13 (st1 ls 3 (.int x)) r h)) Q := G_unf rfl rfl
theorem g229_13 : G d 229 13 ls st h Q ↔ GN d 229 13 ls h (ldI ls 3 fun x => nx 14 ls (.int x :: st) h) Q := G_unf rfl rfl
theorem g229_14 : G d 229 14 ls st h Q ↔ GN d 229 14 ls h (ldR ls 0 fun a => nx 15 ls (.ref a :: st) h) Q := G_unf rfl rfl
theorem g229_15 : G d 229 15 ls st h Q ↔ GN d 229 15 ls h (pR st fun a r => ck (arr h a 9) (nx 18 ls (rv (hR h a 20) :: r) h)) Q := G_unf rfl rfl
theorem g229_18 : G d 229 18 ls st h Q ↔ GN d 229 18 ls h (ldR ls 0 fun a => nx 19 ls (.ref a :: st) h) Q := G_unf rfl rfl
theorem g229_19 : G d 229 19 ls st h Q ↔ GN d 229 19 ls h (pR st fun a r => ck (arr h a 9) (nx 22 ls (.int (hI h a 13) :: r) h)) Q := G_unf rfl rfl
theorem g229_22 : G d 229 22 ls st h Q ↔ GN d 229 22 ls h (pRI st fun a i r => br (a = 1000003) (ck (inb i (hS h).1) (nx 23 ls (.int ((hS h).2 i.toNatClampNeg) :: r) h)) (ck (arr h a 10 ∧ inb i (hLn h a)) (nx 23 ls (.int (hI h a i.toNatClampNeg) :: r) h))) Q := G_unf rfl rfl
theorem g229_23 : G d 229 23 ls st h Q ↔ GN d 229 23 ls h (pII st fun x y r => br (y ≤ x) (nx 62 ls r h) (nx 26 ls r h)) Q := G_unf rfl rfl
theorem g229_26 : G d 229 26 ls st h Q ↔ GN d 229 26 ls h (ldR ls 0 fun a => nx 27 ls (.ref a :: st) h) Q := G_unf rfl rfl
theorem g229_27 : G d 229 27 ls st h Q ↔ GN d 229 27 ls h (pR st fun a r => ck (arr h a 9) (nx 30 ls (rv (hR h a 52) :: r) h)) Q := G_unf rfl rfl
theorem g229_30 : G d 229 30 ls st h Q ↔ GN d 229 30 ls h (nx 32 ls (.int (nI 8) :: st) h) Q := G_unf rfl rfl
theorem g229_32 : G d 229 32 ls st h Q ↔ GN d 229 32 ls h (ldI ls 1 fun x => nx 33 ls (.int x :: st) h) Q := G_unf rfl rfl
theorem g229_33 : G d 229 33 ls st h Q ↔ GN d 229 33 ls h (pII st fun x y r => nx 34 ls (.int (x * y) :: r) h) Q := G_unf rfl rfl
theorem g229_34 : G d 229 34 ls st h Q ↔ GN d 229 34 ls h (ldI ls 3 fun x => nx 35 ls (.int x :: st) h) Q := G_unf rfl rfl
theorem g229_35 : G d 229 35 ls st h Q ↔ GN d 229 35 ls h (pII st fun x y r => nx 36 ls (.int (x + y) :: r) h) Q := G_unf rfl rfl
theorem g229_36 : G d 229 36 ls st h Q ↔ GN d 229 36 ls h (p11 st fun v w r => nx 37 ls (v :: w :: v :: w :: r) h) Q := G_unf rfl rfl
theorem g229_37 : G d 229 37 ls st h Q ↔ GN d 229 37 ls h (pRI st fun a i r => br (a = 1000003) (ck (inb i (hS h).1) (nx 38 ls (.int ((hS h).2 i.toNatClampNeg) :: r) h)) (ck (arr h a 10 ∧ inb i (hLn h a)) (nx 38 ls (.int (hI h a i.toNatClampNeg) :: r) h))) Q := G_unf rfl rfl
theorem g229_38 : G d 229 38 ls st h Q ↔ GN d 229 38 ls h (ldI ls 2 fun x => nx 39 ls (.int x :: st) h) Q := G_unf rfl rfl
theorem g229_39 : G d 229 39 ls st h Q ↔ GN d 229 39 ls h (ldR ls 0 fun a => nx 40 ls (.ref a :: st) h) Q := G_unf rfl rfl
theorem g229_40 : G d 229 40 ls st h Q ↔ GN d 229 40 ls h (ldI ls 1 fun x => nx 41 ls (.int x :: st) h) Q := G_unf rfl rfl
theorem g229_41 : G d 229 41 ls st h Q ↔ GN d 229 41 ls h (ldI ls 3 fun x => nx 42 ls (.int x :: st) h) Q := G_unf rfl rfl
theorem g229_42 : G d 229 42 ls st h Q ↔ GN d 229 42 ls h (pA 2 st fun as r => pR r fun a r => ck (r.length ≤ 4 ∧ arr h a 9) (cll 213 (.ref a :: as) r)) Q := G_unf rfl rfl
theorem g229_45 : G d 229 45 ls st h Q ↔ GN d 229 45 ls h (nx 46 ls (.int (-1) :: st) h) Q := G_unf rfl rfl
theorem g229_46 : G d 229 46 ls st h Q ↔ GN d 229 46 ls h (pII st fun x y r => nx 47 ls (.int (x ^^^ y) :: r) h) Q := G_unf rfl rfl
theorem g229_47 : G d 229 47 ls st h Q ↔ GN d 229 47 ls h (pII st fun x y r => nx 48 ls (.int (x &&& y) :: r) h) Q := G_unf rfl rfl
theorem g229_48 : G d 229 48 ls st h Q ↔ GN d 229 48 ls h (pII st fun x y r => nx 49 ls (.int (x ||| y) :: r) h) Q := G_unf rfl rfl
theorem g229_49 : G d 229 49 ls st h Q ↔ GN d 229 49 ls h (pRII st fun a i x r => ck (arr h a 10 ∧ inb i (hLn h a)) (nx 50 ls r (sI h a i.toNatClampNeg x))) Q := G_unf rfl rfl
theorem g229_50 : G d 229 50 ls st h Q ↔ GN d 229 50 ls h (ldR ls 0 fun a => nx 51 ls (.ref a :: st) h) Q := G_unf rfl rfl
theorem g229_51 : G d 229 51 ls st h Q ↔ GN d 229 51 ls h (ldI ls 1 fun x => nx 52 ls (.int x :: st) h) Q := G_unf rfl rfl
theorem g229_52 : G d 229 52 ls st h Q ↔ GN d 229 52 ls h (ldI ls 3 fun x => nx 53 ls (.int x :: st) h) Q := G_unf rfl rfl
theorem g229_53 : G d 229 53 ls st h Q ↔ GN d 229 53 ls h (pA 2 st fun as r => pR r fun a r => ck (r.length ≤ 4 ∧ arr h a 9) (cll 227 (.ref a :: as) r)) Q := G_unf rfl rfl
theorem g229_56 : G d 229 56 ls st h Q ↔ GN d 229 56 ls h (ldI ls 3 fun x => nx 59 (st1 ls 3 (.int (x + (nI 1)))) st h) Q := G_unf rfl rfl
theorem g229_59 : G d 229 59 ls st h Q ↔ GN d 229 59 ls h (nx 13 ls st h) Q := G_unf rfl rfl
theorem g229_62 : G d 229 62 ls st h Q ↔ GN d 229 62 ls h (nx 63 ls (.int (nI 0) :: st) h) Q := G_unf rfl rfl
theorem g229_63 : G d 229 63 ls st h Q ↔ GN d 229 63 ls h (pI st fun x r => ck (3 < ls.length) (nx 64 (st1 ls 3 (.int x)) r h)) Q := G_unf rfl rfl
theorem g229_64 : G d 229 64 ls st h Q ↔ GN d 229 64 ls h (ldI ls 3 fun x => nx 65 ls (.int x :: st) h) Q := G_unf rfl rfl
theorem g229_65 : G d 229 65 ls st h Q ↔ GN d 229 65 ls h (ldR ls 0 fun a => nx 66 ls (.ref a :: st) h) Q := G_unf rfl rfl
theorem g229_66 : G d 229 66 ls st h Q ↔ GN d 229 66 ls h (pR st fun a r => ck (arr h a 9) (nx 69 ls (rv (hR h a 23) :: r) h)) Q := G_unf rfl rfl
theorem g229_69 : G d 229 69 ls st h Q ↔ GN d 229 69 ls h (ldR ls 0 fun a => nx 70 ls (.ref a :: st) h) Q := G_unf rfl rfl
theorem g229_70 : G d 229 70 ls st h Q ↔ GN d 229 70 ls h (pR st fun a r => ck (arr h a 9) (nx 73 ls (.int (hI h a 13) :: r) h)) Q := G_unf rfl rfl
theorem g229_73 : G d 229 73 ls st h Q ↔ GN d 229 73 ls h (pRI st fun a i r => br (a = 1000003) (ck (inb i (hS h).1) (nx 74 ls (.int ((hS h).2 i.toNatClampNeg) :: r) h)) (ck (arr h a 10 ∧ inb i (hLn h a)) (nx 74 ls (.int (hI h a i.toNatClampNeg) :: r) h))) Q := G_unf rfl rfl
theorem g229_74 : G d 229 74 ls st h Q ↔ GN d 229 74 ls h (pII st fun x y r => br (y ≤ x) (nx 115 ls r h) (nx 77 ls r h)) Q := G_unf rfl rfl
theorem g229_77 : G d 229 77 ls st h Q ↔ GN d 229 77 ls h (ldR ls 0 fun a => nx 78 ls (.ref a :: st) h) Q := G_unf rfl rfl
theorem g229_78 : G d 229 78 ls st h Q ↔ GN d 229 78 ls h (pR st fun a r => ck (arr h a 9) (nx 81 ls (rv (hR h a 26) :: r) h)) Q := G_unf rfl rfl
theorem g229_81 : G d 229 81 ls st h Q ↔ GN d 229 81 ls h (nx 83 ls (.int (nI 16) :: st) h) Q := G_unf rfl rfl
theorem g229_83 : G d 229 83 ls st h Q ↔ GN d 229 83 ls h (ldR ls 0 fun a => nx 84 ls (.ref a :: st) h) Q := G_unf rfl rfl
theorem g229_84 : G d 229 84 ls st h Q ↔ GN d 229 84 ls h (pR st fun a r => ck (arr h a 9) (nx 87 ls (.int (hI h a 13) :: r) h)) Q := G_unf rfl rfl
theorem g229_87 : G d 229 87 ls st h Q ↔ GN d 229 87 ls h (pII st fun x y r => nx 88 ls (.int (x * y) :: r) h) Q := G_unf rfl rfl
theorem g229_88 : G d 229 88 ls st h Q ↔ GN d 229 88 ls h (ldI ls 3 fun x => nx 89 ls (.int x :: st) h) Q := G_unf rfl rfl
theorem g229_89 : G d 229 89 ls st h Q ↔ GN d 229 89 ls h (pII st fun x y r => nx 90 ls (.int (x + y) :: r) h) Q := G_unf rfl rfl
theorem g229_90 : G d 229 90 ls st h Q ↔ GN d 229 90 ls h (pRI st fun a i r => br (a = 1000003) (ck (inb i (hS h).1) (nx 91 ls (.int ((hS h).2 i.toNatClampNeg) :: r) h)) (ck (arr h a 10 ∧ inb i (hLn h a)) (nx 91 ls (.int (hI h a i.toNatClampNeg) :: r) h))) Q := G_unf rfl rfl
theorem g229_91 : G d 229 91 ls st h Q ↔ GN d 229 91 ls h (ldR ls 0 fun a => nx 92 ls (.ref a :: st) h) Q := G_unf rfl rfl
theorem g229_92 : G d 229 92 ls st h Q ↔ GN d 229 92 ls h (pR st fun a r => ck (arr h a 9) (nx 95 ls (rv (hR h a 51) :: r) h)) Q := G_unf rfl rfl
theorem g229_95 : G d 229 95 ls st h Q ↔ GN d 229 95 ls h (ldI ls 1 fun x => nx 96 ls (.int x :: st) h) Q := G_unf rfl rfl
theorem g229_96 : G d 229 96 ls st h Q ↔ GN d 229 96 ls h (pRI st fun a i r => br (a = 1000003) (ck (inb i (hS h).1) (nx 97 ls (.int ((hS h).2 i.toNatClampNeg) :: r) h)) (ck (arr h a 10 ∧ inb i (hLn h a)) (nx 97 ls (.int (hI h a i.toNatClampNeg) :: r) h))) Q := G_unf rfl rfl
theorem g229_97 : G d 229 97 ls st h Q ↔ GN d 229 97 ls h (nx 99 ls (.int (nI 7) :: st) h) Q := G_unf rfl rfl
theorem g229_99 : G d 229 99 ls st h Q ↔ GN d 229 99 ls h (pII st fun x y r => ck (¬ y = 0) (nx 100 ls (.int (x - x / y * y) :: r) h)) Q := G_unf rfl rfl
theorem g229_100 : G d 229 100 ls st h Q ↔ GN d 229 100 ls h (pII st fun x y r => br (¬ x = y) (nx 109 ls r h) (nx 103 ls r h)) Q := G_unf rfl rfl
theorem g229_103 : G d 229 103 ls st h Q ↔ GN d 229 103 ls h (ldR ls 0 fun a => nx 104 ls (.ref a :: st) h) Q := G_unf rfl rfl
theorem g229_104 : G d 229 104 ls st h Q ↔ GN d 229 104 ls h (ldI ls 1 fun x => nx 105 ls (.int x :: st) h) Q := G_unf rfl rfl
theorem g229_105 : G d 229 105 ls st h Q ↔ GN d 229 105 ls h (ldI ls 3 fun x => nx 106 ls (.int x :: st) h) Q := G_unf rfl rfl
theorem g229_106 : G d 229 106 ls st h Q ↔ GN d 229 106 ls h (pA 2 st fun as r => pR r fun a r => ck (r.length ≤ 4 ∧ arr h a 9) (cll 228 (.ref a :: as) r)) Q := G_unf rfl rfl
theorem g229_109 : G d 229 109 ls st h Q ↔ GN d 229 109 ls h (ldI ls 3 fun x => nx 112 (st1 ls 3 (.int (x + (nI 1)))) st h) Q := G_unf rfl rfl
theorem g229_112 : G d 229 112 ls st h Q ↔ GN d 229 112 ls h (nx 64 ls st h) Q := G_unf rfl rfl
theorem g229_115 : G d 229 115 ls st h Q ↔ GN d 229 115 ls h (pE st (rtn none)) Q := G_unf rfl rfl
theorem g230_0 : G d 230 0 ls st h Q ↔ GN d 230 0 ls h (ldR ls 0 fun a => nx 1 ls (.ref a :: st) h) Q := G_unf rfl rfl
theorem g230_1 : G d 230 1 ls st h Q ↔ GN d 230 1 ls h (pR st fun a r => ck (arr h a 9) (nx 4 ls (rv (hR h a 51) :: r) h)) Q := G_unf rfl rfl
theorem g230_4 : G d 230 4 ls st h Q ↔ GN d 230 4 ls h (ldI ls 1 fun x => nx 5 ls (.int x :: st) h) Q := G_unf rfl rfl
theorem g230_5 : G d 230 5 ls st h Q ↔ GN d 230 5 ls h (p11 st fun v w r => nx 6 ls (v :: w :: v :: w :: r) h) Q := G_unf rfl rfl
theorem g230_6 : G d 230 6 ls st h Q ↔ GN d 230 6 ls h (pRI st fun a i r => br (a = 1000003) (ck (inb i (hS h).1) (nx 7 ls (.int ((hS h).2 i.toNatClampNeg) :: r) h)) (ck (arr h a 10 ∧ inb i (hLn h a)) (nx 7 ls (.int (hI h a i.toNatClampNeg) :: r) h))) Q := G_unf rfl rfl
theorem g230_7 : G d 230 7 ls st h Q ↔ GN d 230 7 ls h (nx 8 ls (.int (nI 1) :: st) h) Q := G_unf rfl rfl
theorem g230_8 : G d 230 8 ls st h Q ↔ GN d 230 8 ls h (pII st fun x y r => nx 9 ls (.int (x + y) :: r) h) Q := G_unf rfl rfl
theorem g230_9 : G d 230 9 ls st h Q ↔ GN d 230 9 ls h (pRII st fun a i x r => ck (arr h a 10 ∧ inb i (hLn h a)) (nx 10 ls r (sI h a i.toNatClampNeg x))) Q := G_unf rfl rfl
theorem g230_10 : G d 230 10 ls st h Q ↔ GN d 230 10 ls h (ldR ls 0 fun a => nx 11 ls (.ref a :: st) h) Q := G_unf rfl rfl
theorem g230_11 : G d 230 11 ls st h Q ↔ GN d 230 11 ls h (ldI ls 1 fun x => nx 12 ls (.int x :: st) h) Q := G_unf rfl rfl
theorem g230_12 : G d 230 12 ls st h Q ↔ GN d 230 12 ls h (pA 1 st fun as r => pR r fun a r => ck (r.length ≤ 4 ∧ arr h a 9) (cll 229 (.ref a :: as) r)) Q := G_unf rfl rfl
theorem g230_15 : G d 230 15 ls st h Q ↔ GN d 230 15 ls h (pE st (rtn none)) Q := G_unf rfl rfl
theorem g231_0 : G d 231 0 ls st h Q ↔ GN d 231 0 ls h (nx 1 ls (.int (nI 0) :: st) h) Q := G_unf rfl rfl
theorem g231_1 : G d 231 1 ls st h Q ↔ GN d 231 1 ls h (pI st fun x r => ck (2 < ls.length) (nx 2 (st1 ls 2 (.int x)) r h)) Q := G_unf rfl rfl
theorem g231_2 : G d 231 2 ls st h Q ↔ GN d 231 2 ls h (ldI ls 1 fun x => nx 3 ls (.int x :: st) h) Q := G_unf rfl rfl
theorem g231_3 : G d 231 3 ls st h Q ↔ GN d 231 3 ls h (pI st fun x r => br (x.toInt = 0) (nx 68 ls r h) (br (x.toInt = 1) (nx 78 ls r h) (br (x.toInt = 2) (nx 88 ls r h) (br (x.toInt = 3) (nx 98 ls r h) (br (x.toInt = 4) (nx 108 ls r h) (br (x.toInt = 5) (nx 124 ls r h) (br (x.toInt = 6) (nx 130 ls r h) (br (x.toInt = 7) (nx 137 ls r h) (br (x.toInt = 8) (nx 148 ls r h) (br (x.toInt = 9) (nx 180 ls r h) (br (x.toInt = 10) (nx 212 ls r h) (br (x.toInt = 11) (nx 219 ls r h) (br (x.toInt = 12) (nx 224 ls r h) (nx 230 ls r h)))))))))))))) Q := G_unf rfl rfl
theorem g231_68 : G d 231 68 ls st h Q ↔ GN d 231 68 ls h (ldR ls 0 fun a => nx 69 ls (.ref a :: st) h) Q := G_unf rfl rfl
theorem g231_69 : G d 231 69 ls st h Q ↔ GN d 231 69 ls h (pR st fun a r => ck (arr h a 9) (nx 72 ls (rv (hR h a 14) :: r) h)) Q := G_unf rfl rfl
theorem g231_72 : G d 231 72 ls st h Q ↔ GN d 231 72 ls h (ldR ls 0 fun a => nx 73 ls (.ref a :: st) h) Q := G_unf rfl rfl
theorem g231_73 : G d 231 73 ls st h Q ↔ GN d 231 73 ls h (pR st fun a r => ck (arr h a 9) (nx 76 ls (.int (hI h a 13) :: r) h)) Q := G_unf rfl rfl
theorem g231_76 : G d 231 76 ls st h Q ↔ GN d 231 76 ls h (pRI st fun a i r => br (a = 1000003) (ck (inb i (hS h).1) (nx 77 ls (.int ((hS h).2 i.toNatClampNeg) :: r) h)) (ck (arr h a 10 ∧ inb i (hLn h a)) (nx 77 ls (.int (hI h a i.toNatClampNeg) :: r) h))) Q := G_unf rfl rfl
theorem g231_77 : G d 231 77 ls st h Q ↔ GN d 231 77 ls h (pIe st fun x => rtn (some (.int x))) Q := G_unf rfl rfl
theorem g231_78 : G d 231 78 ls st h Q ↔ GN d 231 78 ls h (ldR ls 0 fun a => nx 79 ls (.ref a :: st) h) Q := G_unf rfl rfl
theorem g231_79 : G d 231 79 ls st h Q ↔ GN d 231 79 ls h (pR st fun a r => ck (arr h a 9) (nx 82 ls (rv (hR h a 17) :: r) h)) Q := G_unf rfl rfl
theorem g231_82 : G d 231 82 ls st h Q ↔ GN d 231 82 ls h (ldR ls 0 fun a => nx 83 ls (.ref a :: st) h) Q := G_unf rfl rfl
theorem g231_83 : G d 231 83 ls st h Q ↔ GN d 231 83 ls h (pR st fun a r => ck (arr h a 9) (nx 86 ls (.int (hI h a 13) :: r) h)) Q := G_unf rfl rfl
theorem g231_86 : G d 231 86 ls st h Q ↔ GN d 231 86 ls h (pRI st fun a i r => br (a = 1000003) (ck (inb i (hS h).1) (nx 87 ls (.int ((hS h).2 i.toNatClampNeg) :: r) h)) (ck (arr h a 10 ∧ inb i (hLn h a)) (nx 87 ls (.int (hI h a i.toNatClampNeg) :: r) h))) Q := G_unf rfl rfl
theorem g231_87 : G d 231 87 ls st h Q ↔ GN d 231 87 ls h (pIe st fun x => rtn (some (.int x))) Q := G_unf rfl rfl
theorem g231_88 : G d 231 88 ls st h Q ↔ GN d 231 88 ls h (ldR ls 0 fun a => nx 89 ls (.ref a :: st) h) Q := G_unf rfl rfl
theorem g231_89 : G d 231 89 ls st h Q ↔ GN d 231 89 ls h (pR st fun a r => ck (arr h a 9) (nx 92 ls (rv (hR h a 20) :: r) h)) Q := G_unf rfl rfl
theorem g231_92 : G d 231 92 ls st h Q ↔ GN d 231 92 ls h (ldR ls 0 fun a => nx 93 ls (.ref a :: st) h) Q := G_unf rfl rfl
theorem g231_93 : G d 231 93 ls st h Q ↔ GN d 231 93 ls h (pR st fun a r => ck (arr h a 9) (nx 96 ls (.int (hI h a 13) :: r) h)) Q := G_unf rfl rfl
theorem g231_96 : G d 231 96 ls st h Q ↔ GN d 231 96 ls h (pRI st fun a i r => br (a = 1000003) (ck (inb i (hS h).1) (nx 97 ls (.int ((hS h).2 i.toNatClampNeg) :: r) h)) (ck (arr h a 10 ∧ inb i (hLn h a)) (nx 97 ls (.int (hI h a i.toNatClampNeg) :: r) h))) Q := G_unf rfl rfl
theorem g231_97 : G d 231 97 ls st h Q ↔ GN d 231 97 ls h (pIe st fun x => rtn (some (.int x))) Q := G_unf rfl rfl
theorem g231_98 : G d 231 98 ls st h Q ↔ GN d 231 98 ls h (ldR ls 0 fun a => nx 99 ls (.ref a :: st) h) Q := G_unf rfl rfl
theorem g231_99 : G d 231 99 ls st h Q ↔ GN d 231 99 ls h (pR st fun a r => ck (arr h a 9) (nx 102 ls (rv (hR h a 23) :: r) h)) Q := G_unf rfl rfl
theorem g231_102 : G d 231 102 ls st h Q ↔ GN d 231 102 ls h (ldR ls 0 fun a => nx 103 ls (.ref a :: st) h) Q := G_unf rfl rfl
theorem g231_103 : G d 231 103 ls st h Q ↔ GN d 231 103 ls h (pR st fun a r => ck (arr h a 9) (nx 106 ls (.int (hI h a 13) :: r) h)) Q := G_unf rfl rfl
theorem g231_106 : G d 231 106 ls st h Q ↔ GN d 231 106 ls h (pRI st fun a i r => br (a = 1000003) (ck (inb i (hS h).1) (nx 107 ls (.int ((hS h).2 i.toNatClampNeg) :: r) h)) (ck (arr h a 10 ∧ inb i (hLn h a)) (nx 107 ls (.int (hI h a i.toNatClampNeg) :: r) h))) Q := G_unf rfl rfl
theorem g231_107 : G d 231 107 ls st h Q ↔ GN d 231 107 ls h (pIe st fun x => rtn (some (.int x))) Q := G_unf rfl rfl
theorem g231_108 : G d 231 108 ls st h Q ↔ GN d 231 108 ls h (ldR ls 0 fun a => nx 109 ls (.ref a :: st) h) Q := G_unf rfl rfl
theorem g231_109 : G d 231 109 ls st h Q ↔ GN d 231 109 ls h (pR st fun a r => ck (arr h a 9) (nx 112 ls (rv (hR h a 29) :: r) h)) Q := G_unf rfl rfl
theorem g231_112 : G d 231 112 ls st h Q ↔ GN d 231 112 ls h (ldR ls 0 fun a => nx 113 ls (.ref a :: st) h) Q := G_unf rfl rfl
theorem g231_113 : G d 231 113 ls st h Q ↔ GN d 231 113 ls h (pR st fun a r => ck (arr h a 9) (nx 116 ls (.int (hI h a 13) :: r) h)) Q := G_unf rfl rfl
theorem g231_116 : G d 231 116 ls st h Q ↔ GN d 231 116 ls h (pRI st fun a i r => br (a = 1000003) (ck (inb i (hS h).1) (nx 117 ls (.int ((hS h).2 i.toNatClampNeg) :: r) h)) (ck (arr h a 10 ∧ inb i (hLn h a)) (nx 117 ls (.int (hI h a i.toNatClampNeg) :: r) h))) Q := G_unf rfl rfl
theorem g231_117 : G d 231 117 ls st h Q ↔ GN d 231 117 ls h (ldR ls 0 fun a => nx 118 ls (.ref a :: st) h) Q := G_unf rfl rfl
theorem g231_118 : G d 231 118 ls st h Q ↔ GN d 231 118 ls h (nx 119 ls (.int (nI 0) :: st) h) Q := G_unf rfl rfl
theorem g231_119 : G d 231 119 ls st h Q ↔ GN d 231 119 ls h (pA 1 st fun as r => pR r fun a r => ck (r.length ≤ 4 ∧ arr h a 9) (cll 214 (.ref a :: as) r)) Q := G_unf rfl rfl
theorem g231_122 : G d 231 122 ls st h Q ↔ GN d 231 122 ls h (pII st fun x y r => nx 123 ls (.int (x - y) :: r) h) Q := G_unf rfl rfl
theorem g231_123 : G d 231 123 ls st h Q ↔ GN d 231 123 ls h (pIe st fun x => rtn (some (.int x))) Q := G_unf rfl rfl
theorem g231_124 : G d 231 124 ls st h Q ↔ GN d 231 124 ls h (ldR ls 0 fun a => nx 125 ls (.ref a :: st) h) Q := G_unf rfl rfl
theorem g231_125 : G d 231 125 ls st h Q ↔ GN d 231 125 ls h (nx 126 ls (.int (nI 0) :: st) h) Q := G_unf rfl rfl
theorem g231_126 : G d 231 126 ls st h Q ↔ GN d 231 126 ls h (pA 1 st fun as r => pR r fun a r => ck (r.length ≤ 4 ∧ arr h a 9) (cll 214 (.ref a :: as) r)) Q := G_unf rfl rfl
theorem g231_129 : G d 231 129 ls st h Q ↔ GN d 231 129 ls h (pIe st fun x => rtn (some (.int x))) Q := G_unf rfl rfl
theorem g231_130 : G d 231 130 ls st h Q ↔ GN d 231 130 ls h (ldR ls 0 fun a => nx 131 ls (.ref a :: st) h) Q := G_unf rfl rfl
theorem g231_131 : G d 231 131 ls st h Q ↔ GN d 231 131 ls h (pR st fun a r => ck (arr h a 9) (nx 134 ls (rv (hR h a 51) :: r) h)) Q := G_unf rfl rfl
theorem g231_134 : G d 231 134 ls st h Q ↔ GN d 231 134 ls h (nx 135 ls (.int (nI 0) :: st) h) Q := G_unf rfl rfl
theorem g231_135 : G d 231 135 ls st h Q ↔ GN d 231 135 ls h (pRI st fun a i r => br (a = 1000003) (ck (inb i (hS h).1) (nx 136 ls (.int ((hS h).2 i.toNatClampNeg) :: r) h)) (ck (arr h a 10 ∧ inb i (hLn h a)) (nx 136 ls (.int (hI h a i.toNatClampNeg) :: r) h))) Q := G_unf rfl rfl
theorem g231_136 : G d 231 136 ls st h Q ↔ GN d 231 136 ls h (pIe st fun x => rtn (some (.int x))) Q := G_unf rfl rfl
theorem g231_137 : G d 231 137 ls st h Q ↔ GN d 231 137 ls h (ldR ls 0 fun a => nx 138 ls (.ref a :: st) h) Q := G_unf rfl rfl
theorem g231_138 : G d 231 138 ls st h Q ↔ GN d 231 138 ls h (ldR ls 0 fun a => nx 139 ls (.ref a :: st) h) Q := G_unf rfl rfl
theorem g231_139 : G d 231 139 ls st h Q ↔ GN d 231 139 ls h (pR st fun a r => ck (arr h a 9) (nx 142 ls (rv (hR h a 51) :: r) h)) Q := G_unf rfl rfl
theorem g231_142 : G d 231 142 ls st h Q ↔ GN d 231 142 ls h (nx 143 ls (.int (nI 0) :: st) h) Q := G_unf rfl rfl
theorem g231_143 : G d 231 143 ls st h Q ↔ GN d 231 143 ls h (pRI st fun a i r => br (a = 1000003) (ck (inb i (hS h).1) (nx 144 ls (.int ((hS h).2 i.toNatClampNeg) :: r) h)) (ck (arr h a 10 ∧ inb i (hLn h a)) (nx 144 ls (.int (hI h a i.toNatClampNeg) :: r) h))) Q := G_unf rfl rfl
theorem g231_144 : G d 231 144 ls st h Q ↔ GN d 231 144 ls h (pA 1 st fun as r => pR r fun a r => ck (r.length ≤ 4 ∧ arr h a 9) (cll 215 (.ref a :: as) r)) Q := G_unf rfl rfl
theorem g231_147 : G d 231 147 ls st h Q ↔ GN d 231 147 ls h (pIe st fun x => rtn (some (.int x))) Q := G_unf rfl rfl
theorem g231_148 : G d 231 148 ls st h Q ↔ GN d 231 148 ls h (nx 149 ls (.int (nI 0) :: st) h) Q := G_unf rfl rfl
theorem g231_149 : G d 231 149 ls st h Q ↔ GN d 231 149 ls h (pI st fun x r => ck (3 < ls.length) (nx 150 (st1 ls 3 (.int x)) r h)) Q := G_unf rfl rfl
theorem g231_150 : G d 231 150 ls st h Q ↔ GN d 231 150 ls h (ldI ls 3 fun x => nx 151 ls (.int x :: st) h) Q := G_unf rfl rfl
theorem g231_151 : G d 231 151 ls st h Q ↔ GN d 231 151 ls h (ldR ls 0 fun a => nx 152 ls (.ref a :: st) h) Q := G_unf rfl rfl
theorem g231_152 : G d 231 152 ls st h Q ↔ GN d 231 152 ls h (pR st fun a r => ck (arr h a 9) (nx 155 ls (rv (hR h a 20) :: r) h)) Q := G_unf rfl rfl
theorem g231_155 : G d 231 155 ls st h Q ↔ GN d 231 155 ls h (ldR ls 0 fun a => nx 156 ls (.ref a :: st) h) Q := G_unf rfl rfl
theorem g231_156 : G d 231 156 ls st h Q ↔ GN d 231 156 ls h (pR st fun a r => ck (arr h a 9) (nx 159 ls (.int (hI h a 13) :: r) h)) Q := G_unf rfl rfl
theorem g231_159 : G d 231 159 ls st h Q ↔ GN d 231 159 ls h (pRI st fun a i r => br (a = 1000003) (ck (inb i (hS h).1) (nx 160 ls (.int ((hS h).2 i.toNatClampNeg) :: r) h)) (ck (arr h a 10 ∧ inb i (hLn h a)) (nx 160 ls (.int (hI h a i.toNatClampNeg) :: r) h))) Q := G_unf rfl rfl
theorem g231_160 : G d 231 160 ls st h Q ↔ GN d 231 160 ls h (pII st fun x y r => br (y ≤ x) (nx 178 ls r h) (nx 163 ls r h)) Q := G_unf rfl rfl
theorem g231_163 : G d 231 163 ls st h Q ↔ GN d 231 163 ls h (ldI ls 2 fun x => nx 164 ls (.int x :: st) h) Q := G_unf rfl rfl
theorem g231_164 : G d 231 164 ls st h Q ↔ GN d 231 164 ls h (ldR ls 0 fun a => nx 165 ls (.ref a :: st) h) Q := G_unf rfl rfl
theorem g231_165 : G d 231 165 ls st h Q ↔ GN d 231 165 ls h (pR st fun a r => ck (arr h a 9) (nx 168 ls (rv (hR h a 53) :: r) h)) Q := G_unf rfl rfl
theorem g231_168 : G d 231 168 ls st h Q ↔ GN d 231 168 ls h (ldI ls 3 fun x => nx 169 ls (.int x :: st) h) Q := G_unf rfl rfl
theorem g231_169 : G d 231 169 ls st h Q ↔ GN d 231 169 ls h (pRI st fun a i r => br (a = 1000003) (ck (inb i (hS h).1) (nx 170 ls (.int ((hS h).2 i.toNatClampNeg) :: r) h)) (ck (arr h a 10 ∧ inb i (hLn h a)) (nx 170 ls (.int (hI h a i.toNatClampNeg) :: r) h))) Q := G_unf rfl rfl
theorem g231_170 : G d 231 170 ls st h Q ↔ GN d 231 170 ls h (pII st fun x y r => nx 171 ls (.int (x + y) :: r) h) Q := G_unf rfl rfl
theorem g231_171 : G d 231 171 ls st h Q ↔ GN d 231 171 ls h (pI st fun x r => ck (2 < ls.length) (nx 172 (st1 ls 2 (.int x)) r h)) Q := G_unf rfl rfl
theorem g231_172 : G d 231 172 ls st h Q ↔ GN d 231 172 ls h (ldI ls 3 fun x => nx 175 (st1 ls 3 (.int (x + (nI 1)))) st h) Q := G_unf rfl rfl
theorem g231_175 : G d 231 175 ls st h Q ↔ GN d 231 175 ls h (nx 150 ls st h) Q := G_unf rfl rfl
theorem g231_178 : G d 231 178 ls st h Q ↔ GN d 231 178 ls h (ldI ls 2 fun x => nx 179 ls (.int x :: st) h) Q := G_unf rfl rfl
theorem g231_179 : G d 231 179 ls st h Q ↔ GN d 231 179 ls h (pIe st fun x => rtn (some (.int x))) Q := G_unf rfl rfl
theorem g231_180 : G d 231 180 ls st h Q ↔ GN d 231 180 ls h (nx 181 ls (.int (nI 0) :: st) h) Q := G_unf rfl rfl
theorem g231_181 : G d 231 181 ls st h Q ↔ GN d 231 181 ls h (pI st fun x r => ck (3 < ls.length) (nx 182 (st1 ls 3 (.int x)) r h)) Q := G_unf rfl rfl
theorem g231_182 : G d 231 182 ls st h Q ↔ GN d 231 182 ls h (ldI ls 3 fun x => nx 183 ls (.int x :: st) h) Q := G_unf rfl rfl
theorem g231_183 : G d 231 183 ls st h Q ↔ GN d 231 183 ls h (ldR ls 0 fun a => nx 184 ls (.ref a :: st) h) Q := G_unf rfl rfl
theorem g231_184 : G d 231 184 ls st h Q ↔ GN d 231 184 ls h (pR st fun a r => ck (arr h a 9) (nx 187 ls (rv (hR h a 20) :: r) h)) Q := G_unf rfl rfl
theorem g231_187 : G d 231 187 ls st h Q ↔ GN d 231 187 ls h (ldR ls 0 fun a => nx 188 ls (.ref a :: st) h) Q := G_unf rfl rfl
theorem g231_188 : G d 231 188 ls st h Q ↔ GN d 231 188 ls h (pR st fun a r => ck (arr h a 9) (nx 191 ls (.int (hI h a 13) :: r) h)) Q := G_unf rfl rfl
set_option maxRecDepth 100000 in
theorem g231_191 : G d 231 191 ls st h Q ↔ GN d 231 191 ls h (pRI st fun a i r => br (a = 1000003) (ck (inb i (hS h).1) (nx 192 ls (.int ((hS h).2 i.toNatClampNeg) :: r) h)) (ck (arr h a 10 ∧ inb i (hLn h a)) (nx 192 ls (.int (hI h a i.toNatClampNeg) :: r) h))) Q := G_unf rfl rfl
set_option maxRecDepth 100000 in
theorem g231_192 : G d 231 192 ls st h Q ↔ GN d 231 192 ls h (pII st fun x y r => br (y ≤ x) (nx 210 ls r h) (nx 195 ls r h)) Q := G_unf rfl rfl
set_option maxRecDepth 100000 in
theorem g231_195 : G d 231 195 ls st h Q ↔ GN d 231 195 ls h (ldI ls 2 fun x => nx 196 ls (.int x :: st) h) Q := G_unf rfl rfl
set_option maxRecDepth 100000 in
theorem g231_196 : G d 231 196 ls st h Q ↔ GN d 231 196 ls h (ldR ls 0 fun a => nx 197 ls (.ref a :: st) h) Q := G_unf rfl rfl
set_option maxRecDepth 100000 in
theorem g231_197 : G d 231 197 ls st h Q ↔ GN d 231 197 ls h (nx 198 ls (.int (nI 0) :: st) h) Q := G_unf rfl rfl
set_option maxRecDepth 100000 in
theorem g231_198 : G d 231 198 ls st h Q ↔ GN d 231 198 ls h (ldI ls 3 fun x => nx 199 ls (.int x :: st) h) Q := G_unf rfl rfl
set_option maxRecDepth 100000 in
theorem g231_199 : G d 231 199 ls st h Q ↔ GN d 231 199 ls h (pA 2 st fun as r => pR r fun a r => ck (r.length ≤ 4 ∧ arr h a 9) (cll 217 (.ref a :: as) r)) Q := G_unf rfl rfl
set_option maxRecDepth 100000 in
theorem g231_202 : G d 231 202 ls st h Q ↔ GN d 231 202 ls h (pII st fun x y r => nx 203 ls (.int (x + y) :: r) h) Q := G_unf rfl rfl
set_option maxRecDepth 100000 in
theorem g231_203 : G d 231 203 ls st h Q ↔ GN d 231 203 ls h (pI st fun x r => ck (2 < ls.length) (nx 204 (st1 ls 2 (.int x)) r h)) Q := G_unf rfl rfl
set_option maxRecDepth 100000 in
theorem g231_204 : G d 231 204 ls st h Q ↔ GN d 231 204 ls h (ldI ls 3 fun x => nx 207 (st1 ls 3 (.int (x + (nI 1)))) st h) Q := G_unf rfl rfl
set_option maxRecDepth 100000 in
theorem g231_207 : G d 231 207 ls st h Q ↔ GN d 231 207 ls h (nx 182 ls st h) Q := G_unf rfl rfl
set_option maxRecDepth 100000 in
theorem g231_210 : G d 231 210 ls st h Q ↔ GN d 231 210 ls h (ldI ls 2 fun x => nx 211 ls (.int x :: st) h) Q := G_unf rfl rfl
set_option maxRecDepth 100000 in
theorem g231_211 : G d 231 211 ls st h Q ↔ GN d 231 211 ls h (pIe st fun x => rtn (some (.int x))) Q := G_unf rfl rfl
set_option maxRecDepth 100000 in
theorem g231_212 : G d 231 212 ls st h Q ↔ GN d 231 212 ls h (ldR ls 0 fun a => nx 213 ls (.ref a :: st) h) Q := G_unf rfl rfl
set_option maxRecDepth 100000 in
theorem g231_213 : G d 231 213 ls st h Q ↔ GN d 231 213 ls h (pR st fun a r => ck (arr h a 9) (nx 216 ls (rv (hR h a 55) :: r) h)) Q := G_unf rfl rfl
set_option maxRecDepth 100000 in
theorem g231_216 : G d 231 216 ls st h Q ↔ GN d 231 216 ls h (nx 217 ls (.int (nI 0) :: st) h) Q := G_unf rfl rfl
set_option maxRecDepth 100000 in
theorem g231_217 : G d 231 217 ls st h Q ↔ GN d 231 217 ls h (pRI st fun a i r => br (a = 1000003) (ck (inb i (hS h).1) (nx 218 ls (.int ((hS h).2 i.toNatClampNeg) :: r) h)) (ck (arr h a 10 ∧ inb i (hLn h a)) (nx 218 ls (.int (hI h a i.toNatClampNeg) :: r) h))) Q := G_unf rfl rfl
set_option maxRecDepth 100000 in
theorem g231_218 : G d 231 218 ls st h Q ↔ GN d 231 218 ls h (pIe st fun x => rtn (some (.int x))) Q := G_unf rfl rfl
set_option maxRecDepth 100000 in
theorem g231_219 : G d 231 219 ls st h Q ↔ GN d 231 219 ls h (ldR ls 0 fun a => nx 220 ls (.ref a :: st) h) Q := G_unf rfl rfl
set_option maxRecDepth 100000 in
theorem g231_220 : G d 231 220 ls st h Q ↔ GN d 231 220 ls h (pR st fun a r => ck (arr h a 9) (nx 223 ls (.int (hI h a 61) :: r) h)) Q := G_unf rfl rfl
set_option maxRecDepth 100000 in
theorem g231_223 : G d 231 223 ls st h Q ↔ GN d 231 223 ls h (pIe st fun x => rtn (some (.int x))) Q := G_unf rfl rfl
set_option maxRecDepth 100000 in
theorem g231_224 : G d 231 224 ls st h Q ↔ GN d 231 224 ls h (ldR ls 0 fun a => nx 225 ls (.ref a :: st) h) Q := G_unf rfl rfl
set_option maxRecDepth 100000 in
theorem g231_225 : G d 231 225 ls st h Q ↔ GN d 231 225 ls h (pR st fun a r => ck (arr h a 9) (nx 228 ls (.long (hL h a 62) :: r) h)) Q := G_unf rfl rfl
set_option maxRecDepth 100000 in
theorem g231_228 : G d 231 228 ls st h Q ↔ GN d 231 228 ls h (pJ st fun x r => nx 229 ls (.int x.toInt32 :: r) h) Q := G_unf rfl rfl
set_option maxRecDepth 100000 in
theorem g231_229 : G d 231 229 ls st h Q ↔ GN d 231 229 ls h (pIe st fun x => rtn (some (.int x))) Q := G_unf rfl rfl
set_option maxRecDepth 100000 in
theorem g231_230 : G d 231 230 ls st h Q ↔ GN d 231 230 ls h (nx 231 ls (.int (-1) :: st) h) Q := G_unf rfl rfl
set_option maxRecDepth 100000 in
theorem g231_231 : G d 231 231 ls st h Q ↔ GN d 231 231 ls h (pIe st fun x => rtn (some (.int x))) Q := G_unf rfl rfl
theorem g232_0 : G d 232 0 ls st h Q ↔ GN d 232 0 ls h (ldI ls 1 fun x => nx 1 ls (.int x :: st) h) Q := G_unf rfl rfl
theorem g232_1 : G d 232 1 ls st h Q ↔ GN d 232 1 ls h (nx 2 ls (.int (nI 0) :: st) h) Q := G_unf rfl rfl
theorem g232_2 : G d 232 2 ls st h Q ↔ GN d 232 2 ls h (nx 3 ls (.int (nI 1) :: st) h) Q := G_unf rfl rfl
theorem g232_3 : G d 232 3 ls st h Q ↔ GN d 232 3 ls h (pA 3 st fun as r => ck (r.length ≤ 4) (cll 156 as r)) Q := G_unf rfl rfl
theorem g232_6 : G d 232 6 ls st h Q ↔ GN d 232 6 ls h (pI st fun x r => br (x = 0) (nx 37 ls r h) (nx 9 ls r h)) Q := G_unf rfl rfl
theorem g232_9 : G d 232 9 ls st h Q ↔ GN d 232 9 ls h (ldI ls 2 fun x => nx 10 ls (.int x :: st) h) Q := G_unf rfl rfl
theorem g232_10 : G d 232 10 ls st h Q ↔ GN d 232 10 ls h (nx 11 ls (.int (nI 0) :: st) h) Q := G_unf rfl rfl
theorem g232_11 : G d 232 11 ls st h Q ↔ GN d 232 11 ls h (ldR ls 0 fun a => nx 12 ls (.ref a :: st) h) Q := G_unf rfl rfl
theorem g232_12 : G d 232 12 ls st h Q ↔ GN d 232 12 ls h (ldR ls 0 fun a => nx 13 ls (.ref a :: st) h) Q := G_unf rfl rfl
theorem g232_13 : G d 232 13 ls st h Q ↔ GN d 232 13 ls h (pR st fun a r => ck (arr h a 9) (nx 16 ls (.int (hI h a 13) :: r) h)) Q := G_unf rfl rfl
theorem g232_16 : G d 232 16 ls st h Q ↔ GN d 232 16 ls h (ldI ls 1 fun x => nx 17 ls (.int x :: st) h) Q := G_unf rfl rfl
theorem g232_17 : G d 232 17 ls st h Q ↔ GN d 232 17 ls h (pA 2 st fun as r => pR r fun a r => ck (r.length ≤ 4 ∧ arr h a 9) (cll 169 (.ref a :: as) r)) Q := G_unf rfl rfl
theorem g232_20 : G d 232 20 ls st h Q ↔ GN d 232 20 ls h (nx 21 ls (.int (nI 1) :: st) h) Q := G_unf rfl rfl
theorem g232_21 : G d 232 21 ls st h Q ↔ GN d 232 21 ls h (pII st fun x y r => nx 22 ls (.int (x - y) :: r) h) Q := G_unf rfl rfl
theorem g232_22 : G d 232 22 ls st h Q ↔ GN d 232 22 ls h (pA 3 st fun as r => ck (r.length ≤ 4) (cll 156 as r)) Q := G_unf rfl rfl
theorem g232_25 : G d 232 25 ls st h Q ↔ GN d 232 25 ls h (pI st fun x r => br (x = 0) (nx 37 ls r h) (nx 28 ls r h)) Q := G_unf rfl rfl
theorem g232_28 : G d 232 28 ls st h Q ↔ GN d 232 28 ls h (ldI ls 3 fun x => nx 29 ls (.int x :: st) h) Q := G_unf rfl rfl
theorem g232_29 : G d 232 29 ls st h Q ↔ GN d 232 29 ls h (nx 30 ls (.int (nI 0) :: st) h) Q := G_unf rfl rfl
theorem g232_30 : G d 232 30 ls st h Q ↔ GN d 232 30 ls h (nx 31 ls (.int (nI 5) :: st) h) Q := G_unf rfl rfl
theorem g232_31 : G d 232 31 ls st h Q ↔ GN d 232 31 ls h (pA 3 st fun as r => ck (r.length ≤ 4) (cll 156 as r)) Q := G_unf rfl rfl
theorem g232_34 : G d 232 34 ls st h Q ↔ GN d 232 34 ls h (pI st fun x r => br (¬ x = 0) (nx 39 ls r h) (nx 37 ls r h)) Q := G_unf rfl rfl
theorem g232_37 : G d 232 37 ls st h Q ↔ GN d 232 37 ls h (nx 38 ls (.int (-1) :: st) h) Q := G_unf rfl rfl
theorem g232_38 : G d 232 38 ls st h Q ↔ GN d 232 38 ls h (pIe st fun x => rtn (some (.int x))) Q := G_unf rfl rfl
theorem g232_39 : G d 232 39 ls st h Q ↔ GN d 232 39 ls h (ldR ls 0 fun a => nx 40 ls (.ref a :: st) h) Q := G_unf rfl rfl
theorem g232_40 : G d 232 40 ls st h Q ↔ GN d 232 40 ls h (ldR ls 0 fun a => nx 41 ls (.ref a :: st) h) Q := G_unf rfl rfl
theorem g232_41 : G d 232 41 ls st h Q ↔ GN d 232 41 ls h (pR st fun a r => ck (arr h a 9) (nx 44 ls (.int (hI h a 13) :: r) h)) Q := G_unf rfl rfl
theorem g232_44 : G d 232 44 ls st h Q ↔ GN d 232 44 ls h (ldI ls 1 fun x => nx 45 ls (.int x :: st) h) Q := G_unf rfl rfl
theorem g232_45 : G d 232 45 ls st h Q ↔ GN d 232 45 ls h (ldI ls 2 fun x => nx 46 ls (.int x :: st) h) Q := G_unf rfl rfl
theorem g232_46 : G d 232 46 ls st h Q ↔ GN d 232 46 ls h (pA 3 st fun as r => pR r fun a r => ck (r.length ≤ 4 ∧ arr h a 9) (cll 170 (.ref a :: as) r)) Q := G_unf rfl rfl
theorem g232_49 : G d 232 49 ls st h Q ↔ GN d 232 49 ls h (pJ st fun x r => ck (5 < ls.length) (nx 51 (st2 ls 4 (.long x)) r h)) Q := G_unf rfl rfl
theorem g232_51 : G d 232 51 ls st h Q ↔ GN d 232 51 ls h (nx 52 ls (.int (nI 0) :: st) h) Q := G_unf rfl rfl
theorem g232_52 : G d 232 52 ls st h Q ↔ GN d 232 52 ls h (pI st fun x r => ck (6 < ls.length) (nx 54 (st1 ls 6 (.int x)) r h)) Q := G_unf rfl rfl
theorem g232_54 : G d 232 54 ls st h Q ↔ GN d 232 54 ls h (ldJ ls 4 fun x => nx 56 ls (.long x :: st) h) Q := G_unf rfl rfl
theorem g232_56 : G d 232 56 ls st h Q ↔ GN d 232 56 ls h (pJ st fun x r => ck (8 < ls.length) (nx 58 (st2 ls 7 (.long x)) r h)) Q := G_unf rfl rfl
theorem g232_58 : G d 232 58 ls st h Q ↔ GN d 232 58 ls h (ldJ ls 7 fun x => nx 60 ls (.long x :: st) h) Q := G_unf rfl rfl
theorem g232_60 : G d 232 60 ls st h Q ↔ GN d 232 60 ls h (nx 61 ls (.long (lN 0) :: st) h) Q := G_unf rfl rfl
theorem g232_61 : G d 232 61 ls st h Q ↔ GN d 232 61 ls h (pJJ st fun x y r => nx 62 ls (.int (lg_cmp x y) :: r) h) Q := G_unf rfl rfl
theorem g232_62 : G d 232 62 ls st h Q ↔ GN d 232 62 ls h (pI st fun x r => br (x ≤ 0) (nx 78 ls r h) (nx 65 ls r h)) Q := G_unf rfl rfl
theorem g232_65 : G d 232 65 ls st h Q ↔ GN d 232 65 ls h (ldI ls 6 fun x => nx 68 (st1 ls 6 (.int (x + (nI 1)))) st h) Q := G_unf rfl rfl
theorem g232_68 : G d 232 68 ls st h Q ↔ GN d 232 68 ls h (ldJ ls 7 fun x => nx 70 ls (.long x :: st) h) Q := G_unf rfl rfl
theorem g232_70 : G d 232 70 ls st h Q ↔ GN d 232 70 ls h (nx 72 ls (.int (nI 8) :: st) h) Q := G_unf rfl rfl
theorem g232_72 : G d 232 72 ls st h Q ↔ GN d 232 72 ls h (pJI st fun x y r => nx 73 ls (.long (x >>> (y.toInt64 &&& 63)) :: r) h) Q := G_unf rfl rfl
theorem g232_73 : G d 232 73 ls st h Q ↔ GN d 232 73 ls h (pJ st fun x r => ck (8 < ls.length) (nx 75 (st2 ls 7 (.long x)) r h)) Q := G_unf rfl rfl
theorem g232_75 : G d 232 75 ls st h Q ↔ GN d 232 75 ls h (nx 58 ls st h) Q := G_unf rfl rfl
theorem g232_78 : G d 232 78 ls st h Q ↔ GN d 232 78 ls h (ldI ls 3 fun x => nx 79 ls (.int x :: st) h) Q := G_unf rfl rfl
theorem g232_79 : G d 232 79 ls st h Q ↔ GN d 232 79 ls h (ldI ls 6 fun x => nx 81 ls (.int x :: st) h) Q := G_unf rfl rfl
theorem g232_81 : G d 232 81 ls st h Q ↔ GN d 232 81 ls h (pII st fun x y r => br (x < y) (nx 88 ls r h) (nx 84 ls r h)) Q := G_unf rfl rfl
theorem g232_84 : G d 232 84 ls st h Q ↔ GN d 232 84 ls h (nx 85 ls (.int (nI 0) :: st) h) Q := G_unf rfl rfl
theorem g232_85 : G d 232 85 ls st h Q ↔ GN d 232 85 ls h (nx 110 ls st h) Q := G_unf rfl rfl
theorem g232_88 : G d 232 88 ls st h Q ↔ GN d 232 88 ls h (ldJ ls 4 fun x => nx 90 ls (.long x :: st) h) Q := G_unf rfl rfl
theorem g232_90 : G d 232 90 ls st h Q ↔ GN d 232 90 ls h (nx 92 ls (.int (nI 8) :: st) h) Q := G_unf rfl rfl
theorem g232_92 : G d 232 92 ls st h Q ↔ GN d 232 92 ls h (ldI ls 6 fun x => nx 94 ls (.int x :: st) h) Q := G_unf rfl rfl
theorem g232_94 : G d 232 94 ls st h Q ↔ GN d 232 94 ls h (nx 95 ls (.int (nI 1) :: st) h) Q := G_unf rfl rfl
theorem g232_95 : G d 232 95 ls st h Q ↔ GN d 232 95 ls h (pII st fun x y r => nx 96 ls (.int (x - y) :: r) h) Q := G_unf rfl rfl
theorem g232_96 : G d 232 96 ls st h Q ↔ GN d 232 96 ls h (ldI ls 3 fun x => nx 97 ls (.int x :: st) h) Q := G_unf rfl rfl
theorem g232_97 : G d 232 97 ls st h Q ↔ GN d 232 97 ls h (pII st fun x y r => nx 98 ls (.int (x - y) :: r) h) Q := G_unf rfl rfl
theorem g232_98 : G d 232 98 ls st h Q ↔ GN d 232 98 ls h (pII st fun x y r => nx 99 ls (.int (x * y) :: r) h) Q := G_unf rfl rfl
theorem g232_99 : G d 232 99 ls st h Q ↔ GN d 232 99 ls h (pJI st fun x y r => nx 100 ls (.long (x >>> (y.toInt64 &&& 63)) :: r) h) Q := G_unf rfl rfl
theorem g232_100 : G d 232 100 ls st h Q ↔ GN d 232 100 ls h (nx 103 ls (.long (lN 255) :: st) h) Q := G_unf rfl rfl
theorem g232_103 : G d 232 103 ls st h Q ↔ GN d 232 103 ls h (pJJ st fun x y r => nx 104 ls (.long (x &&& y) :: r) h) Q := G_unf rfl rfl
theorem g232_104 : G d 232 104 ls st h Q ↔ GN d 232 104 ls h (pJ st fun x r => nx 105 ls (.int x.toInt32 :: r) h) Q := G_unf rfl rfl
theorem g232_105 : G d 232 105 ls st h Q ↔ GN d 232 105 ls h (nx 107 ls (.int (nI 97) :: st) h) Q := G_unf rfl rfl
theorem g232_107 : G d 232 107 ls st h Q ↔ GN d 232 107 ls h (pII st fun x y r => nx 108 ls (.int (x - y) :: r) h) Q := G_unf rfl rfl
theorem g232_108 : G d 232 108 ls st h Q ↔ GN d 232 108 ls h (nx 109 ls (.int (nI 1) :: st) h) Q := G_unf rfl rfl
theorem g232_109 : G d 232 109 ls st h Q ↔ GN d 232 109 ls h (pII st fun x y r => nx 110 ls (.int (x + y) :: r) h) Q := G_unf rfl rfl
theorem g232_110 : G d 232 110 ls st h Q ↔ GN d 232 110 ls h (pIe st fun x => rtn (some (.int x))) Q := G_unf rfl rfl
theorem g233_0 : G d 233 0 ls st h Q ↔ GN d 233 0 ls h (ldR ls 0 fun a => nx 1 ls (.ref a :: st) h) Q := G_unf rfl rfl
theorem g233_1 : G d 233 1 ls st h Q ↔ GN d 233 1 ls h (ldI ls 1 fun x => nx 2 ls (.int x :: st) h) Q := G_unf rfl rfl
theorem g233_2 : G d 233 2 ls st h Q ↔ GN d 233 2 ls h (pA 1 st fun as r => pR r fun a r => ck (r.length ≤ 4 ∧ arr h a 9) (cll 202 (.ref a :: as) r)) Q := G_unf rfl rfl
theorem g233_5 : G d 233 5 ls st h Q ↔ GN d 233 5 ls h (pI st fun x r => br (¬ x = 0) (nx 10 ls r h) (nx 8 ls r h)) Q := G_unf rfl rfl
theorem g233_8 : G d 233 8 ls st h Q ↔ GN d 233 8 ls h (nx 9 ls (.int (-1) :: st) h) Q := G_unf rfl rfl
theorem g233_9 : G d 233 9 ls st h Q ↔ GN d 233 9 ls h (pIe st fun x => rtn (some (.int x))) Q := G_unf rfl rfl
theorem g233_10 : G d 233 10 ls st h Q ↔ GN d 233 10 ls h (nx 11 ls (.int (nI 0) :: st) h) Q := G_unf rfl rfl
theorem g233_11 : G d 233 11 ls st h Q ↔ GN d 233 11 ls h (pI st fun x r => ck (3 < ls.length) (nx 12 (st1 ls 3 (.int x)) r h)) Q := G_unf rfl rfl
theorem g233_12 : G d 233 12 ls st h Q ↔ GN d 233 12 ls h (ldI ls 2 fun x => nx 13 ls (.int x :: st) h) Q := G_unf rfl rfl
theorem g233_13 : G d 233 13 ls st h Q ↔ GN d 233 13 ls h (pI st fun x r => br (x.toInt = 0) (nx 52 ls r h) (br (x.toInt = 1) (nx 67 ls r h) (br (x.toInt = 2) (nx 82 ls r h) (br (x.toInt = 3) (nx 129 ls r h) (br (x.toInt = 4) (nx 173 ls r h) (br (x.toInt = 5) (nx 225 ls r h) (nx 296 ls r h))))))) Q := G_unf rfl rfl
theorem g233_52 : G d 233 52 ls st h Q ↔ GN d 233 52 ls h (ldR ls 0 fun a => nx 53 ls (.ref a :: st) h) Q := G_unf rfl rfl
theorem g233_53 : G d 233 53 ls st h Q ↔ GN d 233 53 ls h (pR st fun a r => ck (arr h a 9) (nx 56 ls (rv (hR h a 15) :: r) h)) Q := G_unf rfl rfl
theorem g233_56 : G d 233 56 ls st h Q ↔ GN d 233 56 ls h (nx 58 ls (.int (nI 12) :: st) h) Q := G_unf rfl rfl
theorem g233_58 : G d 233 58 ls st h Q ↔ GN d 233 58 ls h (ldR ls 0 fun a => nx 59 ls (.ref a :: st) h) Q := G_unf rfl rfl
theorem g233_59 : G d 233 59 ls st h Q ↔ GN d 233 59 ls h (pR st fun a r => ck (arr h a 9) (nx 62 ls (.int (hI h a 13) :: r) h)) Q := G_unf rfl rfl
theorem g233_62 : G d 233 62 ls st h Q ↔ GN d 233 62 ls h (pII st fun x y r => nx 63 ls (.int (x * y) :: r) h) Q := G_unf rfl rfl
theorem g233_63 : G d 233 63 ls st h Q ↔ GN d 233 63 ls h (ldI ls 1 fun x => nx 64 ls (.int x :: st) h) Q := G_unf rfl rfl
theorem g233_64 : G d 233 64 ls st h Q ↔ GN d 233 64 ls h (pII st fun x y r => nx 65 ls (.int (x + y) :: r) h) Q := G_unf rfl rfl
theorem g233_65 : G d 233 65 ls st h Q ↔ GN d 233 65 ls h (pRI st fun a i r => br (a = 1000003) (ck (inb i (hS h).1) (nx 66 ls (.int ((hS h).2 i.toNatClampNeg) :: r) h)) (ck (arr h a 10 ∧ inb i (hLn h a)) (nx 66 ls (.int (hI h a i.toNatClampNeg) :: r) h))) Q := G_unf rfl rfl
theorem g233_66 : G d 233 66 ls st h Q ↔ GN d 233 66 ls h (pIe st fun x => rtn (some (.int x))) Q := G_unf rfl rfl
theorem g233_67 : G d 233 67 ls st h Q ↔ GN d 233 67 ls h (ldR ls 0 fun a => nx 68 ls (.ref a :: st) h) Q := G_unf rfl rfl
theorem g233_68 : G d 233 68 ls st h Q ↔ GN d 233 68 ls h (pR st fun a r => ck (arr h a 9) (nx 71 ls (rv (hR h a 16) :: r) h)) Q := G_unf rfl rfl
theorem g233_71 : G d 233 71 ls st h Q ↔ GN d 233 71 ls h (nx 73 ls (.int (nI 12) :: st) h) Q := G_unf rfl rfl
theorem g233_73 : G d 233 73 ls st h Q ↔ GN d 233 73 ls h (ldR ls 0 fun a => nx 74 ls (.ref a :: st) h) Q := G_unf rfl rfl
theorem g233_74 : G d 233 74 ls st h Q ↔ GN d 233 74 ls h (pR st fun a r => ck (arr h a 9) (nx 77 ls (.int (hI h a 13) :: r) h)) Q := G_unf rfl rfl
theorem g233_77 : G d 233 77 ls st h Q ↔ GN d 233 77 ls h (pII st fun x y r => nx 78 ls (.int (x * y) :: r) h) Q := G_unf rfl rfl
theorem g233_78 : G d 233 78 ls st h Q ↔ GN d 233 78 ls h (ldI ls 1 fun x => nx 79 ls (.int x :: st) h) Q := G_unf rfl rfl
theorem g233_79 : G d 233 79 ls st h Q ↔ GN d 233 79 ls h (pII st fun x y r => nx 80 ls (.int (x + y) :: r) h) Q := G_unf rfl rfl
theorem g233_80 : G d 233 80 ls st h Q ↔ GN d 233 80 ls h (pRI st fun a i r => br (a = 1000003) (ck (inb i (hS h).1) (nx 81 ls (.int ((hS h).2 i.toNatClampNeg) :: r) h)) (ck (arr h a 10 ∧ inb i (hLn h a)) (nx 81 ls (.int (hI h a i.toNatClampNeg) :: r) h))) Q := G_unf rfl rfl
theorem g233_81 : G d 233 81 ls st h Q ↔ GN d 233 81 ls h (pIe st fun x => rtn (some (.int x))) Q := G_unf rfl rfl
theorem g233_82 : G d 233 82 ls st h Q ↔ GN d 233 82 ls h (nx 83 ls (.int (nI 0) :: st) h) Q := G_unf rfl rfl
theorem g233_83 : G d 233 83 ls st h Q ↔ GN d 233 83 ls h (pI st fun x r => ck (4 < ls.length) (nx 85 (st1 ls 4 (.int x)) r h)) Q := G_unf rfl rfl
theorem g233_85 : G d 233 85 ls st h Q ↔ GN d 233 85 ls h (ldI ls 4 fun x => nx 87 ls (.int x :: st) h) Q := G_unf rfl rfl
theorem g233_87 : G d 233 87 ls st h Q ↔ GN d 233 87 ls h (ldR ls 0 fun a => nx 88 ls (.ref a :: st) h) Q := G_unf rfl rfl
theorem g233_88 : G d 233 88 ls st h Q ↔ GN d 233 88 ls h (pR st fun a r => ck (arr h a 9) (nx 91 ls (rv (hR h a 20) :: r) h)) Q := G_unf rfl rfl
theorem g233_91 : G d 233 91 ls st h Q ↔ GN d 233 91 ls h (ldR ls 0 fun a => nx 92 ls (.ref a :: st) h) Q := G_unf rfl rfl
theorem g233_92 : G d 233 92 ls st h Q ↔ GN d 233 92 ls h (pR st fun a r => ck (arr h a 9) (nx 95 ls (.int (hI h a 13) :: r) h)) Q := G_unf rfl rfl
theorem g233_95 : G d 233 95 ls st h Q ↔ GN d 233 95 ls h (pRI st fun a i r => br (a = 1000003) (ck (inb i (hS h).1) (nx 96 ls (.int ((hS h).2 i.toNatClampNeg) :: r) h)) (ck (arr h a 10 ∧ inb i (hLn h a)) (nx 96 ls (.int (hI h a i.toNatClampNeg) :: r) h))) Q := G_unf rfl rfl
theorem g233_96 : G d 233 96 ls st h Q ↔ GN d 233 96 ls h (pII st fun x y r => br (y ≤ x) (nx 127 ls r h) (nx 99 ls r h)) Q := G_unf rfl rfl
theorem g233_99 : G d 233 99 ls st h Q ↔ GN d 233 99 ls h (ldI ls 3 fun x => nx 100 ls (.int x :: st) h) Q := G_unf rfl rfl
theorem g233_100 : G d 233 100 ls st h Q ↔ GN d 233 100 ls h (ldR ls 0 fun a => nx 101 ls (.ref a :: st) h) Q := G_unf rfl rfl
theorem g233_101 : G d 233 101 ls st h Q ↔ GN d 233 101 ls h (pR st fun a r => ck (arr h a 9) (nx 104 ls (rv (hR h a 52) :: r) h)) Q := G_unf rfl rfl
theorem g233_104 : G d 233 104 ls st h Q ↔ GN d 233 104 ls h (ldI ls 4 fun x => nx 106 ls (.int x :: st) h) Q := G_unf rfl rfl
theorem g233_106 : G d 233 106 ls st h Q ↔ GN d 233 106 ls h (pRI st fun a i r => br (a = 1000003) (ck (inb i (hS h).1) (nx 107 ls (.int ((hS h).2 i.toNatClampNeg) :: r) h)) (ck (arr h a 10 ∧ inb i (hLn h a)) (nx 107 ls (.int (hI h a i.toNatClampNeg) :: r) h))) Q := G_unf rfl rfl
theorem g233_107 : G d 233 107 ls st h Q ↔ GN d 233 107 ls h (ldI ls 1 fun x => nx 108 ls (.int x :: st) h) Q := G_unf rfl rfl
theorem g233_108 : G d 233 108 ls st h Q ↔ GN d 233 108 ls h (pA 2 st fun as r => ck (r.length ≤ 4) (cll 205 as r)) Q := G_unf rfl rfl
theorem g233_111 : G d 233 111 ls st h Q ↔ GN d 233 111 ls h (pI st fun x r => br (x = 0) (nx 118 ls r h) (nx 114 ls r h)) Q := G_unf rfl rfl
theorem g233_114 : G d 233 114 ls st h Q ↔ GN d 233 114 ls h (nx 115 ls (.int (nI 1) :: st) h) Q := G_unf rfl rfl
theorem g233_115 : G d 233 115 ls st h Q ↔ GN d 233 115 ls h (nx 119 ls st h) Q := G_unf rfl rfl
theorem g233_118 : G d 233 118 ls st h Q ↔ GN d 233 118 ls h (nx 119 ls (.int (nI 0) :: st) h) Q := G_unf rfl rfl
theorem g233_119 : G d 233 119 ls st h Q ↔ GN d 233 119 ls h (pII st fun x y r => nx 120 ls (.int (x + y) :: r) h) Q := G_unf rfl rfl
theorem g233_120 : G d 233 120 ls st h Q ↔ GN d 233 120 ls h (pI st fun x r => ck (3 < ls.length) (nx 121 (st1 ls 3 (.int x)) r h)) Q := G_unf rfl rfl
theorem g233_121 : G d 233 121 ls st h Q ↔ GN d 233 121 ls h (ldI ls 4 fun x => nx 124 (st1 ls 4 (.int (x + (nI 1)))) st h) Q := G_unf rfl rfl
theorem g233_124 : G d 233 124 ls st h Q ↔ GN d 233 124 ls h (nx 85 ls st h) Q := G_unf rfl rfl
theorem g233_127 : G d 233 127 ls st h Q ↔ GN d 233 127 ls h (ldI ls 3 fun x => nx 128 ls (.int x :: st) h) Q := G_unf rfl rfl
theorem g233_128 : G d 233 128 ls st h Q ↔ GN d 233 128 ls h (pIe st fun x => rtn (some (.int x))) Q := G_unf rfl rfl
theorem g233_129 : G d 233 129 ls st h Q ↔ GN d 233 129 ls h (nx 130 ls (.int (nI 0) :: st) h) Q := G_unf rfl rfl
theorem g233_130 : G d 233 130 ls st h Q ↔ GN d 233 130 ls h (pI st fun x r => ck (4 < ls.length) (nx 132 (st1 ls 4 (.int x)) r h)) Q := G_unf rfl rfl
theorem g233_132 : G d 233 132 ls st h Q ↔ GN d 233 132 ls h (ldI ls 4 fun x => nx 134 ls (.int x :: st) h) Q := G_unf rfl rfl
theorem g233_134 : G d 233 134 ls st h Q ↔ GN d 233 134 ls h (ldR ls 0 fun a => nx 135 ls (.ref a :: st) h) Q := G_unf rfl rfl
theorem g233_135 : G d 233 135 ls st h Q ↔ GN d 233 135 ls h (pR st fun a r => ck (arr h a 9) (nx 138 ls (rv (hR h a 20) :: r) h)) Q := G_unf rfl rfl
theorem g233_138 : G d 233 138 ls st h Q ↔ GN d 233 138 ls h (ldR ls 0 fun a => nx 139 ls (.ref a :: st) h) Q := G_unf rfl rfl
theorem g233_139 : G d 233 139 ls st h Q ↔ GN d 233 139 ls h (pR st fun a r => ck (arr h a 9) (nx 142 ls (.int (hI h a 13) :: r) h)) Q := G_unf rfl rfl
theorem g233_142 : G d 233 142 ls st h Q ↔ GN d 233 142 ls h (pRI st fun a i r => br (a = 1000003) (ck (inb i (hS h).1) (nx 143 ls (.int ((hS h).2 i.toNatClampNeg) :: r) h)) (ck (arr h a 10 ∧ inb i (hLn h a)) (nx 143 ls (.int (hI h a i.toNatClampNeg) :: r) h))) Q := G_unf rfl rfl
theorem g233_143 : G d 233 143 ls st h Q ↔ GN d 233 143 ls h (pII st fun x y r => br (y ≤ x) (nx 171 ls r h) (nx 146 ls r h)) Q := G_unf rfl rfl
theorem g233_146 : G d 233 146 ls st h Q ↔ GN d 233 146 ls h (ldI ls 3 fun x => nx 147 ls (.int x :: st) h) Q := G_unf rfl rfl
theorem g233_147 : G d 233 147 ls st h Q ↔ GN d 233 147 ls h (ldR ls 0 fun a => nx 148 ls (.ref a :: st) h) Q := G_unf rfl rfl
theorem g233_148 : G d 233 148 ls st h Q ↔ GN d 233 148 ls h (nx 149 ls (.int (nI 0) :: st) h) Q := G_unf rfl rfl
theorem g233_149 : G d 233 149 ls st h Q ↔ GN d 233 149 ls h (ldI ls 4 fun x => nx 151 ls (.int x :: st) h) Q := G_unf rfl rfl
theorem g233_151 : G d 233 151 ls st h Q ↔ GN d 233 151 ls h (ldI ls 1 fun x => nx 152 ls (.int x :: st) h) Q := G_unf rfl rfl
theorem g233_152 : G d 233 152 ls st h Q ↔ GN d 233 152 ls h (pA 3 st fun as r => pR r fun a r => ck (r.length ≤ 4 ∧ arr h a 9) (cll 212 (.ref a :: as) r)) Q := G_unf rfl rfl
theorem g233_155 : G d 233 155 ls st h Q ↔ GN d 233 155 ls h (pI st fun x r => br (x = 0) (nx 162 ls r h) (nx 158 ls r h)) Q := G_unf rfl rfl
theorem g233_158 : G d 233 158 ls st h Q ↔ GN d 233 158 ls h (nx 159 ls (.int (nI 1) :: st) h) Q := G_unf rfl rfl
theorem g233_159 : G d 233 159 ls st h Q ↔ GN d 233 159 ls h (nx 163 ls st h) Q := G_unf rfl rfl
theorem g233_162 : G d 233 162 ls st h Q ↔ GN d 233 162 ls h (nx 163 ls (.int (nI 0) :: st) h) Q := G_unf rfl rfl
theorem g233_163 : G d 233 163 ls st h Q ↔ GN d 233 163 ls h (pII st fun x y r => nx 164 ls (.int (x + y) :: r) h) Q := G_unf rfl rfl
theorem g233_164 : G d 233 164 ls st h Q ↔ GN d 233 164 ls h (pI st fun x r => ck (3 < ls.length) (nx 165 (st1 ls 3 (.int x)) r h)) Q := G_unf rfl rfl
theorem g233_165 : G d 233 165 ls st h Q ↔ GN d 233 165 ls h (ldI ls 4 fun x => nx 168 (st1 ls 4 (.int (x + (nI 1)))) st h) Q := G_unf rfl rfl
theorem g233_168 : G d 233 168 ls st h Q ↔ GN d 233 168 ls h (nx 132 ls st h) Q := G_unf rfl rfl
theorem g233_171 : G d 233 171 ls st h Q ↔ GN d 233 171 ls h (ldI ls 3 fun x => nx 172 ls (.int x :: st) h) Q := G_unf rfl rfl
theorem g233_172 : G d 233 172 ls st h Q ↔ GN d 233 172 ls h (pIe st fun x => rtn (some (.int x))) Q := G_unf rfl rfl
set_option maxRecDepth 100000 in
theorem g233_173 : G d 233 173 ls st h Q ↔ GN d 233 173 ls h (nx 174 ls (.int (nI 0) :: st) h) Q := G_unf rfl rfl
set_option maxRecDepth 100000 in
theorem g233_174 : G d 233 174 ls st h Q ↔ GN d 233 174 ls h (pI st fun x r => ck (4 < ls.length) (nx 176 (st1 ls 4 (.int x)) r h)) Q := G_unf rfl rfl
set_option maxRecDepth 100000 in
theorem g233_176 : G d 233 176 ls st h Q ↔ GN d 233 176 ls h (ldI ls 4 fun x => nx 178 ls (.int x :: st) h) Q := G_unf rfl rfl
set_option maxRecDepth 100000 in
theorem g233_178 : G d 233 178 ls st h Q ↔ GN d 233 178 ls h (ldR ls 0 fun a => nx 179 ls (.ref a :: st) h) Q := G_unf rfl rfl
set_option maxRecDepth 100000 in
theorem g233_179 : G d 233 179 ls st h Q ↔ GN d 233 179 ls h (pR st fun a r => ck (arr h a 9) (nx 182 ls (rv (hR h a 17) :: r) h)) Q := G_unf rfl rfl
set_option maxRecDepth 100000 in
theorem g233_182 : G d 233 182 ls st h Q ↔ GN d 233 182 ls h (ldR ls 0 fun a => nx 183 ls (.ref a :: st) h) Q := G_unf rfl rfl
set_option maxRecDepth 100000 in
theorem g233_183 : G d 233 183 ls st h Q ↔ GN d 233 183 ls h (pR st fun a r => ck (arr h a 9) (nx 186 ls (.int (hI h a 13) :: r) h)) Q := G_unf rfl rfl
set_option maxRecDepth 100000 in
theorem g233_186 : G d 233 186 ls st h Q ↔ GN d 233 186 ls h (pRI st fun a i r => br (a = 1000003) (ck (inb i (hS h).1) (nx 187 ls (.int ((hS h).2 i.toNatClampNeg) :: r) h)) (ck (arr h a 10 ∧ inb i (hLn h a)) (nx 187 ls (.int (hI h a i.toNatClampNeg) :: r) h))) Q := G_unf rfl rfl
set_option maxRecDepth 100000 in
theorem g233_187 : G d 233 187 ls st h Q ↔ GN d 233 187 ls h (pII st fun x y r => br (y ≤ x) (nx 223 ls r h) (nx 190 ls r h)) Q := G_unf rfl rfl
set_option maxRecDepth 100000 in
theorem g233_190 : G d 233 190 ls st h Q ↔ GN d 233 190 ls h (ldI ls 3 fun x => nx 191 ls (.int x :: st) h) Q := G_unf rfl rfl
set_option maxRecDepth 100000 in
theorem g233_191 : G d 233 191 ls st h Q ↔ GN d 233 191 ls h (ldR ls 0 fun a => nx 192 ls (.ref a :: st) h) Q := G_unf rfl rfl
set_option maxRecDepth 100000 in
theorem g233_192 : G d 233 192 ls st h Q ↔ GN d 233 192 ls h (pR st fun a r => ck (arr h a 9) (nx 195 ls (rv (hR h a 18) :: r) h)) Q := G_unf rfl rfl
set_option maxRecDepth 100000 in
theorem g233_195 : G d 233 195 ls st h Q ↔ GN d 233 195 ls h (nx 197 ls (.int (nI 16) :: st) h) Q := G_unf rfl rfl
set_option maxRecDepth 100000 in
theorem g233_197 : G d 233 197 ls st h Q ↔ GN d 233 197 ls h (ldR ls 0 fun a => nx 198 ls (.ref a :: st) h) Q := G_unf rfl rfl
set_option maxRecDepth 100000 in
theorem g233_198 : G d 233 198 ls st h Q ↔ GN d 233 198 ls h (pR st fun a r => ck (arr h a 9) (nx 201 ls (.int (hI h a 13) :: r) h)) Q := G_unf rfl rfl
set_option maxRecDepth 100000 in
theorem g233_201 : G d 233 201 ls st h Q ↔ GN d 233 201 ls h (pII st fun x y r => nx 202 ls (.int (x * y) :: r) h) Q := G_unf rfl rfl
set_option maxRecDepth 100000 in
theorem g233_202 : G d 233 202 ls st h Q ↔ GN d 233 202 ls h (ldI ls 4 fun x => nx 204 ls (.int x :: st) h) Q := G_unf rfl rfl
set_option maxRecDepth 100000 in
theorem g233_204 : G d 233 204 ls st h Q ↔ GN d 233 204 ls h (pII st fun x y r => nx 205 ls (.int (x + y) :: r) h) Q := G_unf rfl rfl
set_option maxRecDepth 100000 in
theorem g233_205 : G d 233 205 ls st h Q ↔ GN d 233 205 ls h (pRI st fun a i r => br (a = 1000003) (ck (inb i (hS h).1) (nx 206 ls (.int ((hS h).2 i.toNatClampNeg) :: r) h)) (ck (arr h a 10 ∧ inb i (hLn h a)) (nx 206 ls (.int (hI h a i.toNatClampNeg) :: r) h))) Q := G_unf rfl rfl
set_option maxRecDepth 100000 in
theorem g233_206 : G d 233 206 ls st h Q ↔ GN d 233 206 ls h (ldI ls 1 fun x => nx 207 ls (.int x :: st) h) Q := G_unf rfl rfl
set_option maxRecDepth 100000 in
theorem g233_207 : G d 233 207 ls st h Q ↔ GN d 233 207 ls h (pII st fun x y r => br (¬ x = y) (nx 214 ls r h) (nx 210 ls r h)) Q := G_unf rfl rfl
set_option maxRecDepth 100000 in
theorem g233_210 : G d 233 210 ls st h Q ↔ GN d 233 210 ls h (nx 211 ls (.int (nI 1) :: st) h) Q := G_unf rfl rfl
set_option maxRecDepth 100000 in
theorem g233_211 : G d 233 211 ls st h Q ↔ GN d 233 211 ls h (nx 215 ls st h) Q := G_unf rfl rfl
set_option maxRecDepth 100000 in
theorem g233_214 : G d 233 214 ls st h Q ↔ GN d 233 214 ls h (nx 215 ls (.int (nI 0) :: st) h) Q := G_unf rfl rfl
set_option maxRecDepth 100000 in
theorem g233_215 : G d 233 215 ls st h Q ↔ GN d 233 215 ls h (pII st fun x y r => nx 216 ls (.int (x + y) :: r) h) Q := G_unf rfl rfl
set_option maxRecDepth 100000 in
theorem g233_216 : G d 233 216 ls st h Q ↔ GN d 233 216 ls h (pI st fun x r => ck (3 < ls.length) (nx 217 (st1 ls 3 (.int x)) r h)) Q := G_unf rfl rfl
set_option maxRecDepth 100000 in
theorem g233_217 : G d 233 217 ls st h Q ↔ GN d 233 217 ls h (ldI ls 4 fun x => nx 220 (st1 ls 4 (.int (x + (nI 1)))) st h) Q := G_unf rfl rfl
set_option maxRecDepth 100000 in
theorem g233_220 : G d 233 220 ls st h Q ↔ GN d 233 220 ls h (nx 176 ls st h) Q := G_unf rfl rfl
set_option maxRecDepth 100000 in
theorem g233_223 : G d 233 223 ls st h Q ↔ GN d 233 223 ls h (ldI ls 3 fun x => nx 224 ls (.int x :: st) h) Q := G_unf rfl rfl
set_option maxRecDepth 100000 in
theorem g233_224 : G d 233 224 ls st h Q ↔ GN d 233 224 ls h (pIe st fun x => rtn (some (.int x))) Q := G_unf rfl rfl
set_option maxRecDepth 100000 in
theorem g233_225 : G d 233 225 ls st h Q ↔ GN d 233 225 ls h (nx 226 ls (.int (nI 0) :: st) h) Q := G_unf rfl rfl
set_option maxRecDepth 100000 in
theorem g233_226 : G d 233 226 ls st h Q ↔ GN d 233 226 ls h (pI st fun x r => ck (4 < ls.length) (nx 228 (st1 ls 4 (.int x)) r h)) Q := G_unf rfl rfl
set_option maxRecDepth 100000 in
theorem g233_228 : G d 233 228 ls st h Q ↔ GN d 233 228 ls h (ldI ls 4 fun x => nx 230 ls (.int x :: st) h) Q := G_unf rfl rfl
set_option maxRecDepth 100000 in
theorem g233_230 : G d 233 230 ls st h Q ↔ GN d 233 230 ls h (ldR ls 0 fun a => nx 231 ls (.ref a :: st) h) Q := G_unf rfl rfl
set_option maxRecDepth 100000 in
theorem g233_231 : G d 233 231 ls st h Q ↔ GN d 233 231 ls h (pR st fun a r => ck (arr h a 9) (nx 234 ls (rv (hR h a 17) :: r) h)) Q := G_unf rfl rfl
set_option maxRecDepth 100000 in
theorem g233_234 : G d 233 234 ls st h Q ↔ GN d 233 234 ls h (ldR ls 0 fun a => nx 235 ls (.ref a :: st) h) Q := G_unf rfl rfl
set_option maxRecDepth 100000 in
theorem g233_235 : G d 233 235 ls st h Q ↔ GN d 233 235 ls h (pR st fun a r => ck (arr h a 9) (nx 238 ls (.int (hI h a 13) :: r) h)) Q := G_unf rfl rfl
set_option maxRecDepth 100000 in
theorem g233_238 : G d 233 238 ls st h Q ↔ GN d 233 238 ls h (pRI st fun a i r => br (a = 1000003) (ck (inb i (hS h).1) (nx 239 ls (.int ((hS h).2 i.toNatClampNeg) :: r) h)) (ck (arr h a 10 ∧ inb i (hLn h a)) (nx 239 ls (.int (hI h a i.toNatClampNeg) :: r) h))) Q := G_unf rfl rfl
set_option maxRecDepth 100000 in
theorem g233_239 : G d 233 239 ls st h Q ↔ GN d 233 239 ls h (pII st fun x y r => br (y ≤ x) (nx 294 ls r h) (nx 242 ls r h)) Q := G_unf rfl rfl
set_option maxRecDepth 100000 in
theorem g233_242 : G d 233 242 ls st h Q ↔ GN d 233 242 ls h (ldI ls 3 fun x => nx 243 ls (.int x :: st) h) Q := G_unf rfl rfl
set_option maxRecDepth 100000 in
theorem g233_243 : G d 233 243 ls st h Q ↔ GN d 233 243 ls h (ldR ls 0 fun a => nx 244 ls (.ref a :: st) h) Q := G_unf rfl rfl
set_option maxRecDepth 100000 in
theorem g233_244 : G d 233 244 ls st h Q ↔ GN d 233 244 ls h (pR st fun a r => ck (arr h a 9) (nx 247 ls (rv (hR h a 19) :: r) h)) Q := G_unf rfl rfl
set_option maxRecDepth 100000 in
theorem g233_247 : G d 233 247 ls st h Q ↔ GN d 233 247 ls h (nx 249 ls (.int (nI 16) :: st) h) Q := G_unf rfl rfl
set_option maxRecDepth 100000 in
theorem g233_249 : G d 233 249 ls st h Q ↔ GN d 233 249 ls h (ldR ls 0 fun a => nx 250 ls (.ref a :: st) h) Q := G_unf rfl rfl
set_option maxRecDepth 100000 in
theorem g233_250 : G d 233 250 ls st h Q ↔ GN d 233 250 ls h (pR st fun a r => ck (arr h a 9) (nx 253 ls (.int (hI h a 13) :: r) h)) Q := G_unf rfl rfl
set_option maxRecDepth 100000 in
theorem g233_253 : G d 233 253 ls st h Q ↔ GN d 233 253 ls h (pII st fun x y r => nx 254 ls (.int (x * y) :: r) h) Q := G_unf rfl rfl
set_option maxRecDepth 100000 in
theorem g233_254 : G d 233 254 ls st h Q ↔ GN d 233 254 ls h (ldI ls 4 fun x => nx 256 ls (.int x :: st) h) Q := G_unf rfl rfl
set_option maxRecDepth 100000 in
theorem g233_256 : G d 233 256 ls st h Q ↔ GN d 233 256 ls h (pII st fun x y r => nx 257 ls (.int (x + y) :: r) h) Q := G_unf rfl rfl
set_option maxRecDepth 100000 in
theorem g233_257 : G d 233 257 ls st h Q ↔ GN d 233 257 ls h (pRI st fun a i r => br (a = 1000003) (ck (inb i (hS h).1) (nx 258 ls (.int ((hS h).2 i.toNatClampNeg) :: r) h)) (ck (arr h a 10 ∧ inb i (hLn h a)) (nx 258 ls (.int (hI h a i.toNatClampNeg) :: r) h))) Q := G_unf rfl rfl
set_option maxRecDepth 100000 in
theorem g233_258 : G d 233 258 ls st h Q ↔ GN d 233 258 ls h (ldI ls 1 fun x => nx 259 ls (.int x :: st) h) Q := G_unf rfl rfl
set_option maxRecDepth 100000 in
theorem g233_259 : G d 233 259 ls st h Q ↔ GN d 233 259 ls h (pA 2 st fun as r => ck (r.length ≤ 4) (cll 205 as r)) Q := G_unf rfl rfl
set_option maxRecDepth 100000 in
theorem g233_262 : G d 233 262 ls st h Q ↔ GN d 233 262 ls h (pI st fun x r => br (x = 0) (nx 285 ls r h) (nx 265 ls r h)) Q := G_unf rfl rfl
set_option maxRecDepth 100000 in
theorem g233_265 : G d 233 265 ls st h Q ↔ GN d 233 265 ls h (nx 266 ls (.int (nI 1) :: st) h) Q := G_unf rfl rfl
set_option maxRecDepth 100000 in
theorem g233_266 : G d 233 266 ls st h Q ↔ GN d 233 266 ls h (ldR ls 0 fun a => nx 267 ls (.ref a :: st) h) Q := G_unf rfl rfl
set_option maxRecDepth 100000 in
theorem g233_267 : G d 233 267 ls st h Q ↔ GN d 233 267 ls h (pR st fun a r => ck (arr h a 9) (nx 270 ls (rv (hR h a 18) :: r) h)) Q := G_unf rfl rfl
set_option maxRecDepth 100000 in
theorem g233_270 : G d 233 270 ls st h Q ↔ GN d 233 270 ls h (nx 272 ls (.int (nI 16) :: st) h) Q := G_unf rfl rfl
set_option maxRecDepth 100000 in
theorem g233_272 : G d 233 272 ls st h Q ↔ GN d 233 272 ls h (ldR ls 0 fun a => nx 273 ls (.ref a :: st) h) Q := G_unf rfl rfl
set_option maxRecDepth 100000 in
theorem g233_273 : G d 233 273 ls st h Q ↔ GN d 233 273 ls h (pR st fun a r => ck (arr h a 9) (nx 276 ls (.int (hI h a 13) :: r) h)) Q := G_unf rfl rfl
set_option maxRecDepth 100000 in
theorem g233_276 : G d 233 276 ls st h Q ↔ GN d 233 276 ls h (pII st fun x y r => nx 277 ls (.int (x * y) :: r) h) Q := G_unf rfl rfl
set_option maxRecDepth 100000 in
theorem g233_277 : G d 233 277 ls st h Q ↔ GN d 233 277 ls h (ldI ls 4 fun x => nx 279 ls (.int x :: st) h) Q := G_unf rfl rfl
set_option maxRecDepth 100000 in
theorem g233_279 : G d 233 279 ls st h Q ↔ GN d 233 279 ls h (pII st fun x y r => nx 280 ls (.int (x + y) :: r) h) Q := G_unf rfl rfl
set_option maxRecDepth 100000 in
theorem g233_280 : G d 233 280 ls st h Q ↔ GN d 233 280 ls h (pRI st fun a i r => br (a = 1000003) (ck (inb i (hS h).1) (nx 281 ls (.int ((hS h).2 i.toNatClampNeg) :: r) h)) (ck (arr h a 10 ∧ inb i (hLn h a)) (nx 281 ls (.int (hI h a i.toNatClampNeg) :: r) h))) Q := G_unf rfl rfl
set_option maxRecDepth 100000 in
theorem g233_281 : G d 233 281 ls st h Q ↔ GN d 233 281 ls h (pII st fun x y r => nx 282 ls (.int (x <<< (y &&& 31)) :: r) h) Q := G_unf rfl rfl
set_option maxRecDepth 100000 in
theorem g233_282 : G d 233 282 ls st h Q ↔ GN d 233 282 ls h (nx 286 ls st h) Q := G_unf rfl rfl
set_option maxRecDepth 100000 in
theorem g233_285 : G d 233 285 ls st h Q ↔ GN d 233 285 ls h (nx 286 ls (.int (nI 0) :: st) h) Q := G_unf rfl rfl
set_option maxRecDepth 100000 in
theorem g233_286 : G d 233 286 ls st h Q ↔ GN d 233 286 ls h (pII st fun x y r => nx 287 ls (.int (x ||| y) :: r) h) Q := G_unf rfl rfl
set_option maxRecDepth 100000 in
theorem g233_287 : G d 233 287 ls st h Q ↔ GN d 233 287 ls h (pI st fun x r => ck (3 < ls.length) (nx 288 (st1 ls 3 (.int x)) r h)) Q := G_unf rfl rfl
set_option maxRecDepth 100000 in
theorem g233_288 : G d 233 288 ls st h Q ↔ GN d 233 288 ls h (ldI ls 4 fun x => nx 291 (st1 ls 4 (.int (x + (nI 1)))) st h) Q := G_unf rfl rfl
set_option maxRecDepth 100000 in
theorem g233_291 : G d 233 291 ls st h Q ↔ GN d 233 291 ls h (nx 228 ls st h) Q := G_unf rfl rfl
set_option maxRecDepth 100000 in
theorem g233_294 : G d 233 294 ls st h Q ↔ GN d 233 294 ls h (ldI ls 3 fun x => nx 295 ls (.int x :: st) h) Q := G_unf rfl rfl
set_option maxRecDepth 100000 in
theorem g233_295 : G d 233 295 ls st h Q ↔ GN d 233 295 ls h (pIe st fun x => rtn (some (.int x))) Q := G_unf rfl rfl
set_option maxRecDepth 100000 in
theorem g233_296 : G d 233 296 ls st h Q ↔ GN d 233 296 ls h (nx 297 ls (.int (-1) :: st) h) Q := G_unf rfl rfl
set_option maxRecDepth 100000 in
theorem g233_297 : G d 233 297 ls st h Q ↔ GN d 233 297 ls h (pIe st fun x => rtn (some (.int x))) Q := G_unf rfl rfl
theorem g234_0 : G d 234 0 ls st h Q ↔ GN d 234 0 ls h (ldI ls 1 fun x => nx 1 ls (.int x :: st) h) Q := G_unf rfl rfl
theorem g234_1 : G d 234 1 ls st h Q ↔ GN d 234 1 ls h (nx 2 ls (.int (nI 0) :: st) h) Q := G_unf rfl rfl
theorem g234_2 : G d 234 2 ls st h Q ↔ GN d 234 2 ls h (ldR ls 0 fun a => nx 3 ls (.ref a :: st) h) Q := G_unf rfl rfl
theorem g234_3 : G d 234 3 ls st h Q ↔ GN d 234 3 ls h (pR st fun a r => ck (arr h a 9) (nx 6 ls (rv (hR h a 17) :: r) h)) Q := G_unf rfl rfl
theorem g234_6 : G d 234 6 ls st h Q ↔ GN d 234 6 ls h (ldR ls 0 fun a => nx 7 ls (.ref a :: st) h) Q := G_unf rfl rfl
theorem g234_7 : G d 234 7 ls st h Q ↔ GN d 234 7 ls h (pR st fun a r => ck (arr h a 9) (nx 10 ls (.int (hI h a 13) :: r) h)) Q := G_unf rfl rfl
theorem g234_10 : G d 234 10 ls st h Q ↔ GN d 234 10 ls h (pRI st fun a i r => br (a = 1000003) (ck (inb i (hS h).1) (nx 11 ls (.int ((hS h).2 i.toNatClampNeg) :: r) h)) (ck (arr h a 10 ∧ inb i (hLn h a)) (nx 11 ls (.int (hI h a i.toNatClampNeg) :: r) h))) Q := G_unf rfl rfl
theorem g234_11 : G d 234 11 ls st h Q ↔ GN d 234 11 ls h (nx 12 ls (.int (nI 1) :: st) h) Q := G_unf rfl rfl
theorem g234_12 : G d 234 12 ls st h Q ↔ GN d 234 12 ls h (pII st fun x y r => nx 13 ls (.int (x - y) :: r) h) Q := G_unf rfl rfl
theorem g234_13 : G d 234 13 ls st h Q ↔ GN d 234 13 ls h (pA 3 st fun as r => ck (r.length ≤ 4) (cll 156 as r)) Q := G_unf rfl rfl
theorem g234_16 : G d 234 16 ls st h Q ↔ GN d 234 16 ls h (pI st fun x r => br (¬ x = 0) (nx 23 ls r h) (nx 19 ls r h)) Q := G_unf rfl rfl
theorem g234_19 : G d 234 19 ls st h Q ↔ GN d 234 19 ls h (nx 20 ls (.int (-1) :: st) h) Q := G_unf rfl rfl
theorem g234_20 : G d 234 20 ls st h Q ↔ GN d 234 20 ls h (nx 67 ls st h) Q := G_unf rfl rfl
theorem g234_23 : G d 234 23 ls st h Q ↔ GN d 234 23 ls h (ldI ls 2 fun x => nx 24 ls (.int x :: st) h) Q := G_unf rfl rfl
theorem g234_24 : G d 234 24 ls st h Q ↔ GN d 234 24 ls h (pI st fun x r => br (¬ x = 0) (nx 44 ls r h) (nx 27 ls r h)) Q := G_unf rfl rfl
theorem g234_27 : G d 234 27 ls st h Q ↔ GN d 234 27 ls h (ldR ls 0 fun a => nx 28 ls (.ref a :: st) h) Q := G_unf rfl rfl
theorem g234_28 : G d 234 28 ls st h Q ↔ GN d 234 28 ls h (pR st fun a r => ck (arr h a 9) (nx 31 ls (rv (hR h a 18) :: r) h)) Q := G_unf rfl rfl
theorem g234_31 : G d 234 31 ls st h Q ↔ GN d 234 31 ls h (nx 33 ls (.int (nI 16) :: st) h) Q := G_unf rfl rfl
theorem g234_33 : G d 234 33 ls st h Q ↔ GN d 234 33 ls h (ldR ls 0 fun a => nx 34 ls (.ref a :: st) h) Q := G_unf rfl rfl
theorem g234_34 : G d 234 34 ls st h Q ↔ GN d 234 34 ls h (pR st fun a r => ck (arr h a 9) (nx 37 ls (.int (hI h a 13) :: r) h)) Q := G_unf rfl rfl
theorem g234_37 : G d 234 37 ls st h Q ↔ GN d 234 37 ls h (pII st fun x y r => nx 38 ls (.int (x * y) :: r) h) Q := G_unf rfl rfl
theorem g234_38 : G d 234 38 ls st h Q ↔ GN d 234 38 ls h (ldI ls 1 fun x => nx 39 ls (.int x :: st) h) Q := G_unf rfl rfl
theorem g234_39 : G d 234 39 ls st h Q ↔ GN d 234 39 ls h (pII st fun x y r => nx 40 ls (.int (x + y) :: r) h) Q := G_unf rfl rfl
theorem g234_40 : G d 234 40 ls st h Q ↔ GN d 234 40 ls h (pRI st fun a i r => br (a = 1000003) (ck (inb i (hS h).1) (nx 41 ls (.int ((hS h).2 i.toNatClampNeg) :: r) h)) (ck (arr h a 10 ∧ inb i (hLn h a)) (nx 41 ls (.int (hI h a i.toNatClampNeg) :: r) h))) Q := G_unf rfl rfl
theorem g234_41 : G d 234 41 ls st h Q ↔ GN d 234 41 ls h (nx 67 ls st h) Q := G_unf rfl rfl
theorem g234_44 : G d 234 44 ls st h Q ↔ GN d 234 44 ls h (ldI ls 2 fun x => nx 45 ls (.int x :: st) h) Q := G_unf rfl rfl
theorem g234_45 : G d 234 45 ls st h Q ↔ GN d 234 45 ls h (nx 46 ls (.int (nI 1) :: st) h) Q := G_unf rfl rfl
theorem g234_46 : G d 234 46 ls st h Q ↔ GN d 234 46 ls h (pII st fun x y r => br (¬ x = y) (nx 66 ls r h) (nx 49 ls r h)) Q := G_unf rfl rfl
theorem g234_49 : G d 234 49 ls st h Q ↔ GN d 234 49 ls h (ldR ls 0 fun a => nx 50 ls (.ref a :: st) h) Q := G_unf rfl rfl
theorem g234_50 : G d 234 50 ls st h Q ↔ GN d 234 50 ls h (pR st fun a r => ck (arr h a 9) (nx 53 ls (rv (hR h a 19) :: r) h)) Q := G_unf rfl rfl
theorem g234_53 : G d 234 53 ls st h Q ↔ GN d 234 53 ls h (nx 55 ls (.int (nI 16) :: st) h) Q := G_unf rfl rfl
theorem g234_55 : G d 234 55 ls st h Q ↔ GN d 234 55 ls h (ldR ls 0 fun a => nx 56 ls (.ref a :: st) h) Q := G_unf rfl rfl
theorem g234_56 : G d 234 56 ls st h Q ↔ GN d 234 56 ls h (pR st fun a r => ck (arr h a 9) (nx 59 ls (.int (hI h a 13) :: r) h)) Q := G_unf rfl rfl
theorem g234_59 : G d 234 59 ls st h Q ↔ GN d 234 59 ls h (pII st fun x y r => nx 60 ls (.int (x * y) :: r) h) Q := G_unf rfl rfl
theorem g234_60 : G d 234 60 ls st h Q ↔ GN d 234 60 ls h (ldI ls 1 fun x => nx 61 ls (.int x :: st) h) Q := G_unf rfl rfl
theorem g234_61 : G d 234 61 ls st h Q ↔ GN d 234 61 ls h (pII st fun x y r => nx 62 ls (.int (x + y) :: r) h) Q := G_unf rfl rfl
theorem g234_62 : G d 234 62 ls st h Q ↔ GN d 234 62 ls h (pRI st fun a i r => br (a = 1000003) (ck (inb i (hS h).1) (nx 63 ls (.int ((hS h).2 i.toNatClampNeg) :: r) h)) (ck (arr h a 10 ∧ inb i (hLn h a)) (nx 63 ls (.int (hI h a i.toNatClampNeg) :: r) h))) Q := G_unf rfl rfl
theorem g234_63 : G d 234 63 ls st h Q ↔ GN d 234 63 ls h (nx 67 ls st h) Q := G_unf rfl rfl
theorem g234_66 : G d 234 66 ls st h Q ↔ GN d 234 66 ls h (nx 67 ls (.int (-1) :: st) h) Q := G_unf rfl rfl
theorem g234_67 : G d 234 67 ls st h Q ↔ GN d 234 67 ls h (pIe st fun x => rtn (some (.int x))) Q := G_unf rfl rfl
theorem g235_0 : G d 235 0 ls st h Q ↔ GN d 235 0 ls h (ldR ls 0 fun a => nx 1 ls (.ref a :: st) h) Q := G_unf rfl rfl
theorem g235_1 : G d 235 1 ls st h Q ↔ GN d 235 1 ls h (ldI ls 1 fun x => nx 2 ls (.int x :: st) h) Q := G_unf rfl rfl
theorem g235_2 : G d 235 2 ls st h Q ↔ GN d 235 2 ls h (pA 1 st fun as r => pR r fun a r => ck (r.length ≤ 4 ∧ arr h a 9) (cll 203 (.ref a :: as) r)) Q := G_unf rfl rfl
theorem g235_5 : G d 235 5 ls st h Q ↔ GN d 235 5 ls h (pI st fun x r => br (¬ x = 0) (nx 10 ls r h) (nx 8 ls r h)) Q := G_unf rfl rfl
theorem g235_8 : G d 235 8 ls st h Q ↔ GN d 235 8 ls h (nx 9 ls (.int (-1) :: st) h) Q := G_unf rfl rfl
theorem g235_9 : G d 235 9 ls st h Q ↔ GN d 235 9 ls h (pIe st fun x => rtn (some (.int x))) Q := G_unf rfl rfl
theorem g235_10 : G d 235 10 ls st h Q ↔ GN d 235 10 ls h (nx 11 ls (.int (nI 0) :: st) h) Q := G_unf rfl rfl
theorem g235_11 : G d 235 11 ls st h Q ↔ GN d 235 11 ls h (pI st fun x r => ck (3 < ls.length) (nx 12 (st1 ls 3 (.int x)) r h)) Q := G_unf rfl rfl
theorem g235_12 : G d 235 12 ls st h Q ↔ GN d 235 12 ls h (ldI ls 2 fun x => nx 13 ls (.int x :: st) h) Q := G_unf rfl rfl
theorem g235_13 : G d 235 13 ls st h Q ↔ GN d 235 13 ls h (pI st fun x r => br (x.toInt = 0) (nx 52 ls r h) (br (x.toInt = 1) (nx 67 ls r h) (br (x.toInt = 2) (nx 74 ls r h) (br (x.toInt = 3) (nx 81 ls r h) (br (x.toInt = 4) (nx 88 ls r h) (br (x.toInt = 5) (nx 95 ls r h) (nx 136 ls r h))))))) Q := G_unf rfl rfl
theorem g235_52 : G d 235 52 ls st h Q ↔ GN d 235 52 ls h (ldR ls 0 fun a => nx 53 ls (.ref a :: st) h) Q := G_unf rfl rfl
theorem g235_53 : G d 235 53 ls st h Q ↔ GN d 235 53 ls h (pR st fun a r => ck (arr h a 9) (nx 56 ls (rv (hR h a 21) :: r) h)) Q := G_unf rfl rfl
theorem g235_56 : G d 235 56 ls st h Q ↔ GN d 235 56 ls h (nx 58 ls (.int (nI 8) :: st) h) Q := G_unf rfl rfl
theorem g235_58 : G d 235 58 ls st h Q ↔ GN d 235 58 ls h (ldR ls 0 fun a => nx 59 ls (.ref a :: st) h) Q := G_unf rfl rfl
theorem g235_59 : G d 235 59 ls st h Q ↔ GN d 235 59 ls h (pR st fun a r => ck (arr h a 9) (nx 62 ls (.int (hI h a 13) :: r) h)) Q := G_unf rfl rfl
theorem g235_62 : G d 235 62 ls st h Q ↔ GN d 235 62 ls h (pII st fun x y r => nx 63 ls (.int (x * y) :: r) h) Q := G_unf rfl rfl
theorem g235_63 : G d 235 63 ls st h Q ↔ GN d 235 63 ls h (ldI ls 1 fun x => nx 64 ls (.int x :: st) h) Q := G_unf rfl rfl
theorem g235_64 : G d 235 64 ls st h Q ↔ GN d 235 64 ls h (pII st fun x y r => nx 65 ls (.int (x + y) :: r) h) Q := G_unf rfl rfl
theorem g235_65 : G d 235 65 ls st h Q ↔ GN d 235 65 ls h (pRI st fun a i r => br (a = 1000003) (ck (inb i (hS h).1) (nx 66 ls (.int ((hS h).2 i.toNatClampNeg) :: r) h)) (ck (arr h a 10 ∧ inb i (hLn h a)) (nx 66 ls (.int (hI h a i.toNatClampNeg) :: r) h))) Q := G_unf rfl rfl
theorem g235_66 : G d 235 66 ls st h Q ↔ GN d 235 66 ls h (pIe st fun x => rtn (some (.int x))) Q := G_unf rfl rfl
theorem g235_67 : G d 235 67 ls st h Q ↔ GN d 235 67 ls h (ldR ls 0 fun a => nx 68 ls (.ref a :: st) h) Q := G_unf rfl rfl
theorem g235_68 : G d 235 68 ls st h Q ↔ GN d 235 68 ls h (pR st fun a r => ck (arr h a 9) (nx 71 ls (rv (hR h a 53) :: r) h)) Q := G_unf rfl rfl
theorem g235_71 : G d 235 71 ls st h Q ↔ GN d 235 71 ls h (ldI ls 1 fun x => nx 72 ls (.int x :: st) h) Q := G_unf rfl rfl
theorem g235_72 : G d 235 72 ls st h Q ↔ GN d 235 72 ls h (pRI st fun a i r => br (a = 1000003) (ck (inb i (hS h).1) (nx 73 ls (.int ((hS h).2 i.toNatClampNeg) :: r) h)) (ck (arr h a 10 ∧ inb i (hLn h a)) (nx 73 ls (.int (hI h a i.toNatClampNeg) :: r) h))) Q := G_unf rfl rfl
theorem g235_73 : G d 235 73 ls st h Q ↔ GN d 235 73 ls h (pIe st fun x => rtn (some (.int x))) Q := G_unf rfl rfl
theorem g235_74 : G d 235 74 ls st h Q ↔ GN d 235 74 ls h (ldR ls 0 fun a => nx 75 ls (.ref a :: st) h) Q := G_unf rfl rfl
theorem g235_75 : G d 235 75 ls st h Q ↔ GN d 235 75 ls h (pR st fun a r => ck (arr h a 9) (nx 78 ls (rv (hR h a 52) :: r) h)) Q := G_unf rfl rfl
theorem g235_78 : G d 235 78 ls st h Q ↔ GN d 235 78 ls h (ldI ls 1 fun x => nx 79 ls (.int x :: st) h) Q := G_unf rfl rfl
theorem g235_79 : G d 235 79 ls st h Q ↔ GN d 235 79 ls h (pRI st fun a i r => br (a = 1000003) (ck (inb i (hS h).1) (nx 80 ls (.int ((hS h).2 i.toNatClampNeg) :: r) h)) (ck (arr h a 10 ∧ inb i (hLn h a)) (nx 80 ls (.int (hI h a i.toNatClampNeg) :: r) h))) Q := G_unf rfl rfl
theorem g235_80 : G d 235 80 ls st h Q ↔ GN d 235 80 ls h (pIe st fun x => rtn (some (.int x))) Q := G_unf rfl rfl
theorem g235_81 : G d 235 81 ls st h Q ↔ GN d 235 81 ls h (ldR ls 0 fun a => nx 82 ls (.ref a :: st) h) Q := G_unf rfl rfl
theorem g235_82 : G d 235 82 ls st h Q ↔ GN d 235 82 ls h (nx 83 ls (.int (nI 0) :: st) h) Q := G_unf rfl rfl
theorem g235_83 : G d 235 83 ls st h Q ↔ GN d 235 83 ls h (ldI ls 1 fun x => nx 84 ls (.int x :: st) h) Q := G_unf rfl rfl
theorem g235_84 : G d 235 84 ls st h Q ↔ GN d 235 84 ls h (pA 2 st fun as r => pR r fun a r => ck (r.length ≤ 4 ∧ arr h a 9) (cll 213 (.ref a :: as) r)) Q := G_unf rfl rfl
theorem g235_87 : G d 235 87 ls st h Q ↔ GN d 235 87 ls h (pIe st fun x => rtn (some (.int x))) Q := G_unf rfl rfl
theorem g235_88 : G d 235 88 ls st h Q ↔ GN d 235 88 ls h (ldR ls 0 fun a => nx 89 ls (.ref a :: st) h) Q := G_unf rfl rfl
theorem g235_89 : G d 235 89 ls st h Q ↔ GN d 235 89 ls h (nx 90 ls (.int (nI 0) :: st) h) Q := G_unf rfl rfl
theorem g235_90 : G d 235 90 ls st h Q ↔ GN d 235 90 ls h (ldI ls 1 fun x => nx 91 ls (.int x :: st) h) Q := G_unf rfl rfl
theorem g235_91 : G d 235 91 ls st h Q ↔ GN d 235 91 ls h (pA 2 st fun as r => pR r fun a r => ck (r.length ≤ 4 ∧ arr h a 9) (cll 217 (.ref a :: as) r)) Q := G_unf rfl rfl
theorem g235_94 : G d 235 94 ls st h Q ↔ GN d 235 94 ls h (pIe st fun x => rtn (some (.int x))) Q := G_unf rfl rfl
theorem g235_95 : G d 235 95 ls st h Q ↔ GN d 235 95 ls h (nx 96 ls (.int (nI 0) :: st) h) Q := G_unf rfl rfl
theorem g235_96 : G d 235 96 ls st h Q ↔ GN d 235 96 ls h (pI st fun x r => ck (4 < ls.length) (nx 98 (st1 ls 4 (.int x)) r h)) Q := G_unf rfl rfl
theorem g235_98 : G d 235 98 ls st h Q ↔ GN d 235 98 ls h (ldI ls 4 fun x => nx 100 ls (.int x :: st) h) Q := G_unf rfl rfl
theorem g235_100 : G d 235 100 ls st h Q ↔ GN d 235 100 ls h (ldR ls 0 fun a => nx 101 ls (.ref a :: st) h) Q := G_unf rfl rfl
theorem g235_101 : G d 235 101 ls st h Q ↔ GN d 235 101 ls h (pR st fun a r => ck (arr h a 9) (nx 104 ls (rv (hR h a 55) :: r) h)) Q := G_unf rfl rfl
theorem g235_104 : G d 235 104 ls st h Q ↔ GN d 235 104 ls h (nx 105 ls (.int (nI 0) :: st) h) Q := G_unf rfl rfl
theorem g235_105 : G d 235 105 ls st h Q ↔ GN d 235 105 ls h (pRI st fun a i r => br (a = 1000003) (ck (inb i (hS h).1) (nx 106 ls (.int ((hS h).2 i.toNatClampNeg) :: r) h)) (ck (arr h a 10 ∧ inb i (hLn h a)) (nx 106 ls (.int (hI h a i.toNatClampNeg) :: r) h))) Q := G_unf rfl rfl
theorem g235_106 : G d 235 106 ls st h Q ↔ GN d 235 106 ls h (pII st fun x y r => br (y ≤ x) (nx 134 ls r h) (nx 109 ls r h)) Q := G_unf rfl rfl
theorem g235_109 : G d 235 109 ls st h Q ↔ GN d 235 109 ls h (ldI ls 3 fun x => nx 110 ls (.int x :: st) h) Q := G_unf rfl rfl
theorem g235_110 : G d 235 110 ls st h Q ↔ GN d 235 110 ls h (ldR ls 0 fun a => nx 111 ls (.ref a :: st) h) Q := G_unf rfl rfl
theorem g235_111 : G d 235 111 ls st h Q ↔ GN d 235 111 ls h (pR st fun a r => ck (arr h a 9) (nx 114 ls (rv (hR h a 57) :: r) h)) Q := G_unf rfl rfl
theorem g235_114 : G d 235 114 ls st h Q ↔ GN d 235 114 ls h (ldI ls 4 fun x => nx 116 ls (.int x :: st) h) Q := G_unf rfl rfl
theorem g235_116 : G d 235 116 ls st h Q ↔ GN d 235 116 ls h (pRI st fun a i r => br (a = 1000003) (ck (inb i (hS h).1) (nx 117 ls (.int ((hS h).2 i.toNatClampNeg) :: r) h)) (ck (arr h a 10 ∧ inb i (hLn h a)) (nx 117 ls (.int (hI h a i.toNatClampNeg) :: r) h))) Q := G_unf rfl rfl
theorem g235_117 : G d 235 117 ls st h Q ↔ GN d 235 117 ls h (ldI ls 1 fun x => nx 118 ls (.int x :: st) h) Q := G_unf rfl rfl
theorem g235_118 : G d 235 118 ls st h Q ↔ GN d 235 118 ls h (pII st fun x y r => br (¬ x = y) (nx 125 ls r h) (nx 121 ls r h)) Q := G_unf rfl rfl
theorem g235_121 : G d 235 121 ls st h Q ↔ GN d 235 121 ls h (nx 122 ls (.int (nI 1) :: st) h) Q := G_unf rfl rfl
theorem g235_122 : G d 235 122 ls st h Q ↔ GN d 235 122 ls h (nx 126 ls st h) Q := G_unf rfl rfl
theorem g235_125 : G d 235 125 ls st h Q ↔ GN d 235 125 ls h (nx 126 ls (.int (nI 0) :: st) h) Q := G_unf rfl rfl
theorem g235_126 : G d 235 126 ls st h Q ↔ GN d 235 126 ls h (pII st fun x y r => nx 127 ls (.int (x + y) :: r) h) Q := G_unf rfl rfl
theorem g235_127 : G d 235 127 ls st h Q ↔ GN d 235 127 ls h (pI st fun x r => ck (3 < ls.length) (nx 128 (st1 ls 3 (.int x)) r h)) Q := G_unf rfl rfl
theorem g235_128 : G d 235 128 ls st h Q ↔ GN d 235 128 ls h (ldI ls 4 fun x => nx 131 (st1 ls 4 (.int (x + (nI 1)))) st h) Q := G_unf rfl rfl
theorem g235_131 : G d 235 131 ls st h Q ↔ GN d 235 131 ls h (nx 98 ls st h) Q := G_unf rfl rfl
theorem g235_134 : G d 235 134 ls st h Q ↔ GN d 235 134 ls h (ldI ls 3 fun x => nx 135 ls (.int x :: st) h) Q := G_unf rfl rfl
theorem g235_135 : G d 235 135 ls st h Q ↔ GN d 235 135 ls h (pIe st fun x => rtn (some (.int x))) Q := G_unf rfl rfl
theorem g235_136 : G d 235 136 ls st h Q ↔ GN d 235 136 ls h (nx 137 ls (.int (-1) :: st) h) Q := G_unf rfl rfl
theorem g235_137 : G d 235 137 ls st h Q ↔ GN d 235 137 ls h (pIe st fun x => rtn (some (.int x))) Q := G_unf rfl rfl
theorem g236_0 : G d 236 0 ls st h Q ↔ GN d 236 0 ls h (ldR ls 0 fun a => nx 1 ls (.ref a :: st) h) Q := G_unf rfl rfl
theorem g236_1 : G d 236 1 ls st h Q ↔ GN d 236 1 ls h (ldI ls 1 fun x => nx 2 ls (.int x :: st) h) Q := G_unf rfl rfl
theorem g236_2 : G d 236 2 ls st h Q ↔ GN d 236 2 ls h (pA 1 st fun as r => pR r fun a r => ck (r.length ≤ 4 ∧ arr h a 9) (cll 203 (.ref a :: as) r)) Q := G_unf rfl rfl
theorem g236_5 : G d 236 5 ls st h Q ↔ GN d 236 5 ls h (pI st fun x r => br (x = 0) (nx 40 ls r h) (nx 8 ls r h)) Q := G_unf rfl rfl
theorem g236_8 : G d 236 8 ls st h Q ↔ GN d 236 8 ls h (ldR ls 0 fun a => nx 9 ls (.ref a :: st) h) Q := G_unf rfl rfl
theorem g236_9 : G d 236 9 ls st h Q ↔ GN d 236 9 ls h (ldI ls 2 fun x => nx 10 ls (.int x :: st) h) Q := G_unf rfl rfl
theorem g236_10 : G d 236 10 ls st h Q ↔ GN d 236 10 ls h (pA 1 st fun as r => pR r fun a r => ck (r.length ≤ 4 ∧ arr h a 9) (cll 202 (.ref a :: as) r)) Q := G_unf rfl rfl
theorem g236_13 : G d 236 13 ls st h Q ↔ GN d 236 13 ls h (pI st fun x r => br (x = 0) (nx 40 ls r h) (nx 16 ls r h)) Q := G_unf rfl rfl
theorem g236_16 : G d 236 16 ls st h Q ↔ GN d 236 16 ls h (ldR ls 0 fun a => nx 17 ls (.ref a :: st) h) Q := G_unf rfl rfl
theorem g236_17 : G d 236 17 ls st h Q ↔ GN d 236 17 ls h (nx 18 ls (.int (nI 0) :: st) h) Q := G_unf rfl rfl
theorem g236_18 : G d 236 18 ls st h Q ↔ GN d 236 18 ls h (ldI ls 1 fun x => nx 19 ls (.int x :: st) h) Q := G_unf rfl rfl
theorem g236_19 : G d 236 19 ls st h Q ↔ GN d 236 19 ls h (ldI ls 2 fun x => nx 20 ls (.int x :: st) h) Q := G_unf rfl rfl
theorem g236_20 : G d 236 20 ls st h Q ↔ GN d 236 20 ls h (pA 3 st fun as r => pR r fun a r => ck (r.length ≤ 4 ∧ arr h a 9) (cll 212 (.ref a :: as) r)) Q := G_unf rfl rfl
theorem g236_23 : G d 236 23 ls st h Q ↔ GN d 236 23 ls h (pI st fun x r => br (x = 0) (nx 40 ls r h) (nx 26 ls r h)) Q := G_unf rfl rfl
theorem g236_26 : G d 236 26 ls st h Q ↔ GN d 236 26 ls h (ldR ls 0 fun a => nx 27 ls (.ref a :: st) h) Q := G_unf rfl rfl
theorem g236_27 : G d 236 27 ls st h Q ↔ GN d 236 27 ls h (pR st fun a r => ck (arr h a 9) (nx 30 ls (rv (hR h a 54) :: r) h)) Q := G_unf rfl rfl
theorem g236_30 : G d 236 30 ls st h Q ↔ GN d 236 30 ls h (nx 32 ls (.int (nI 12) :: st) h) Q := G_unf rfl rfl
theorem g236_32 : G d 236 32 ls st h Q ↔ GN d 236 32 ls h (ldI ls 1 fun x => nx 33 ls (.int x :: st) h) Q := G_unf rfl rfl
theorem g236_33 : G d 236 33 ls st h Q ↔ GN d 236 33 ls h (pII st fun x y r => nx 34 ls (.int (x * y) :: r) h) Q := G_unf rfl rfl
theorem g236_34 : G d 236 34 ls st h Q ↔ GN d 236 34 ls h (ldI ls 2 fun x => nx 35 ls (.int x :: st) h) Q := G_unf rfl rfl
theorem g236_35 : G d 236 35 ls st h Q ↔ GN d 236 35 ls h (pII st fun x y r => nx 36 ls (.int (x + y) :: r) h) Q := G_unf rfl rfl
theorem g236_36 : G d 236 36 ls st h Q ↔ GN d 236 36 ls h (pRI st fun a i r => br (a = 1000003) (ck (inb i (hS h).1) (nx 37 ls (.int ((hS h).2 i.toNatClampNeg) :: r) h)) (ck (arr h a 10 ∧ inb i (hLn h a)) (nx 37 ls (.int (hI h a i.toNatClampNeg) :: r) h))) Q := G_unf rfl rfl
theorem g236_37 : G d 236 37 ls st h Q ↔ GN d 236 37 ls h (nx 41 ls st h) Q := G_unf rfl rfl
theorem g236_40 : G d 236 40 ls st h Q ↔ GN d 236 40 ls h (nx 41 ls (.int (-1) :: st) h) Q := G_unf rfl rfl
theorem g236_41 : G d 236 41 ls st h Q ↔ GN d 236 41 ls h (pIe st fun x => rtn (some (.int x))) Q := G_unf rfl rfl
theorem g237_0 : G d 237 0 ls st h Q ↔ GN d 237 0 ls h (ldR ls 0 fun a => nx 1 ls (.ref a :: st) h) Q := G_unf rfl rfl
theorem g237_1 : G d 237 1 ls st h Q ↔ GN d 237 1 ls h (ldI ls 1 fun x => nx 2 ls (.int x :: st) h) Q := G_unf rfl rfl
theorem g237_2 : G d 237 2 ls st h Q ↔ GN d 237 2 ls h (pA 1 st fun as r => pR r fun a r => ck (r.length ≤ 4 ∧ arr h a 9) (cll 203 (.ref a :: as) r)) Q := G_unf rfl rfl
theorem g237_5 : G d 237 5 ls st h Q ↔ GN d 237 5 ls h (pI st fun x r => br (x = 0) (nx 37 ls r h) (nx 8 ls r h)) Q := G_unf rfl rfl
theorem g237_8 : G d 237 8 ls st h Q ↔ GN d 237 8 ls h (ldR ls 0 fun a => nx 9 ls (.ref a :: st) h) Q := G_unf rfl rfl
theorem g237_9 : G d 237 9 ls st h Q ↔ GN d 237 9 ls h (ldI ls 2 fun x => nx 10 ls (.int x :: st) h) Q := G_unf rfl rfl
theorem g237_10 : G d 237 10 ls st h Q ↔ GN d 237 10 ls h (pA 1 st fun as r => pR r fun a r => ck (r.length ≤ 4 ∧ arr h a 9) (cll 202 (.ref a :: as) r)) Q := G_unf rfl rfl
theorem g237_13 : G d 237 13 ls st h Q ↔ GN d 237 13 ls h (pI st fun x r => br (x = 0) (nx 37 ls r h) (nx 16 ls r h)) Q := G_unf rfl rfl
theorem g237_16 : G d 237 16 ls st h Q ↔ GN d 237 16 ls h (ldI ls 3 fun x => nx 17 ls (.int x :: st) h) Q := G_unf rfl rfl
theorem g237_17 : G d 237 17 ls st h Q ↔ GN d 237 17 ls h (nx 18 ls (.int (nI 1) :: st) h) Q := G_unf rfl rfl
theorem g237_18 : G d 237 18 ls st h Q ↔ GN d 237 18 ls h (nx 20 ls (.int (nI 99) :: st) h) Q := G_unf rfl rfl
theorem g237_20 : G d 237 20 ls st h Q ↔ GN d 237 20 ls h (pA 3 st fun as r => ck (r.length ≤ 4) (cll 156 as r)) Q := G_unf rfl rfl
theorem g237_23 : G d 237 23 ls st h Q ↔ GN d 237 23 ls h (pI st fun x r => br (x = 0) (nx 37 ls r h) (nx 26 ls r h)) Q := G_unf rfl rfl
theorem g237_26 : G d 237 26 ls st h Q ↔ GN d 237 26 ls h (ldR ls 0 fun a => nx 27 ls (.ref a :: st) h) Q := G_unf rfl rfl
theorem g237_27 : G d 237 27 ls st h Q ↔ GN d 237 27 ls h (nx 28 ls (.int (nI 0) :: st) h) Q := G_unf rfl rfl
theorem g237_28 : G d 237 28 ls st h Q ↔ GN d 237 28 ls h (ldI ls 1 fun x => nx 29 ls (.int x :: st) h) Q := G_unf rfl rfl
theorem g237_29 : G d 237 29 ls st h Q ↔ GN d 237 29 ls h (ldI ls 2 fun x => nx 30 ls (.int x :: st) h) Q := G_unf rfl rfl
theorem g237_30 : G d 237 30 ls st h Q ↔ GN d 237 30 ls h (ldI ls 3 fun x => nx 31 ls (.int x :: st) h) Q := G_unf rfl rfl
theorem g237_31 : G d 237 31 ls st h Q ↔ GN d 237 31 ls h (pA 4 st fun as r => pR r fun a r => ck (r.length ≤ 4 ∧ arr h a 9) (cll 223 (.ref a :: as) r)) Q := G_unf rfl rfl
theorem g237_34 : G d 237 34 ls st h Q ↔ GN d 237 34 ls h (nx 38 ls st h) Q := G_unf rfl rfl
theorem g237_37 : G d 237 37 ls st h Q ↔ GN d 237 37 ls h (nx 38 ls (.int (-1) :: st) h) Q := G_unf rfl rfl
theorem g237_38 : G d 237 38 ls st h Q ↔ GN d 237 38 ls h (pIe st fun x => rtn (some (.int x))) Q := G_unf rfl rfl
theorem g238_0 : G d 238 0 ls st h Q ↔ GN d 238 0 ls h (ldR ls 0 fun a => nx 1 ls (.ref a :: st) h) Q := G_unf rfl rfl
theorem g238_1 : G d 238 1 ls st h Q ↔ GN d 238 1 ls h (ldI ls 1 fun x => nx 2 ls (.int x :: st) h) Q := G_unf rfl rfl
theorem g238_2 : G d 238 2 ls st h Q ↔ GN d 238 2 ls h (pA 1 st fun as r => pR r fun a r => ck (r.length ≤ 4 ∧ arr h a 9) (cll 203 (.ref a :: as) r)) Q := G_unf rfl rfl
theorem g238_5 : G d 238 5 ls st h Q ↔ GN d 238 5 ls h (pI st fun x r => br (x = 0) (nx 30 ls r h) (nx 8 ls r h)) Q := G_unf rfl rfl
theorem g238_8 : G d 238 8 ls st h Q ↔ GN d 238 8 ls h (ldR ls 0 fun a => nx 9 ls (.ref a :: st) h) Q := G_unf rfl rfl
theorem g238_9 : G d 238 9 ls st h Q ↔ GN d 238 9 ls h (ldI ls 2 fun x => nx 10 ls (.int x :: st) h) Q := G_unf rfl rfl
theorem g238_10 : G d 238 10 ls st h Q ↔ GN d 238 10 ls h (pA 1 st fun as r => pR r fun a r => ck (r.length ≤ 4 ∧ arr h a 9) (cll 202 (.ref a :: as) r)) Q := G_unf rfl rfl
theorem g238_13 : G d 238 13 ls st h Q ↔ GN d 238 13 ls h (pI st fun x r => br (x = 0) (nx 30 ls r h) (nx 16 ls r h)) Q := G_unf rfl rfl
theorem g238_16 : G d 238 16 ls st h Q ↔ GN d 238 16 ls h (ldI ls 3 fun x => nx 17 ls (.int x :: st) h) Q := G_unf rfl rfl
theorem g238_17 : G d 238 17 ls st h Q ↔ GN d 238 17 ls h (nx 18 ls (.int (nI 1) :: st) h) Q := G_unf rfl rfl
theorem g238_18 : G d 238 18 ls st h Q ↔ GN d 238 18 ls h (nx 20 ls (.int (nI 99) :: st) h) Q := G_unf rfl rfl
theorem g238_20 : G d 238 20 ls st h Q ↔ GN d 238 20 ls h (pA 3 st fun as r => ck (r.length ≤ 4) (cll 156 as r)) Q := G_unf rfl rfl
theorem g238_23 : G d 238 23 ls st h Q ↔ GN d 238 23 ls h (pI st fun x r => br (x = 0) (nx 30 ls r h) (nx 26 ls r h)) Q := G_unf rfl rfl
theorem g238_26 : G d 238 26 ls st h Q ↔ GN d 238 26 ls h (nx 27 ls (.int (nI 1) :: st) h) Q := G_unf rfl rfl
theorem g238_27 : G d 238 27 ls st h Q ↔ GN d 238 27 ls h (nx 31 ls st h) Q := G_unf rfl rfl
theorem g238_30 : G d 238 30 ls st h Q ↔ GN d 238 30 ls h (nx 31 ls (.int (nI 0) :: st) h) Q := G_unf rfl rfl
theorem g238_31 : G d 238 31 ls st h Q ↔ GN d 238 31 ls h (pI st fun x r => ck (4 < ls.length) (nx 33 (st1 ls 4 (.int x)) r h)) Q := G_unf rfl rfl
theorem g238_33 : G d 238 33 ls st h Q ↔ GN d 238 33 ls h (ldI ls 4 fun x => nx 35 ls (.int x :: st) h) Q := G_unf rfl rfl
theorem g238_35 : G d 238 35 ls st h Q ↔ GN d 238 35 ls h (pI st fun x r => br (x = 0) (nx 106 ls r h) (nx 38 ls r h)) Q := G_unf rfl rfl
theorem g238_38 : G d 238 38 ls st h Q ↔ GN d 238 38 ls h (ldR ls 0 fun a => nx 39 ls (.ref a :: st) h) Q := G_unf rfl rfl
theorem g238_39 : G d 238 39 ls st h Q ↔ GN d 238 39 ls h (nx 40 ls (.int (nI 0) :: st) h) Q := G_unf rfl rfl
theorem g238_40 : G d 238 40 ls st h Q ↔ GN d 238 40 ls h (ldI ls 1 fun x => nx 41 ls (.int x :: st) h) Q := G_unf rfl rfl
theorem g238_41 : G d 238 41 ls st h Q ↔ GN d 238 41 ls h (ldI ls 2 fun x => nx 42 ls (.int x :: st) h) Q := G_unf rfl rfl
theorem g238_42 : G d 238 42 ls st h Q ↔ GN d 238 42 ls h (pA 3 st fun as r => pR r fun a r => ck (r.length ≤ 4 ∧ arr h a 9) (cll 212 (.ref a :: as) r)) Q := G_unf rfl rfl
theorem g238_45 : G d 238 45 ls st h Q ↔ GN d 238 45 ls h (pI st fun x r => br (¬ x = 0) (nx 106 ls r h) (nx 48 ls r h)) Q := G_unf rfl rfl
theorem g238_48 : G d 238 48 ls st h Q ↔ GN d 238 48 ls h (ldR ls 0 fun a => nx 49 ls (.ref a :: st) h) Q := G_unf rfl rfl
theorem g238_49 : G d 238 49 ls st h Q ↔ GN d 238 49 ls h (pR st fun a r => ck (arr h a 9) (nx 52 ls (rv (hR h a 52) :: r) h)) Q := G_unf rfl rfl
theorem g238_52 : G d 238 52 ls st h Q ↔ GN d 238 52 ls h (ldI ls 1 fun x => nx 53 ls (.int x :: st) h) Q := G_unf rfl rfl
theorem g238_53 : G d 238 53 ls st h Q ↔ GN d 238 53 ls h (pRI st fun a i r => br (a = 1000003) (ck (inb i (hS h).1) (nx 54 ls (.int ((hS h).2 i.toNatClampNeg) :: r) h)) (ck (arr h a 10 ∧ inb i (hLn h a)) (nx 54 ls (.int (hI h a i.toNatClampNeg) :: r) h))) Q := G_unf rfl rfl
theorem g238_54 : G d 238 54 ls st h Q ↔ GN d 238 54 ls h (ldI ls 2 fun x => nx 55 ls (.int x :: st) h) Q := G_unf rfl rfl
theorem g238_55 : G d 238 55 ls st h Q ↔ GN d 238 55 ls h (pA 2 st fun as r => ck (r.length ≤ 4) (cll 205 as r)) Q := G_unf rfl rfl
theorem g238_58 : G d 238 58 ls st h Q ↔ GN d 238 58 ls h (pI st fun x r => br (¬ x = 0) (nx 106 ls r h) (nx 61 ls r h)) Q := G_unf rfl rfl
theorem g238_61 : G d 238 61 ls st h Q ↔ GN d 238 61 ls h (ldR ls 0 fun a => nx 62 ls (.ref a :: st) h) Q := G_unf rfl rfl
theorem g238_62 : G d 238 62 ls st h Q ↔ GN d 238 62 ls h (nx 63 ls (.int (nI 0) :: st) h) Q := G_unf rfl rfl
theorem g238_63 : G d 238 63 ls st h Q ↔ GN d 238 63 ls h (pA 1 st fun as r => pR r fun a r => ck (r.length ≤ 4 ∧ arr h a 9) (cll 214 (.ref a :: as) r)) Q := G_unf rfl rfl
theorem g238_66 : G d 238 66 ls st h Q ↔ GN d 238 66 ls h (pI st fun x r => br (x ≤ 0) (nx 106 ls r h) (nx 69 ls r h)) Q := G_unf rfl rfl
theorem g238_69 : G d 238 69 ls st h Q ↔ GN d 238 69 ls h (ldR ls 0 fun a => nx 70 ls (.ref a :: st) h) Q := G_unf rfl rfl
theorem g238_70 : G d 238 70 ls st h Q ↔ GN d 238 70 ls h (pR st fun a r => ck (arr h a 9) (nx 73 ls (rv (hR h a 51) :: r) h)) Q := G_unf rfl rfl
theorem g238_73 : G d 238 73 ls st h Q ↔ GN d 238 73 ls h (nx 74 ls (.int (nI 0) :: st) h) Q := G_unf rfl rfl
theorem g238_74 : G d 238 74 ls st h Q ↔ GN d 238 74 ls h (pRI st fun a i r => br (a = 1000003) (ck (inb i (hS h).1) (nx 75 ls (.int ((hS h).2 i.toNatClampNeg) :: r) h)) (ck (arr h a 10 ∧ inb i (hLn h a)) (nx 75 ls (.int (hI h a i.toNatClampNeg) :: r) h))) Q := G_unf rfl rfl
theorem g238_75 : G d 238 75 ls st h Q ↔ GN d 238 75 ls h (ldI ls 3 fun x => nx 76 ls (.int x :: st) h) Q := G_unf rfl rfl
theorem g238_76 : G d 238 76 ls st h Q ↔ GN d 238 76 ls h (pII st fun x y r => nx 77 ls (.int (x + y) :: r) h) Q := G_unf rfl rfl
theorem g238_77 : G d 238 77 ls st h Q ↔ GN d 238 77 ls h (nx 78 ls (.int (nI 1) :: st) h) Q := G_unf rfl rfl
theorem g238_78 : G d 238 78 ls st h Q ↔ GN d 238 78 ls h (pII st fun x y r => nx 79 ls (.int (x - y) :: r) h) Q := G_unf rfl rfl
theorem g238_79 : G d 238 79 ls st h Q ↔ GN d 238 79 ls h (nx 82 ls (.int (nI 999) :: st) h) Q := G_unf rfl rfl
theorem g238_82 : G d 238 82 ls st h Q ↔ GN d 238 82 ls h (pII st fun x y r => br (y < x) (nx 106 ls r h) (nx 85 ls r h)) Q := G_unf rfl rfl
theorem g238_85 : G d 238 85 ls st h Q ↔ GN d 238 85 ls h (ldR ls 0 fun a => nx 86 ls (.ref a :: st) h) Q := G_unf rfl rfl
theorem g238_86 : G d 238 86 ls st h Q ↔ GN d 238 86 ls h (pR st fun a r => ck (arr h a 9) (nx 89 ls (rv (hR h a 53) :: r) h)) Q := G_unf rfl rfl
theorem g238_89 : G d 238 89 ls st h Q ↔ GN d 238 89 ls h (ldI ls 1 fun x => nx 90 ls (.int x :: st) h) Q := G_unf rfl rfl
theorem g238_90 : G d 238 90 ls st h Q ↔ GN d 238 90 ls h (pRI st fun a i r => br (a = 1000003) (ck (inb i (hS h).1) (nx 91 ls (.int ((hS h).2 i.toNatClampNeg) :: r) h)) (ck (arr h a 10 ∧ inb i (hLn h a)) (nx 91 ls (.int (hI h a i.toNatClampNeg) :: r) h))) Q := G_unf rfl rfl
theorem g238_91 : G d 238 91 ls st h Q ↔ GN d 238 91 ls h (ldR ls 0 fun a => nx 92 ls (.ref a :: st) h) Q := G_unf rfl rfl
theorem g238_92 : G d 238 92 ls st h Q ↔ GN d 238 92 ls h (nx 93 ls (.int (nI 0) :: st) h) Q := G_unf rfl rfl
theorem g238_93 : G d 238 93 ls st h Q ↔ GN d 238 93 ls h (ldI ls 1 fun x => nx 94 ls (.int x :: st) h) Q := G_unf rfl rfl
theorem g238_94 : G d 238 94 ls st h Q ↔ GN d 238 94 ls h (ldI ls 2 fun x => nx 95 ls (.int x :: st) h) Q := G_unf rfl rfl
theorem g238_95 : G d 238 95 ls st h Q ↔ GN d 238 95 ls h (ldI ls 3 fun x => nx 96 ls (.int x :: st) h) Q := G_unf rfl rfl
theorem g238_96 : G d 238 96 ls st h Q ↔ GN d 238 96 ls h (pA 4 st fun as r => pR r fun a r => ck (r.length ≤ 4 ∧ arr h a 9) (cll 223 (.ref a :: as) r)) Q := G_unf rfl rfl
theorem g238_99 : G d 238 99 ls st h Q ↔ GN d 238 99 ls h (pII st fun x y r => br (x < y) (nx 106 ls r h) (nx 102 ls r h)) Q := G_unf rfl rfl
theorem g238_102 : G d 238 102 ls st h Q ↔ GN d 238 102 ls h (nx 103 ls (.int (nI 1) :: st) h) Q := G_unf rfl rfl
theorem g238_103 : G d 238 103 ls st h Q ↔ GN d 238 103 ls h (nx 107 ls st h) Q := G_unf rfl rfl
theorem g238_106 : G d 238 106 ls st h Q ↔ GN d 238 106 ls h (nx 107 ls (.int (nI 0) :: st) h) Q := G_unf rfl rfl
theorem g238_107 : G d 238 107 ls st h Q ↔ GN d 238 107 ls h (pI st fun x r => ck (4 < ls.length) (nx 109 (st1 ls 4 (.int x)) r h)) Q := G_unf rfl rfl
theorem g238_109 : G d 238 109 ls st h Q ↔ GN d 238 109 ls h (ldI ls 4 fun x => nx 111 ls (.int x :: st) h) Q := G_unf rfl rfl
theorem g238_111 : G d 238 111 ls st h Q ↔ GN d 238 111 ls h (pI st fun x r => br (¬ x = 0) (nx 120 ls r h) (nx 114 ls r h)) Q := G_unf rfl rfl
theorem g238_114 : G d 238 114 ls st h Q ↔ GN d 238 114 ls h (ldR ls 0 fun a => nx 115 ls (.ref a :: st) h) Q := G_unf rfl rfl
theorem g238_115 : G d 238 115 ls st h Q ↔ GN d 238 115 ls h (nx 116 ls (.int (nI 2) :: st) h) Q := G_unf rfl rfl
theorem g238_116 : G d 238 116 ls st h Q ↔ GN d 238 116 ls h (pA 1 st fun as r => pR r fun a r => ck (r.length ≤ 4 ∧ arr h a 9) (cll 200 (.ref a :: as) r)) Q := G_unf rfl rfl
theorem g238_119 : G d 238 119 ls st h Q ↔ GN d 238 119 ls h (pIe st fun x => rtn (some (.int x))) Q := G_unf rfl rfl
theorem g238_120 : G d 238 120 ls st h Q ↔ GN d 238 120 ls h (ldR ls 0 fun a => nx 121 ls (.ref a :: st) h) Q := G_unf rfl rfl
theorem g238_121 : G d 238 121 ls st h Q ↔ GN d 238 121 ls h (pA 0 st fun as r => pR r fun a r => ck (r.length ≤ 4 ∧ arr h a 9) (cll 210 (.ref a :: as) r)) Q := G_unf rfl rfl
theorem g238_124 : G d 238 124 ls st h Q ↔ GN d 238 124 ls h (ldR ls 0 fun a => nx 125 ls (.ref a :: st) h) Q := G_unf rfl rfl
theorem g238_125 : G d 238 125 ls st h Q ↔ GN d 238 125 ls h (nx 126 ls (.int (nI 0) :: st) h) Q := G_unf rfl rfl
theorem g238_126 : G d 238 126 ls st h Q ↔ GN d 238 126 ls h (ldI ls 1 fun x => nx 127 ls (.int x :: st) h) Q := G_unf rfl rfl
theorem g238_127 : G d 238 127 ls st h Q ↔ GN d 238 127 ls h (ldI ls 2 fun x => nx 128 ls (.int x :: st) h) Q := G_unf rfl rfl
theorem g238_128 : G d 238 128 ls st h Q ↔ GN d 238 128 ls h (ldI ls 3 fun x => nx 129 ls (.int x :: st) h) Q := G_unf rfl rfl
theorem g238_129 : G d 238 129 ls st h Q ↔ GN d 238 129 ls h (pA 4 st fun as r => pR r fun a r => ck (r.length ≤ 4 ∧ arr h a 9) (cll 223 (.ref a :: as) r)) Q := G_unf rfl rfl
theorem g238_132 : G d 238 132 ls st h Q ↔ GN d 238 132 ls h (pI st fun x r => ck (5 < ls.length) (nx 134 (st1 ls 5 (.int x)) r h)) Q := G_unf rfl rfl
theorem g238_134 : G d 238 134 ls st h Q ↔ GN d 238 134 ls h (ldR ls 0 fun a => nx 135 ls (.ref a :: st) h) Q := G_unf rfl rfl
theorem g238_135 : G d 238 135 ls st h Q ↔ GN d 238 135 ls h (pR st fun a r => ck (arr h a 9) (nx 138 ls (rv (hR h a 53) :: r) h)) Q := G_unf rfl rfl
theorem g238_138 : G d 238 138 ls st h Q ↔ GN d 238 138 ls h (ldI ls 1 fun x => nx 139 ls (.int x :: st) h) Q := G_unf rfl rfl
theorem g238_139 : G d 238 139 ls st h Q ↔ GN d 238 139 ls h (p11 st fun v w r => nx 140 ls (v :: w :: v :: w :: r) h) Q := G_unf rfl rfl
theorem g238_140 : G d 238 140 ls st h Q ↔ GN d 238 140 ls h (pRI st fun a i r => br (a = 1000003) (ck (inb i (hS h).1) (nx 141 ls (.int ((hS h).2 i.toNatClampNeg) :: r) h)) (ck (arr h a 10 ∧ inb i (hLn h a)) (nx 141 ls (.int (hI h a i.toNatClampNeg) :: r) h))) Q := G_unf rfl rfl
set_option maxRecDepth 100000 in
theorem g238_141 : G d 238 141 ls st h Q ↔ GN d 238 141 ls h (ldI ls 5 fun x => nx 143 ls (.int x :: st) h) Q := G_unf rfl rfl
set_option maxRecDepth 100000 in
theorem g238_143 : G d 238 143 ls st h Q ↔ GN d 238 143 ls h (pII st fun x y r => nx 144 ls (.int (x - y) :: r) h) Q := G_unf rfl rfl
set_option maxRecDepth 100000 in
theorem g238_144 : G d 238 144 ls st h Q ↔ GN d 238 144 ls h (pRII st fun a i x r => ck (arr h a 10 ∧ inb i (hLn h a)) (nx 145 ls r (sI h a i.toNatClampNeg x))) Q := G_unf rfl rfl
set_option maxRecDepth 100000 in
theorem g238_145 : G d 238 145 ls st h Q ↔ GN d 238 145 ls h (ldR ls 0 fun a => nx 146 ls (.ref a :: st) h) Q := G_unf rfl rfl
set_option maxRecDepth 100000 in
theorem g238_146 : G d 238 146 ls st h Q ↔ GN d 238 146 ls h (pR st fun a r => ck (arr h a 9) (nx 149 ls (rv (hR h a 54) :: r) h)) Q := G_unf rfl rfl
set_option maxRecDepth 100000 in
theorem g238_149 : G d 238 149 ls st h Q ↔ GN d 238 149 ls h (nx 151 ls (.int (nI 12) :: st) h) Q := G_unf rfl rfl
set_option maxRecDepth 100000 in
theorem g238_151 : G d 238 151 ls st h Q ↔ GN d 238 151 ls h (ldI ls 1 fun x => nx 152 ls (.int x :: st) h) Q := G_unf rfl rfl
set_option maxRecDepth 100000 in
theorem g238_152 : G d 238 152 ls st h Q ↔ GN d 238 152 ls h (pII st fun x y r => nx 153 ls (.int (x * y) :: r) h) Q := G_unf rfl rfl
set_option maxRecDepth 100000 in
theorem g238_153 : G d 238 153 ls st h Q ↔ GN d 238 153 ls h (ldI ls 2 fun x => nx 154 ls (.int x :: st) h) Q := G_unf rfl rfl
set_option maxRecDepth 100000 in
theorem g238_154 : G d 238 154 ls st h Q ↔ GN d 238 154 ls h (pII st fun x y r => nx 155 ls (.int (x + y) :: r) h) Q := G_unf rfl rfl
set_option maxRecDepth 100000 in
theorem g238_155 : G d 238 155 ls st h Q ↔ GN d 238 155 ls h (ldR ls 0 fun a => nx 156 ls (.ref a :: st) h) Q := G_unf rfl rfl
set_option maxRecDepth 100000 in
theorem g238_156 : G d 238 156 ls st h Q ↔ GN d 238 156 ls h (pR st fun a r => ck (arr h a 9) (nx 159 ls (rv (hR h a 51) :: r) h)) Q := G_unf rfl rfl
set_option maxRecDepth 100000 in
theorem g238_159 : G d 238 159 ls st h Q ↔ GN d 238 159 ls h (nx 160 ls (.int (nI 0) :: st) h) Q := G_unf rfl rfl
set_option maxRecDepth 100000 in
theorem g238_160 : G d 238 160 ls st h Q ↔ GN d 238 160 ls h (pRI st fun a i r => br (a = 1000003) (ck (inb i (hS h).1) (nx 161 ls (.int ((hS h).2 i.toNatClampNeg) :: r) h)) (ck (arr h a 10 ∧ inb i (hLn h a)) (nx 161 ls (.int (hI h a i.toNatClampNeg) :: r) h))) Q := G_unf rfl rfl
set_option maxRecDepth 100000 in
theorem g238_161 : G d 238 161 ls st h Q ↔ GN d 238 161 ls h (ldI ls 3 fun x => nx 162 ls (.int x :: st) h) Q := G_unf rfl rfl
set_option maxRecDepth 100000 in
theorem g238_162 : G d 238 162 ls st h Q ↔ GN d 238 162 ls h (pII st fun x y r => nx 163 ls (.int (x + y) :: r) h) Q := G_unf rfl rfl
set_option maxRecDepth 100000 in
theorem g238_163 : G d 238 163 ls st h Q ↔ GN d 238 163 ls h (nx 164 ls (.int (nI 1) :: st) h) Q := G_unf rfl rfl
set_option maxRecDepth 100000 in
theorem g238_164 : G d 238 164 ls st h Q ↔ GN d 238 164 ls h (pII st fun x y r => nx 165 ls (.int (x - y) :: r) h) Q := G_unf rfl rfl
set_option maxRecDepth 100000 in
theorem g238_165 : G d 238 165 ls st h Q ↔ GN d 238 165 ls h (pRII st fun a i x r => ck (arr h a 10 ∧ inb i (hLn h a)) (nx 166 ls r (sI h a i.toNatClampNeg x))) Q := G_unf rfl rfl
set_option maxRecDepth 100000 in
theorem g238_166 : G d 238 166 ls st h Q ↔ GN d 238 166 ls h (ldI ls 5 fun x => nx 168 ls (.int x :: st) h) Q := G_unf rfl rfl
set_option maxRecDepth 100000 in
theorem g238_168 : G d 238 168 ls st h Q ↔ GN d 238 168 ls h (pIe st fun x => rtn (some (.int x))) Q := G_unf rfl rfl
theorem g239_0 : G d 239 0 ls st h Q ↔ GN d 239 0 ls h (ldR ls 0 fun a => nx 1 ls (.ref a :: st) h) Q := G_unf rfl rfl
theorem g239_1 : G d 239 1 ls st h Q ↔ GN d 239 1 ls h (ldI ls 1 fun x => nx 2 ls (.int x :: st) h) Q := G_unf rfl rfl
theorem g239_2 : G d 239 2 ls st h Q ↔ GN d 239 2 ls h (pA 1 st fun as r => pR r fun a r => ck (r.length ≤ 4 ∧ arr h a 9) (cll 203 (.ref a :: as) r)) Q := G_unf rfl rfl
theorem g239_5 : G d 239 5 ls st h Q ↔ GN d 239 5 ls h (pI st fun x r => br (x = 0) (nx 26 ls r h) (nx 8 ls r h)) Q := G_unf rfl rfl
theorem g239_8 : G d 239 8 ls st h Q ↔ GN d 239 8 ls h (ldR ls 0 fun a => nx 9 ls (.ref a :: st) h) Q := G_unf rfl rfl
theorem g239_9 : G d 239 9 ls st h Q ↔ GN d 239 9 ls h (ldI ls 2 fun x => nx 10 ls (.int x :: st) h) Q := G_unf rfl rfl
theorem g239_10 : G d 239 10 ls st h Q ↔ GN d 239 10 ls h (pA 1 st fun as r => pR r fun a r => ck (r.length ≤ 4 ∧ arr h a 9) (cll 202 (.ref a :: as) r)) Q := G_unf rfl rfl
theorem g239_13 : G d 239 13 ls st h Q ↔ GN d 239 13 ls h (pI st fun x r => br (x = 0) (nx 26 ls r h) (nx 16 ls r h)) Q := G_unf rfl rfl
theorem g239_16 : G d 239 16 ls st h Q ↔ GN d 239 16 ls h (ldR ls 0 fun a => nx 17 ls (.ref a :: st) h) Q := G_unf rfl rfl
theorem g239_17 : G d 239 17 ls st h Q ↔ GN d 239 17 ls h (nx 18 ls (.int (nI 0) :: st) h) Q := G_unf rfl rfl
theorem g239_18 : G d 239 18 ls st h Q ↔ GN d 239 18 ls h (ldI ls 1 fun x => nx 19 ls (.int x :: st) h) Q := G_unf rfl rfl
theorem g239_19 : G d 239 19 ls st h Q ↔ GN d 239 19 ls h (ldI ls 2 fun x => nx 20 ls (.int x :: st) h) Q := G_unf rfl rfl
theorem g239_20 : G d 239 20 ls st h Q ↔ GN d 239 20 ls h (pA 3 st fun as r => pR r fun a r => ck (r.length ≤ 4 ∧ arr h a 9) (cll 212 (.ref a :: as) r)) Q := G_unf rfl rfl
theorem g239_23 : G d 239 23 ls st h Q ↔ GN d 239 23 ls h (pI st fun x r => br (¬ x = 0) (nx 40 ls r h) (nx 26 ls r h)) Q := G_unf rfl rfl
theorem g239_26 : G d 239 26 ls st h Q ↔ GN d 239 26 ls h (ldR ls 0 fun a => nx 27 ls (.ref a :: st) h) Q := G_unf rfl rfl
theorem g239_27 : G d 239 27 ls st h Q ↔ GN d 239 27 ls h (nx 28 ls (.int (nI 2) :: st) h) Q := G_unf rfl rfl
theorem g239_28 : G d 239 28 ls st h Q ↔ GN d 239 28 ls h (pA 1 st fun as r => pR r fun a r => ck (r.length ≤ 4 ∧ arr h a 9) (cll 200 (.ref a :: as) r)) Q := G_unf rfl rfl
theorem g239_31 : G d 239 31 ls st h Q ↔ GN d 239 31 ls h (pI st fun x r => br (x < 0) (nx 38 ls r h) (nx 34 ls r h)) Q := G_unf rfl rfl
theorem g239_34 : G d 239 34 ls st h Q ↔ GN d 239 34 ls h (nx 35 ls (.int (nI 1) :: st) h) Q := G_unf rfl rfl
theorem g239_35 : G d 239 35 ls st h Q ↔ GN d 239 35 ls h (nx 39 ls st h) Q := G_unf rfl rfl
theorem g239_38 : G d 239 38 ls st h Q ↔ GN d 239 38 ls h (nx 39 ls (.int (nI 0) :: st) h) Q := G_unf rfl rfl
theorem g239_39 : G d 239 39 ls st h Q ↔ GN d 239 39 ls h (pIe st fun x => ck (x = 0 ∨ x = 1) (rtn (some (.int x)))) Q := G_unf rfl rfl
theorem g239_40 : G d 239 40 ls st h Q ↔ GN d 239 40 ls h (ldR ls 0 fun a => nx 41 ls (.ref a :: st) h) Q := G_unf rfl rfl
theorem g239_41 : G d 239 41 ls st h Q ↔ GN d 239 41 ls h (pA 0 st fun as r => pR r fun a r => ck (r.length ≤ 4 ∧ arr h a 9) (cll 210 (.ref a :: as) r)) Q := G_unf rfl rfl
theorem g239_44 : G d 239 44 ls st h Q ↔ GN d 239 44 ls h (ldR ls 0 fun a => nx 45 ls (.ref a :: st) h) Q := G_unf rfl rfl
theorem g239_45 : G d 239 45 ls st h Q ↔ GN d 239 45 ls h (pR st fun a r => ck (arr h a 9) (nx 48 ls (rv (hR h a 54) :: r) h)) Q := G_unf rfl rfl
theorem g239_48 : G d 239 48 ls st h Q ↔ GN d 239 48 ls h (nx 50 ls (.int (nI 12) :: st) h) Q := G_unf rfl rfl
theorem g239_50 : G d 239 50 ls st h Q ↔ GN d 239 50 ls h (ldI ls 1 fun x => nx 51 ls (.int x :: st) h) Q := G_unf rfl rfl
theorem g239_51 : G d 239 51 ls st h Q ↔ GN d 239 51 ls h (pII st fun x y r => nx 52 ls (.int (x * y) :: r) h) Q := G_unf rfl rfl
theorem g239_52 : G d 239 52 ls st h Q ↔ GN d 239 52 ls h (ldI ls 2 fun x => nx 53 ls (.int x :: st) h) Q := G_unf rfl rfl
theorem g239_53 : G d 239 53 ls st h Q ↔ GN d 239 53 ls h (pII st fun x y r => nx 54 ls (.int (x + y) :: r) h) Q := G_unf rfl rfl
theorem g239_54 : G d 239 54 ls st h Q ↔ GN d 239 54 ls h (nx 55 ls (.int (-1) :: st) h) Q := G_unf rfl rfl
theorem g239_55 : G d 239 55 ls st h Q ↔ GN d 239 55 ls h (pRII st fun a i x r => ck (arr h a 10 ∧ inb i (hLn h a)) (nx 56 ls r (sI h a i.toNatClampNeg x))) Q := G_unf rfl rfl
theorem g239_56 : G d 239 56 ls st h Q ↔ GN d 239 56 ls h (nx 57 ls (.int (nI 1) :: st) h) Q := G_unf rfl rfl
theorem g239_57 : G d 239 57 ls st h Q ↔ GN d 239 57 ls h (pIe st fun x => ck (x = 0 ∨ x = 1) (rtn (some (.int x)))) Q := G_unf rfl rfl
theorem g240_0 : G d 240 0 ls st h Q ↔ GN d 240 0 ls h (ldR ls 0 fun a => nx 1 ls (.ref a :: st) h) Q := G_unf rfl rfl
theorem g240_1 : G d 240 1 ls st h Q ↔ GN d 240 1 ls h (pR st fun a r => ck (arr h a 9) (nx 4 ls (rv (hR h a 52) :: r) h)) Q := G_unf rfl rfl
theorem g240_4 : G d 240 4 ls st h Q ↔ GN d 240 4 ls h (nx 6 ls (.int (nI 8) :: st) h) Q := G_unf rfl rfl
theorem g240_6 : G d 240 6 ls st h Q ↔ GN d 240 6 ls h (ldI ls 1 fun x => nx 7 ls (.int x :: st) h) Q := G_unf rfl rfl
theorem g240_7 : G d 240 7 ls st h Q ↔ GN d 240 7 ls h (pII st fun x y r => nx 8 ls (.int (x * y) :: r) h) Q := G_unf rfl rfl
theorem g240_8 : G d 240 8 ls st h Q ↔ GN d 240 8 ls h (ldI ls 2 fun x => nx 9 ls (.int x :: st) h) Q := G_unf rfl rfl
theorem g240_9 : G d 240 9 ls st h Q ↔ GN d 240 9 ls h (pII st fun x y r => nx 10 ls (.int (x + y) :: r) h) Q := G_unf rfl rfl
theorem g240_10 : G d 240 10 ls st h Q ↔ GN d 240 10 ls h (pRI st fun a i r => br (a = 1000003) (ck (inb i (hS h).1) (nx 11 ls (.int ((hS h).2 i.toNatClampNeg) :: r) h)) (ck (arr h a 10 ∧ inb i (hLn h a)) (nx 11 ls (.int (hI h a i.toNatClampNeg) :: r) h))) Q := G_unf rfl rfl
theorem g240_11 : G d 240 11 ls st h Q ↔ GN d 240 11 ls h (ldI ls 3 fun x => nx 12 ls (.int x :: st) h) Q := G_unf rfl rfl
theorem g240_12 : G d 240 12 ls st h Q ↔ GN d 240 12 ls h (pA 2 st fun as r => ck (r.length ≤ 4) (cll 205 as r)) Q := G_unf rfl rfl
theorem g240_15 : G d 240 15 ls st h Q ↔ GN d 240 15 ls h (pI st fun x r => br (¬ x = 0) (nx 32 ls r h) (nx 18 ls r h)) Q := G_unf rfl rfl
theorem g240_18 : G d 240 18 ls st h Q ↔ GN d 240 18 ls h (ldR ls 0 fun a => nx 19 ls (.ref a :: st) h) Q := G_unf rfl rfl
theorem g240_19 : G d 240 19 ls st h Q ↔ GN d 240 19 ls h (ldI ls 1 fun x => nx 20 ls (.int x :: st) h) Q := G_unf rfl rfl
theorem g240_20 : G d 240 20 ls st h Q ↔ GN d 240 20 ls h (ldI ls 2 fun x => nx 21 ls (.int x :: st) h) Q := G_unf rfl rfl
theorem g240_21 : G d 240 21 ls st h Q ↔ GN d 240 21 ls h (ldI ls 3 fun x => nx 22 ls (.int x :: st) h) Q := G_unf rfl rfl
theorem g240_22 : G d 240 22 ls st h Q ↔ GN d 240 22 ls h (pA 3 st fun as r => pR r fun a r => ck (r.length ≤ 4 ∧ arr h a 9) (cll 212 (.ref a :: as) r)) Q := G_unf rfl rfl
theorem g240_25 : G d 240 25 ls st h Q ↔ GN d 240 25 ls h (pI st fun x r => br (¬ x = 0) (nx 32 ls r h) (nx 28 ls r h)) Q := G_unf rfl rfl
theorem g240_28 : G d 240 28 ls st h Q ↔ GN d 240 28 ls h (nx 29 ls (.int (nI 1) :: st) h) Q := G_unf rfl rfl
theorem g240_29 : G d 240 29 ls st h Q ↔ GN d 240 29 ls h (nx 33 ls st h) Q := G_unf rfl rfl
theorem g240_32 : G d 240 32 ls st h Q ↔ GN d 240 32 ls h (nx 33 ls (.int (nI 0) :: st) h) Q := G_unf rfl rfl
theorem g240_33 : G d 240 33 ls st h Q ↔ GN d 240 33 ls h (pIe st fun x => ck (x = 0 ∨ x = 1) (rtn (some (.int x)))) Q := G_unf rfl rfl
theorem g241_0 : G d 241 0 ls st h Q ↔ GN d 241 0 ls h (ldR ls 0 fun a => nx 1 ls (.ref a :: st) h) Q := G_unf rfl rfl
theorem g241_1 : G d 241 1 ls st h Q ↔ GN d 241 1 ls h (ldI ls 1 fun x => nx 2 ls (.int x :: st) h) Q := G_unf rfl rfl
theorem g241_2 : G d 241 2 ls st h Q ↔ GN d 241 2 ls h (pA 1 st fun as r => pR r fun a r => ck (r.length ≤ 4 ∧ arr h a 9) (cll 203 (.ref a :: as) r)) Q := G_unf rfl rfl
theorem g241_5 : G d 241 5 ls st h Q ↔ GN d 241 5 ls h (pI st fun x r => br (x = 0) (nx 26 ls r h) (nx 8 ls r h)) Q := G_unf rfl rfl
theorem g241_8 : G d 241 8 ls st h Q ↔ GN d 241 8 ls h (ldR ls 0 fun a => nx 9 ls (.ref a :: st) h) Q := G_unf rfl rfl
theorem g241_9 : G d 241 9 ls st h Q ↔ GN d 241 9 ls h (ldI ls 2 fun x => nx 10 ls (.int x :: st) h) Q := G_unf rfl rfl
theorem g241_10 : G d 241 10 ls st h Q ↔ GN d 241 10 ls h (pA 1 st fun as r => pR r fun a r => ck (r.length ≤ 4 ∧ arr h a 9) (cll 202 (.ref a :: as) r)) Q := G_unf rfl rfl
theorem g241_13 : G d 241 13 ls st h Q ↔ GN d 241 13 ls h (pI st fun x r => br (x = 0) (nx 26 ls r h) (nx 16 ls r h)) Q := G_unf rfl rfl
theorem g241_16 : G d 241 16 ls st h Q ↔ GN d 241 16 ls h (ldR ls 0 fun a => nx 17 ls (.ref a :: st) h) Q := G_unf rfl rfl
theorem g241_17 : G d 241 17 ls st h Q ↔ GN d 241 17 ls h (nx 18 ls (.int (nI 0) :: st) h) Q := G_unf rfl rfl
theorem g241_18 : G d 241 18 ls st h Q ↔ GN d 241 18 ls h (ldI ls 1 fun x => nx 19 ls (.int x :: st) h) Q := G_unf rfl rfl
theorem g241_19 : G d 241 19 ls st h Q ↔ GN d 241 19 ls h (ldI ls 2 fun x => nx 20 ls (.int x :: st) h) Q := G_unf rfl rfl
theorem g241_20 : G d 241 20 ls st h Q ↔ GN d 241 20 ls h (pA 3 st fun as r => pR r fun a r => ck (r.length ≤ 4 ∧ arr h a 9) (cll 240 (.ref a :: as) r)) Q := G_unf rfl rfl
theorem g241_23 : G d 241 23 ls st h Q ↔ GN d 241 23 ls h (pI st fun x r => br (¬ x = 0) (nx 32 ls r h) (nx 26 ls r h)) Q := G_unf rfl rfl
theorem g241_26 : G d 241 26 ls st h Q ↔ GN d 241 26 ls h (ldR ls 0 fun a => nx 27 ls (.ref a :: st) h) Q := G_unf rfl rfl
theorem g241_27 : G d 241 27 ls st h Q ↔ GN d 241 27 ls h (nx 28 ls (.int (nI 2) :: st) h) Q := G_unf rfl rfl
theorem g241_28 : G d 241 28 ls st h Q ↔ GN d 241 28 ls h (pA 1 st fun as r => pR r fun a r => ck (r.length ≤ 4 ∧ arr h a 9) (cll 200 (.ref a :: as) r)) Q := G_unf rfl rfl
theorem g241_31 : G d 241 31 ls st h Q ↔ GN d 241 31 ls h (pIe st fun x => rtn (some (.int x))) Q := G_unf rfl rfl
theorem g241_32 : G d 241 32 ls st h Q ↔ GN d 241 32 ls h (ldR ls 0 fun a => nx 33 ls (.ref a :: st) h) Q := G_unf rfl rfl
theorem g241_33 : G d 241 33 ls st h Q ↔ GN d 241 33 ls h (pA 0 st fun as r => pR r fun a r => ck (r.length ≤ 4 ∧ arr h a 9) (cll 210 (.ref a :: as) r)) Q := G_unf rfl rfl
theorem g241_36 : G d 241 36 ls st h Q ↔ GN d 241 36 ls h (ldR ls 0 fun a => nx 37 ls (.ref a :: st) h) Q := G_unf rfl rfl
theorem g241_37 : G d 241 37 ls st h Q ↔ GN d 241 37 ls h (pR st fun a r => ck (arr h a 9) (nx 40 ls (rv (hR h a 52) :: r) h)) Q := G_unf rfl rfl
theorem g241_40 : G d 241 40 ls st h Q ↔ GN d 241 40 ls h (ldI ls 1 fun x => nx 41 ls (.int x :: st) h) Q := G_unf rfl rfl
theorem g241_41 : G d 241 41 ls st h Q ↔ GN d 241 41 ls h (pRI st fun a i r => br (a = 1000003) (ck (inb i (hS h).1) (nx 42 ls (.int ((hS h).2 i.toNatClampNeg) :: r) h)) (ck (arr h a 10 ∧ inb i (hLn h a)) (nx 42 ls (.int (hI h a i.toNatClampNeg) :: r) h))) Q := G_unf rfl rfl
theorem g241_42 : G d 241 42 ls st h Q ↔ GN d 241 42 ls h (pA 1 st fun as r => ck (r.length ≤ 4) (cll 206 as r)) Q := G_unf rfl rfl
theorem g241_45 : G d 241 45 ls st h Q ↔ GN d 241 45 ls h (pI st fun x r => ck (3 < ls.length) (nx 46 (st1 ls 3 (.int x)) r h)) Q := G_unf rfl rfl
theorem g241_46 : G d 241 46 ls st h Q ↔ GN d 241 46 ls h (ldR ls 0 fun a => nx 47 ls (.ref a :: st) h) Q := G_unf rfl rfl
theorem g241_47 : G d 241 47 ls st h Q ↔ GN d 241 47 ls h (pR st fun a r => ck (arr h a 9) (nx 50 ls (rv (hR h a 52) :: r) h)) Q := G_unf rfl rfl
theorem g241_50 : G d 241 50 ls st h Q ↔ GN d 241 50 ls h (ldI ls 1 fun x => nx 51 ls (.int x :: st) h) Q := G_unf rfl rfl
theorem g241_51 : G d 241 51 ls st h Q ↔ GN d 241 51 ls h (p11 st fun v w r => nx 52 ls (v :: w :: v :: w :: r) h) Q := G_unf rfl rfl
theorem g241_52 : G d 241 52 ls st h Q ↔ GN d 241 52 ls h (pRI st fun a i r => br (a = 1000003) (ck (inb i (hS h).1) (nx 53 ls (.int ((hS h).2 i.toNatClampNeg) :: r) h)) (ck (arr h a 10 ∧ inb i (hLn h a)) (nx 53 ls (.int (hI h a i.toNatClampNeg) :: r) h))) Q := G_unf rfl rfl
theorem g241_53 : G d 241 53 ls st h Q ↔ GN d 241 53 ls h (nx 54 ls (.int (nI 1) :: st) h) Q := G_unf rfl rfl
theorem g241_54 : G d 241 54 ls st h Q ↔ GN d 241 54 ls h (ldI ls 2 fun x => nx 55 ls (.int x :: st) h) Q := G_unf rfl rfl
theorem g241_55 : G d 241 55 ls st h Q ↔ GN d 241 55 ls h (pII st fun x y r => nx 56 ls (.int (x <<< (y &&& 31)) :: r) h) Q := G_unf rfl rfl
theorem g241_56 : G d 241 56 ls st h Q ↔ GN d 241 56 ls h (pII st fun x y r => nx 57 ls (.int (x ||| y) :: r) h) Q := G_unf rfl rfl
theorem g241_57 : G d 241 57 ls st h Q ↔ GN d 241 57 ls h (pRII st fun a i x r => ck (arr h a 10 ∧ inb i (hLn h a)) (nx 58 ls r (sI h a i.toNatClampNeg x))) Q := G_unf rfl rfl
theorem g241_58 : G d 241 58 ls st h Q ↔ GN d 241 58 ls h (ldR ls 0 fun a => nx 59 ls (.ref a :: st) h) Q := G_unf rfl rfl
theorem g241_59 : G d 241 59 ls st h Q ↔ GN d 241 59 ls h (nx 60 ls (.int (nI 0) :: st) h) Q := G_unf rfl rfl
theorem g241_60 : G d 241 60 ls st h Q ↔ GN d 241 60 ls h (ldI ls 1 fun x => nx 61 ls (.int x :: st) h) Q := G_unf rfl rfl
theorem g241_61 : G d 241 61 ls st h Q ↔ GN d 241 61 ls h (pA 2 st fun as r => pR r fun a r => ck (r.length ≤ 4 ∧ arr h a 9) (cll 227 (.ref a :: as) r)) Q := G_unf rfl rfl
theorem g241_64 : G d 241 64 ls st h Q ↔ GN d 241 64 ls h (ldR ls 0 fun a => nx 65 ls (.ref a :: st) h) Q := G_unf rfl rfl
theorem g241_65 : G d 241 65 ls st h Q ↔ GN d 241 65 ls h (pR st fun a r => ck (arr h a 9) (nx 68 ls (rv (hR h a 52) :: r) h)) Q := G_unf rfl rfl
theorem g241_68 : G d 241 68 ls st h Q ↔ GN d 241 68 ls h (ldI ls 1 fun x => nx 69 ls (.int x :: st) h) Q := G_unf rfl rfl
theorem g241_69 : G d 241 69 ls st h Q ↔ GN d 241 69 ls h (pRI st fun a i r => br (a = 1000003) (ck (inb i (hS h).1) (nx 70 ls (.int ((hS h).2 i.toNatClampNeg) :: r) h)) (ck (arr h a 10 ∧ inb i (hLn h a)) (nx 70 ls (.int (hI h a i.toNatClampNeg) :: r) h))) Q := G_unf rfl rfl
theorem g241_70 : G d 241 70 ls st h Q ↔ GN d 241 70 ls h (pA 1 st fun as r => ck (r.length ≤ 4) (cll 206 as r)) Q := G_unf rfl rfl
theorem g241_73 : G d 241 73 ls st h Q ↔ GN d 241 73 ls h (ldI ls 3 fun x => nx 74 ls (.int x :: st) h) Q := G_unf rfl rfl
theorem g241_74 : G d 241 74 ls st h Q ↔ GN d 241 74 ls h (pII st fun x y r => nx 75 ls (.int (x - y) :: r) h) Q := G_unf rfl rfl
theorem g241_75 : G d 241 75 ls st h Q ↔ GN d 241 75 ls h (pIe st fun x => rtn (some (.int x))) Q := G_unf rfl rfl
theorem g242_0 : G d 242 0 ls st h Q ↔ GN d 242 0 ls h (ldI ls 1 fun x => nx 1 ls (.int x :: st) h) Q := G_unf rfl rfl
theorem g242_1 : G d 242 1 ls st h Q ↔ GN d 242 1 ls h (nx 2 ls (.int (nI 1) :: st) h) Q := G_unf rfl rfl
theorem g242_2 : G d 242 2 ls st h Q ↔ GN d 242 2 ls h (nx 4 ls (.int (nI 30) :: st) h) Q := G_unf rfl rfl
theorem g242_4 : G d 242 4 ls st h Q ↔ GN d 242 4 ls h (pA 3 st fun as r => ck (r.length ≤ 4) (cll 156 as r)) Q := G_unf rfl rfl
theorem g242_7 : G d 242 7 ls st h Q ↔ GN d 242 7 ls h (pI st fun x r => br (x = 0) (nx 24 ls r h) (nx 10 ls r h)) Q := G_unf rfl rfl
theorem g242_10 : G d 242 10 ls st h Q ↔ GN d 242 10 ls h (ldR ls 0 fun a => nx 11 ls (.ref a :: st) h) Q := G_unf rfl rfl
theorem g242_11 : G d 242 11 ls st h Q ↔ GN d 242 11 ls h (pR st fun a r => ck (arr h a 9) (nx 14 ls (rv (hR h a 51) :: r) h)) Q := G_unf rfl rfl
theorem g242_14 : G d 242 14 ls st h Q ↔ GN d 242 14 ls h (nx 15 ls (.int (nI 0) :: st) h) Q := G_unf rfl rfl
theorem g242_15 : G d 242 15 ls st h Q ↔ GN d 242 15 ls h (pRI st fun a i r => br (a = 1000003) (ck (inb i (hS h).1) (nx 16 ls (.int ((hS h).2 i.toNatClampNeg) :: r) h)) (ck (arr h a 10 ∧ inb i (hLn h a)) (nx 16 ls (.int (hI h a i.toNatClampNeg) :: r) h))) Q := G_unf rfl rfl
theorem g242_16 : G d 242 16 ls st h Q ↔ GN d 242 16 ls h (ldI ls 1 fun x => nx 17 ls (.int x :: st) h) Q := G_unf rfl rfl
theorem g242_17 : G d 242 17 ls st h Q ↔ GN d 242 17 ls h (pII st fun x y r => nx 18 ls (.int (x + y) :: r) h) Q := G_unf rfl rfl
theorem g242_18 : G d 242 18 ls st h Q ↔ GN d 242 18 ls h (nx 21 ls (.int (nI 999) :: st) h) Q := G_unf rfl rfl
theorem g242_21 : G d 242 21 ls st h Q ↔ GN d 242 21 ls h (pII st fun x y r => br (x ≤ y) (nx 30 ls r h) (nx 24 ls r h)) Q := G_unf rfl rfl
theorem g242_24 : G d 242 24 ls st h Q ↔ GN d 242 24 ls h (ldR ls 0 fun a => nx 25 ls (.ref a :: st) h) Q := G_unf rfl rfl
theorem g242_25 : G d 242 25 ls st h Q ↔ GN d 242 25 ls h (nx 26 ls (.int (nI 3) :: st) h) Q := G_unf rfl rfl
theorem g242_26 : G d 242 26 ls st h Q ↔ GN d 242 26 ls h (pA 1 st fun as r => pR r fun a r => ck (r.length ≤ 4 ∧ arr h a 9) (cll 200 (.ref a :: as) r)) Q := G_unf rfl rfl
theorem g242_29 : G d 242 29 ls st h Q ↔ GN d 242 29 ls h (pIe st fun x => rtn (some (.int x))) Q := G_unf rfl rfl
theorem g242_30 : G d 242 30 ls st h Q ↔ GN d 242 30 ls h (ldR ls 0 fun a => nx 31 ls (.ref a :: st) h) Q := G_unf rfl rfl
theorem g242_31 : G d 242 31 ls st h Q ↔ GN d 242 31 ls h (pA 0 st fun as r => pR r fun a r => ck (r.length ≤ 4 ∧ arr h a 9) (cll 210 (.ref a :: as) r)) Q := G_unf rfl rfl
theorem g242_34 : G d 242 34 ls st h Q ↔ GN d 242 34 ls h (ldR ls 0 fun a => nx 35 ls (.ref a :: st) h) Q := G_unf rfl rfl
theorem g242_35 : G d 242 35 ls st h Q ↔ GN d 242 35 ls h (nx 36 ls (.int (nI 0) :: st) h) Q := G_unf rfl rfl
theorem g242_36 : G d 242 36 ls st h Q ↔ GN d 242 36 ls h (pRI st fun a x r => ck (arr h a 9) (nx 39 ls r (sI h a 69 x))) Q := G_unf rfl rfl
theorem g242_39 : G d 242 39 ls st h Q ↔ GN d 242 39 ls h (nx 40 ls (.int (nI 0) :: st) h) Q := G_unf rfl rfl
theorem g242_40 : G d 242 40 ls st h Q ↔ GN d 242 40 ls h (pI st fun x r => ck (2 < ls.length) (nx 41 (st1 ls 2 (.int x)) r h)) Q := G_unf rfl rfl
theorem g242_41 : G d 242 41 ls st h Q ↔ GN d 242 41 ls h (ldI ls 2 fun x => nx 42 ls (.int x :: st) h) Q := G_unf rfl rfl
theorem g242_42 : G d 242 42 ls st h Q ↔ GN d 242 42 ls h (ldI ls 1 fun x => nx 43 ls (.int x :: st) h) Q := G_unf rfl rfl
theorem g242_43 : G d 242 43 ls st h Q ↔ GN d 242 43 ls h (pII st fun x y r => br (y ≤ x) (nx 57 ls r h) (nx 46 ls r h)) Q := G_unf rfl rfl
theorem g242_46 : G d 242 46 ls st h Q ↔ GN d 242 46 ls h (ldR ls 0 fun a => nx 47 ls (.ref a :: st) h) Q := G_unf rfl rfl
theorem g242_47 : G d 242 47 ls st h Q ↔ GN d 242 47 ls h (nx 48 ls (.int (nI 0) :: st) h) Q := G_unf rfl rfl
theorem g242_48 : G d 242 48 ls st h Q ↔ GN d 242 48 ls h (pA 1 st fun as r => pR r fun a r => ck (r.length ≤ 4 ∧ arr h a 9) (cll 230 (.ref a :: as) r)) Q := G_unf rfl rfl
theorem g242_51 : G d 242 51 ls st h Q ↔ GN d 242 51 ls h (ldI ls 2 fun x => nx 54 (st1 ls 2 (.int (x + (nI 1)))) st h) Q := G_unf rfl rfl
theorem g242_54 : G d 242 54 ls st h Q ↔ GN d 242 54 ls h (nx 41 ls st h) Q := G_unf rfl rfl
theorem g242_57 : G d 242 57 ls st h Q ↔ GN d 242 57 ls h (ldR ls 0 fun a => nx 58 ls (.ref a :: st) h) Q := G_unf rfl rfl
theorem g242_58 : G d 242 58 ls st h Q ↔ GN d 242 58 ls h (pR st fun a r => ck (arr h a 9) (nx 61 ls (.int (hI h a 69) :: r) h)) Q := G_unf rfl rfl
theorem g242_61 : G d 242 61 ls st h Q ↔ GN d 242 61 ls h (pIe st fun x => rtn (some (.int x))) Q := G_unf rfl rfl
theorem g243_0 : G d 243 0 ls st h Q ↔ GN d 243 0 ls h (ldR ls 0 fun a => nx 1 ls (.ref a :: st) h) Q := G_unf rfl rfl
theorem g243_1 : G d 243 1 ls st h Q ↔ GN d 243 1 ls h (nx 4 ls (.long (lN 1103515245) :: st) h) Q := G_unf rfl rfl
theorem g243_4 : G d 243 4 ls st h Q ↔ GN d 243 4 ls h (ldR ls 0 fun a => nx 5 ls (.ref a :: st) h) Q := G_unf rfl rfl
theorem g243_5 : G d 243 5 ls st h Q ↔ GN d 243 5 ls h (pR st fun a r => ck (arr h a 9) (nx 8 ls (.long (hL h a 62) :: r) h)) Q := G_unf rfl rfl
theorem g243_8 : G d 243 8 ls st h Q ↔ GN d 243 8 ls h (pJJ st fun x y r => nx 9 ls (.long (x * y) :: r) h) Q := G_unf rfl rfl
theorem g243_9 : G d 243 9 ls st h Q ↔ GN d 243 9 ls h (nx 12 ls (.long (lN 12345) :: st) h) Q := G_unf rfl rfl
theorem g243_12 : G d 243 12 ls st h Q ↔ GN d 243 12 ls h (pJJ st fun x y r => nx 13 ls (.long (x + y) :: r) h) Q := G_unf rfl rfl
theorem g243_13 : G d 243 13 ls st h Q ↔ GN d 243 13 ls h (nx 16 ls (.long (lN 2147483648) :: st) h) Q := G_unf rfl rfl
theorem g243_16 : G d 243 16 ls st h Q ↔ GN d 243 16 ls h (pJJ st fun x y r => ck (¬ y = 0) (nx 17 ls (.long (x - x / y * y) :: r) h)) Q := G_unf rfl rfl
theorem g243_17 : G d 243 17 ls st h Q ↔ GN d 243 17 ls h (pRJ st fun a x r => ck (arr h a 9) (nx 20 ls r (sL h a 62 x))) Q := G_unf rfl rfl
theorem g243_20 : G d 243 20 ls st h Q ↔ GN d 243 20 ls h (ldR ls 0 fun a => nx 21 ls (.ref a :: st) h) Q := G_unf rfl rfl
theorem g243_21 : G d 243 21 ls st h Q ↔ GN d 243 21 ls h (pR st fun a r => ck (arr h a 9) (nx 24 ls (.long (hL h a 62) :: r) h)) Q := G_unf rfl rfl
theorem g243_24 : G d 243 24 ls st h Q ↔ GN d 243 24 ls h (nx 27 ls (.long (lN 64) :: st) h) Q := G_unf rfl rfl
theorem g243_27 : G d 243 27 ls st h Q ↔ GN d 243 27 ls h (pJJ st fun x y r => ck (¬ y = 0) (nx 28 ls (.long (x / y) :: r) h)) Q := G_unf rfl rfl
theorem g243_28 : G d 243 28 ls st h Q ↔ GN d 243 28 ls h (ldI ls 1 fun x => nx 29 ls (.int x :: st) h) Q := G_unf rfl rfl
theorem g243_29 : G d 243 29 ls st h Q ↔ GN d 243 29 ls h (pI st fun x r => nx 30 ls (.long x.toInt64 :: r) h) Q := G_unf rfl rfl
theorem g243_30 : G d 243 30 ls st h Q ↔ GN d 243 30 ls h (pJJ st fun x y r => ck (¬ y = 0) (nx 31 ls (.long (x - x / y * y) :: r) h)) Q := G_unf rfl rfl
theorem g243_31 : G d 243 31 ls st h Q ↔ GN d 243 31 ls h (pJ st fun x r => nx 32 ls (.int x.toInt32 :: r) h) Q := G_unf rfl rfl
theorem g243_32 : G d 243 32 ls st h Q ↔ GN d 243 32 ls h (pIe st fun x => rtn (some (.int x))) Q := G_unf rfl rfl
theorem g244_0 : G d 244 0 ls st h Q ↔ GN d 244 0 ls h (ldR ls 0 fun a => nx 1 ls (.ref a :: st) h) Q := G_unf rfl rfl
theorem g244_1 : G d 244 1 ls st h Q ↔ GN d 244 1 ls h (pR st fun a r => ck (arr h a 9) (nx 4 ls (rv (hR h a 20) :: r) h)) Q := G_unf rfl rfl
theorem g244_4 : G d 244 4 ls st h Q ↔ GN d 244 4 ls h (ldR ls 0 fun a => nx 5 ls (.ref a :: st) h) Q := G_unf rfl rfl
theorem g244_5 : G d 244 5 ls st h Q ↔ GN d 244 5 ls h (pR st fun a r => ck (arr h a 9) (nx 8 ls (.int (hI h a 13) :: r) h)) Q := G_unf rfl rfl
theorem g244_8 : G d 244 8 ls st h Q ↔ GN d 244 8 ls h (pRI st fun a i r => br (a = 1000003) (ck (inb i (hS h).1) (nx 9 ls (.int ((hS h).2 i.toNatClampNeg) :: r) h)) (ck (arr h a 10 ∧ inb i (hLn h a)) (nx 9 ls (.int (hI h a i.toNatClampNeg) :: r) h))) Q := G_unf rfl rfl
theorem g244_9 : G d 244 9 ls st h Q ↔ GN d 244 9 ls h (pI st fun x r => br (x = 0) (nx 24 ls r h) (nx 12 ls r h)) Q := G_unf rfl rfl
theorem g244_12 : G d 244 12 ls st h Q ↔ GN d 244 12 ls h (ldR ls 0 fun a => nx 13 ls (.ref a :: st) h) Q := G_unf rfl rfl
theorem g244_13 : G d 244 13 ls st h Q ↔ GN d 244 13 ls h (pR st fun a r => ck (arr h a 9) (nx 16 ls (rv (hR h a 14) :: r) h)) Q := G_unf rfl rfl
theorem g244_16 : G d 244 16 ls st h Q ↔ GN d 244 16 ls h (ldR ls 0 fun a => nx 17 ls (.ref a :: st) h) Q := G_unf rfl rfl
theorem g244_17 : G d 244 17 ls st h Q ↔ GN d 244 17 ls h (pR st fun a r => ck (arr h a 9) (nx 20 ls (.int (hI h a 13) :: r) h)) Q := G_unf rfl rfl
theorem g244_20 : G d 244 20 ls st h Q ↔ GN d 244 20 ls h (pRI st fun a i r => br (a = 1000003) (ck (inb i (hS h).1) (nx 21 ls (.int ((hS h).2 i.toNatClampNeg) :: r) h)) (ck (arr h a 10 ∧ inb i (hLn h a)) (nx 21 ls (.int (hI h a i.toNatClampNeg) :: r) h))) Q := G_unf rfl rfl
theorem g244_21 : G d 244 21 ls st h Q ↔ GN d 244 21 ls h (pI st fun x r => br (¬ x = 0) (nx 25 ls r h) (nx 24 ls r h)) Q := G_unf rfl rfl
theorem g244_24 : G d 244 24 ls st h Q ↔ GN d 244 24 ls h (pE st (rtn none)) Q := G_unf rfl rfl
theorem g244_25 : G d 244 25 ls st h Q ↔ GN d 244 25 ls h (ldR ls 0 fun a => nx 26 ls (.ref a :: st) h) Q := G_unf rfl rfl
theorem g244_26 : G d 244 26 ls st h Q ↔ GN d 244 26 ls h (ldR ls 0 fun a => nx 27 ls (.ref a :: st) h) Q := G_unf rfl rfl
theorem g244_27 : G d 244 27 ls st h Q ↔ GN d 244 27 ls h (pR st fun a r => ck (arr h a 9) (nx 30 ls (rv (hR h a 20) :: r) h)) Q := G_unf rfl rfl
theorem g244_30 : G d 244 30 ls st h Q ↔ GN d 244 30 ls h (ldR ls 0 fun a => nx 31 ls (.ref a :: st) h) Q := G_unf rfl rfl
theorem g244_31 : G d 244 31 ls st h Q ↔ GN d 244 31 ls h (pR st fun a r => ck (arr h a 9) (nx 34 ls (.int (hI h a 13) :: r) h)) Q := G_unf rfl rfl
theorem g244_34 : G d 244 34 ls st h Q ↔ GN d 244 34 ls h (pRI st fun a i r => br (a = 1000003) (ck (inb i (hS h).1) (nx 35 ls (.int ((hS h).2 i.toNatClampNeg) :: r) h)) (ck (arr h a 10 ∧ inb i (hLn h a)) (nx 35 ls (.int (hI h a i.toNatClampNeg) :: r) h))) Q := G_unf rfl rfl
theorem g244_35 : G d 244 35 ls st h Q ↔ GN d 244 35 ls h (pA 1 st fun as r => pR r fun a r => ck (r.length ≤ 4 ∧ arr h a 9) (cll 243 (.ref a :: as) r)) Q := G_unf rfl rfl
theorem g244_38 : G d 244 38 ls st h Q ↔ GN d 244 38 ls h (pI st fun x r => ck (1 < ls.length) (nx 39 (st1 ls 1 (.int x)) r h)) Q := G_unf rfl rfl
theorem g244_39 : G d 244 39 ls st h Q ↔ GN d 244 39 ls h (ldR ls 0 fun a => nx 40 ls (.ref a :: st) h) Q := G_unf rfl rfl
theorem g244_40 : G d 244 40 ls st h Q ↔ GN d 244 40 ls h (ldR ls 0 fun a => nx 41 ls (.ref a :: st) h) Q := G_unf rfl rfl
theorem g244_41 : G d 244 41 ls st h Q ↔ GN d 244 41 ls h (pR st fun a r => ck (arr h a 9) (nx 44 ls (rv (hR h a 14) :: r) h)) Q := G_unf rfl rfl
theorem g244_44 : G d 244 44 ls st h Q ↔ GN d 244 44 ls h (ldR ls 0 fun a => nx 45 ls (.ref a :: st) h) Q := G_unf rfl rfl
theorem g244_45 : G d 244 45 ls st h Q ↔ GN d 244 45 ls h (pR st fun a r => ck (arr h a 9) (nx 48 ls (.int (hI h a 13) :: r) h)) Q := G_unf rfl rfl
theorem g244_48 : G d 244 48 ls st h Q ↔ GN d 244 48 ls h (pRI st fun a i r => br (a = 1000003) (ck (inb i (hS h).1) (nx 49 ls (.int ((hS h).2 i.toNatClampNeg) :: r) h)) (ck (arr h a 10 ∧ inb i (hLn h a)) (nx 49 ls (.int (hI h a i.toNatClampNeg) :: r) h))) Q := G_unf rfl rfl
theorem g244_49 : G d 244 49 ls st h Q ↔ GN d 244 49 ls h (pA 1 st fun as r => pR r fun a r => ck (r.length ≤ 4 ∧ arr h a 9) (cll 243 (.ref a :: as) r)) Q := G_unf rfl rfl
theorem g244_52 : G d 244 52 ls st h Q ↔ GN d 244 52 ls h (pI st fun x r => ck (2 < ls.length) (nx 53 (st1 ls 2 (.int x)) r h)) Q := G_unf rfl rfl
theorem g244_53 : G d 244 53 ls st h Q ↔ GN d 244 53 ls h (ldR ls 0 fun a => nx 54 ls (.ref a :: st) h) Q := G_unf rfl rfl
theorem g244_54 : G d 244 54 ls st h Q ↔ GN d 244 54 ls h (nx 55 ls (.int (nI 2) :: st) h) Q := G_unf rfl rfl
theorem g244_55 : G d 244 55 ls st h Q ↔ GN d 244 55 ls h (pA 1 st fun as r => pR r fun a r => ck (r.length ≤ 4 ∧ arr h a 9) (cll 243 (.ref a :: as) r)) Q := G_unf rfl rfl
theorem g244_58 : G d 244 58 ls st h Q ↔ GN d 244 58 ls h (pI st fun x r => br (x = 0) (nx 71 ls r h) (nx 61 ls r h)) Q := G_unf rfl rfl
theorem g244_61 : G d 244 61 ls st h Q ↔ GN d 244 61 ls h (ldR ls 0 fun a => nx 62 ls (.ref a :: st) h) Q := G_unf rfl rfl
theorem g244_62 : G d 244 62 ls st h Q ↔ GN d 244 62 ls h (nx 63 ls (.int (nI 0) :: st) h) Q := G_unf rfl rfl
theorem g244_63 : G d 244 63 ls st h Q ↔ GN d 244 63 ls h (ldI ls 1 fun x => nx 64 ls (.int x :: st) h) Q := G_unf rfl rfl
theorem g244_64 : G d 244 64 ls st h Q ↔ GN d 244 64 ls h (ldI ls 2 fun x => nx 65 ls (.int x :: st) h) Q := G_unf rfl rfl
theorem g244_65 : G d 244 65 ls st h Q ↔ GN d 244 65 ls h (pA 3 st fun as r => pR r fun a r => ck (r.length ≤ 4 ∧ arr h a 9) (cll 240 (.ref a :: as) r)) Q := G_unf rfl rfl
theorem g244_68 : G d 244 68 ls st h Q ↔ GN d 244 68 ls h (pI st fun x r => br (¬ x = 0) (nx 72 ls r h) (nx 71 ls r h)) Q := G_unf rfl rfl
theorem g244_71 : G d 244 71 ls st h Q ↔ GN d 244 71 ls h (pE st (rtn none)) Q := G_unf rfl rfl
theorem g244_72 : G d 244 72 ls st h Q ↔ GN d 244 72 ls h (ldR ls 0 fun a => nx 73 ls (.ref a :: st) h) Q := G_unf rfl rfl
theorem g244_73 : G d 244 73 ls st h Q ↔ GN d 244 73 ls h (pR st fun a r => ck (arr h a 9) (nx 76 ls (rv (hR h a 52) :: r) h)) Q := G_unf rfl rfl
theorem g244_76 : G d 244 76 ls st h Q ↔ GN d 244 76 ls h (ldI ls 1 fun x => nx 77 ls (.int x :: st) h) Q := G_unf rfl rfl
theorem g244_77 : G d 244 77 ls st h Q ↔ GN d 244 77 ls h (p11 st fun v w r => nx 78 ls (v :: w :: v :: w :: r) h) Q := G_unf rfl rfl
theorem g244_78 : G d 244 78 ls st h Q ↔ GN d 244 78 ls h (pRI st fun a i r => br (a = 1000003) (ck (inb i (hS h).1) (nx 79 ls (.int ((hS h).2 i.toNatClampNeg) :: r) h)) (ck (arr h a 10 ∧ inb i (hLn h a)) (nx 79 ls (.int (hI h a i.toNatClampNeg) :: r) h))) Q := G_unf rfl rfl
theorem g244_79 : G d 244 79 ls st h Q ↔ GN d 244 79 ls h (nx 80 ls (.int (nI 1) :: st) h) Q := G_unf rfl rfl
theorem g244_80 : G d 244 80 ls st h Q ↔ GN d 244 80 ls h (ldI ls 2 fun x => nx 81 ls (.int x :: st) h) Q := G_unf rfl rfl
theorem g244_81 : G d 244 81 ls st h Q ↔ GN d 244 81 ls h (pII st fun x y r => nx 82 ls (.int (x <<< (y &&& 31)) :: r) h) Q := G_unf rfl rfl
theorem g244_82 : G d 244 82 ls st h Q ↔ GN d 244 82 ls h (pII st fun x y r => nx 83 ls (.int (x ||| y) :: r) h) Q := G_unf rfl rfl
theorem g244_83 : G d 244 83 ls st h Q ↔ GN d 244 83 ls h (pRII st fun a i x r => ck (arr h a 10 ∧ inb i (hLn h a)) (nx 84 ls r (sI h a i.toNatClampNeg x))) Q := G_unf rfl rfl
theorem g244_84 : G d 244 84 ls st h Q ↔ GN d 244 84 ls h (ldR ls 0 fun a => nx 85 ls (.ref a :: st) h) Q := G_unf rfl rfl
theorem g244_85 : G d 244 85 ls st h Q ↔ GN d 244 85 ls h (nx 86 ls (.int (nI 0) :: st) h) Q := G_unf rfl rfl
theorem g244_86 : G d 244 86 ls st h Q ↔ GN d 244 86 ls h (ldI ls 1 fun x => nx 87 ls (.int x :: st) h) Q := G_unf rfl rfl
theorem g244_87 : G d 244 87 ls st h Q ↔ GN d 244 87 ls h (pA 2 st fun as r => pR r fun a r => ck (r.length ≤ 4 ∧ arr h a 9) (cll 227 (.ref a :: as) r)) Q := G_unf rfl rfl
theorem g244_90 : G d 244 90 ls st h Q ↔ GN d 244 90 ls h (pE st (rtn none)) Q := G_unf rfl rfl
theorem g245_0 : G d 245 0 ls st h Q ↔ GN d 245 0 ls h (ldI ls 1 fun x => nx 1 ls (.int x :: st) h) Q := G_unf rfl rfl
theorem g245_1 : G d 245 1 ls st h Q ↔ GN d 245 1 ls h (nx 2 ls (.int (nI 1) :: st) h) Q := G_unf rfl rfl
theorem g245_2 : G d 245 2 ls st h Q ↔ GN d 245 2 ls h (nx 4 ls (.int (nI 30) :: st) h) Q := G_unf rfl rfl
theorem g245_4 : G d 245 4 ls st h Q ↔ GN d 245 4 ls h (pA 3 st fun as r => ck (r.length ≤ 4) (cll 156 as r)) Q := G_unf rfl rfl
theorem g245_7 : G d 245 7 ls st h Q ↔ GN d 245 7 ls h (pI st fun x r => br (x = 0) (nx 24 ls r h) (nx 10 ls r h)) Q := G_unf rfl rfl
theorem g245_10 : G d 245 10 ls st h Q ↔ GN d 245 10 ls h (ldR ls 0 fun a => nx 11 ls (.ref a :: st) h) Q := G_unf rfl rfl
theorem g245_11 : G d 245 11 ls st h Q ↔ GN d 245 11 ls h (pR st fun a r => ck (arr h a 9) (nx 14 ls (rv (hR h a 51) :: r) h)) Q := G_unf rfl rfl
theorem g245_14 : G d 245 14 ls st h Q ↔ GN d 245 14 ls h (nx 15 ls (.int (nI 0) :: st) h) Q := G_unf rfl rfl
theorem g245_15 : G d 245 15 ls st h Q ↔ GN d 245 15 ls h (pRI st fun a i r => br (a = 1000003) (ck (inb i (hS h).1) (nx 16 ls (.int ((hS h).2 i.toNatClampNeg) :: r) h)) (ck (arr h a 10 ∧ inb i (hLn h a)) (nx 16 ls (.int (hI h a i.toNatClampNeg) :: r) h))) Q := G_unf rfl rfl
theorem g245_16 : G d 245 16 ls st h Q ↔ GN d 245 16 ls h (ldI ls 1 fun x => nx 17 ls (.int x :: st) h) Q := G_unf rfl rfl
theorem g245_17 : G d 245 17 ls st h Q ↔ GN d 245 17 ls h (pII st fun x y r => nx 18 ls (.int (x + y) :: r) h) Q := G_unf rfl rfl
theorem g245_18 : G d 245 18 ls st h Q ↔ GN d 245 18 ls h (nx 21 ls (.int (nI 999) :: st) h) Q := G_unf rfl rfl
theorem g245_21 : G d 245 21 ls st h Q ↔ GN d 245 21 ls h (pII st fun x y r => br (x ≤ y) (nx 30 ls r h) (nx 24 ls r h)) Q := G_unf rfl rfl
theorem g245_24 : G d 245 24 ls st h Q ↔ GN d 245 24 ls h (ldR ls 0 fun a => nx 25 ls (.ref a :: st) h) Q := G_unf rfl rfl
theorem g245_25 : G d 245 25 ls st h Q ↔ GN d 245 25 ls h (nx 26 ls (.int (nI 3) :: st) h) Q := G_unf rfl rfl
theorem g245_26 : G d 245 26 ls st h Q ↔ GN d 245 26 ls h (pA 1 st fun as r => pR r fun a r => ck (r.length ≤ 4 ∧ arr h a 9) (cll 200 (.ref a :: as) r)) Q := G_unf rfl rfl
theorem g245_29 : G d 245 29 ls st h Q ↔ GN d 245 29 ls h (pIe st fun x => rtn (some (.int x))) Q := G_unf rfl rfl
theorem g245_30 : G d 245 30 ls st h Q ↔ GN d 245 30 ls h (ldR ls 0 fun a => nx 31 ls (.ref a :: st) h) Q := G_unf rfl rfl
theorem g245_31 : G d 245 31 ls st h Q ↔ GN d 245 31 ls h (pA 0 st fun as r => pR r fun a r => ck (r.length ≤ 4 ∧ arr h a 9) (cll 210 (.ref a :: as) r)) Q := G_unf rfl rfl
theorem g245_34 : G d 245 34 ls st h Q ↔ GN d 245 34 ls h (ldR ls 0 fun a => nx 35 ls (.ref a :: st) h) Q := G_unf rfl rfl
theorem g245_35 : G d 245 35 ls st h Q ↔ GN d 245 35 ls h (nx 36 ls (.int (nI 0) :: st) h) Q := G_unf rfl rfl
theorem g245_36 : G d 245 36 ls st h Q ↔ GN d 245 36 ls h (pRI st fun a x r => ck (arr h a 9) (nx 39 ls r (sI h a 69 x))) Q := G_unf rfl rfl
theorem g245_39 : G d 245 39 ls st h Q ↔ GN d 245 39 ls h (nx 40 ls (.int (nI 0) :: st) h) Q := G_unf rfl rfl
theorem g245_40 : G d 245 40 ls st h Q ↔ GN d 245 40 ls h (pI st fun x r => ck (2 < ls.length) (nx 41 (st1 ls 2 (.int x)) r h)) Q := G_unf rfl rfl
theorem g245_41 : G d 245 41 ls st h Q ↔ GN d 245 41 ls h (ldI ls 2 fun x => nx 42 ls (.int x :: st) h) Q := G_unf rfl rfl
theorem g245_42 : G d 245 42 ls st h Q ↔ GN d 245 42 ls h (ldI ls 1 fun x => nx 43 ls (.int x :: st) h) Q := G_unf rfl rfl
theorem g245_43 : G d 245 43 ls st h Q ↔ GN d 245 43 ls h (pII st fun x y r => br (y ≤ x) (nx 61 ls r h) (nx 46 ls r h)) Q := G_unf rfl rfl
theorem g245_46 : G d 245 46 ls st h Q ↔ GN d 245 46 ls h (ldR ls 0 fun a => nx 47 ls (.ref a :: st) h) Q := G_unf rfl rfl
theorem g245_47 : G d 245 47 ls st h Q ↔ GN d 245 47 ls h (nx 48 ls (.int (nI 0) :: st) h) Q := G_unf rfl rfl
theorem g245_48 : G d 245 48 ls st h Q ↔ GN d 245 48 ls h (pA 1 st fun as r => pR r fun a r => ck (r.length ≤ 4 ∧ arr h a 9) (cll 230 (.ref a :: as) r)) Q := G_unf rfl rfl
theorem g245_51 : G d 245 51 ls st h Q ↔ GN d 245 51 ls h (ldR ls 0 fun a => nx 52 ls (.ref a :: st) h) Q := G_unf rfl rfl
theorem g245_52 : G d 245 52 ls st h Q ↔ GN d 245 52 ls h (pA 0 st fun as r => pR r fun a r => ck (r.length ≤ 4 ∧ arr h a 9) (cll 244 (.ref a :: as) r)) Q := G_unf rfl rfl
theorem g245_55 : G d 245 55 ls st h Q ↔ GN d 245 55 ls h (ldI ls 2 fun x => nx 58 (st1 ls 2 (.int (x + (nI 1)))) st h) Q := G_unf rfl rfl
theorem g245_58 : G d 245 58 ls st h Q ↔ GN d 245 58 ls h (nx 41 ls st h) Q := G_unf rfl rfl
theorem g245_61 : G d 245 61 ls st h Q ↔ GN d 245 61 ls h (ldR ls 0 fun a => nx 62 ls (.ref a :: st) h) Q := G_unf rfl rfl
theorem g245_62 : G d 245 62 ls st h Q ↔ GN d 245 62 ls h (pR st fun a r => ck (arr h a 9) (nx 65 ls (.int (hI h a 69) :: r) h)) Q := G_unf rfl rfl
theorem g245_65 : G d 245 65 ls st h Q ↔ GN d 245 65 ls h (pIe st fun x => rtn (some (.int x))) Q := G_unf rfl rfl
theorem g246_0 : G d 246 0 ls st h Q ↔ GN d 246 0 ls h (ldI ls 1 fun x => nx 1 ls (.int x :: st) h) Q := G_unf rfl rfl
theorem g246_1 : G d 246 1 ls st h Q ↔ GN d 246 1 ls h (pI st fun x r => br (0 ≤ x) (nx 18 ls r h) (nx 4 ls r h)) Q := G_unf rfl rfl
theorem g246_4 : G d 246 4 ls st h Q ↔ GN d 246 4 ls h (ldR ls 0 fun a => nx 5 ls (.ref a :: st) h) Q := G_unf rfl rfl
theorem g246_5 : G d 246 5 ls st h Q ↔ GN d 246 5 ls h (nx 6 ls (.int (nI 5) :: st) h) Q := G_unf rfl rfl
theorem g246_6 : G d 246 6 ls st h Q ↔ GN d 246 6 ls h (pA 1 st fun as r => pR r fun a r => ck (r.length ≤ 4 ∧ arr h a 9) (cll 200 (.ref a :: as) r)) Q := G_unf rfl rfl
theorem g246_9 : G d 246 9 ls st h Q ↔ GN d 246 9 ls h (pI st fun x r => br (x < 0) (nx 16 ls r h) (nx 12 ls r h)) Q := G_unf rfl rfl
theorem g246_12 : G d 246 12 ls st h Q ↔ GN d 246 12 ls h (nx 13 ls (.int (nI 1) :: st) h) Q := G_unf rfl rfl
theorem g246_13 : G d 246 13 ls st h Q ↔ GN d 246 13 ls h (nx 17 ls st h) Q := G_unf rfl rfl
theorem g246_16 : G d 246 16 ls st h Q ↔ GN d 246 16 ls h (nx 17 ls (.int (nI 0) :: st) h) Q := G_unf rfl rfl
theorem g246_17 : G d 246 17 ls st h Q ↔ GN d 246 17 ls h (pIe st fun x => ck (x = 0 ∨ x = 1) (rtn (some (.int x)))) Q := G_unf rfl rfl
theorem g246_18 : G d 246 18 ls st h Q ↔ GN d 246 18 ls h (ldR ls 0 fun a => nx 19 ls (.ref a :: st) h) Q := G_unf rfl rfl
theorem g246_19 : G d 246 19 ls st h Q ↔ GN d 246 19 ls h (ldI ls 1 fun x => nx 20 ls (.int x :: st) h) Q := G_unf rfl rfl
theorem g246_20 : G d 246 20 ls st h Q ↔ GN d 246 20 ls h (pI st fun x r => nx 21 ls (.long x.toInt64 :: r) h) Q := G_unf rfl rfl
theorem g246_21 : G d 246 21 ls st h Q ↔ GN d 246 21 ls h (pRJ st fun a x r => ck (arr h a 9) (nx 24 ls r (sL h a 62 x))) Q := G_unf rfl rfl
theorem g246_24 : G d 246 24 ls st h Q ↔ GN d 246 24 ls h (nx 25 ls (.int (nI 1) :: st) h) Q := G_unf rfl rfl
theorem g246_25 : G d 246 25 ls st h Q ↔ GN d 246 25 ls h (pIe st fun x => ck (x = 0 ∨ x = 1) (rtn (some (.int x)))) Q := G_unf rfl rfl
theorem g247_0 : G d 247 0 ls st h Q ↔ GN d 247 0 ls h (ldI ls 1 fun x => nx 1 ls (.int x :: st) h) Q := G_unf rfl rfl
theorem g247_1 : G d 247 1 ls st h Q ↔ GN d 247 1 ls h (nx 2 ls (.int (nI 0) :: st) h) Q := G_unf rfl rfl
theorem g247_2 : G d 247 2 ls st h Q ↔ GN d 247 2 ls h (ldR ls 0 fun a => nx 3 ls (.ref a :: st) h) Q := G_unf rfl rfl
theorem g247_3 : G d 247 3 ls st h Q ↔ GN d 247 3 ls h (pR st fun a r => ck (arr h a 9) (nx 6 ls (rv (hR h a 55) :: r) h)) Q := G_unf rfl rfl
theorem g247_6 : G d 247 6 ls st h Q ↔ GN d 247 6 ls h (nx 7 ls (.int (nI 0) :: st) h) Q := G_unf rfl rfl
theorem g247_7 : G d 247 7 ls st h Q ↔ GN d 247 7 ls h (pRI st fun a i r => br (a = 1000003) (ck (inb i (hS h).1) (nx 8 ls (.int ((hS h).2 i.toNatClampNeg) :: r) h)) (ck (arr h a 10 ∧ inb i (hLn h a)) (nx 8 ls (.int (hI h a i.toNatClampNeg) :: r) h))) Q := G_unf rfl rfl
theorem g247_8 : G d 247 8 ls st h Q ↔ GN d 247 8 ls h (nx 9 ls (.int (nI 1) :: st) h) Q := G_unf rfl rfl
theorem g247_9 : G d 247 9 ls st h Q ↔ GN d 247 9 ls h (pII st fun x y r => nx 10 ls (.int (x - y) :: r) h) Q := G_unf rfl rfl
theorem g247_10 : G d 247 10 ls st h Q ↔ GN d 247 10 ls h (pA 3 st fun as r => ck (r.length ≤ 4) (cll 156 as r)) Q := G_unf rfl rfl
theorem g247_13 : G d 247 13 ls st h Q ↔ GN d 247 13 ls h (pI st fun x r => br (x = 0) (nx 25 ls r h) (nx 16 ls r h)) Q := G_unf rfl rfl
theorem g247_16 : G d 247 16 ls st h Q ↔ GN d 247 16 ls h (ldI ls 2 fun x => nx 17 ls (.int x :: st) h) Q := G_unf rfl rfl
theorem g247_17 : G d 247 17 ls st h Q ↔ GN d 247 17 ls h (nx 18 ls (.int (nI 0) :: st) h) Q := G_unf rfl rfl
theorem g247_18 : G d 247 18 ls st h Q ↔ GN d 247 18 ls h (nx 19 ls (.int (nI 3) :: st) h) Q := G_unf rfl rfl
theorem g247_19 : G d 247 19 ls st h Q ↔ GN d 247 19 ls h (pA 3 st fun as r => ck (r.length ≤ 4) (cll 156 as r)) Q := G_unf rfl rfl
theorem g247_22 : G d 247 22 ls st h Q ↔ GN d 247 22 ls h (pI st fun x r => br (¬ x = 0) (nx 27 ls r h) (nx 25 ls r h)) Q := G_unf rfl rfl
theorem g247_25 : G d 247 25 ls st h Q ↔ GN d 247 25 ls h (nx 26 ls (.int (-1) :: st) h) Q := G_unf rfl rfl
theorem g247_26 : G d 247 26 ls st h Q ↔ GN d 247 26 ls h (pIe st fun x => rtn (some (.int x))) Q := G_unf rfl rfl
theorem g247_27 : G d 247 27 ls st h Q ↔ GN d 247 27 ls h (ldI ls 2 fun x => nx 28 ls (.int x :: st) h) Q := G_unf rfl rfl
theorem g247_28 : G d 247 28 ls st h Q ↔ GN d 247 28 ls h (pI st fun x r => br (¬ x = 0) (nx 40 ls r h) (nx 31 ls r h)) Q := G_unf rfl rfl
theorem g247_31 : G d 247 31 ls st h Q ↔ GN d 247 31 ls h (ldR ls 0 fun a => nx 32 ls (.ref a :: st) h) Q := G_unf rfl rfl
theorem g247_32 : G d 247 32 ls st h Q ↔ GN d 247 32 ls h (pR st fun a r => ck (arr h a 9) (nx 35 ls (rv (hR h a 56) :: r) h)) Q := G_unf rfl rfl
theorem g247_35 : G d 247 35 ls st h Q ↔ GN d 247 35 ls h (ldI ls 1 fun x => nx 36 ls (.int x :: st) h) Q := G_unf rfl rfl
theorem g247_36 : G d 247 36 ls st h Q ↔ GN d 247 36 ls h (pRI st fun a i r => br (a = 1000003) (ck (inb i (hS h).1) (nx 37 ls (.int ((hS h).2 i.toNatClampNeg) :: r) h)) (ck (arr h a 10 ∧ inb i (hLn h a)) (nx 37 ls (.int (hI h a i.toNatClampNeg) :: r) h))) Q := G_unf rfl rfl
theorem g247_37 : G d 247 37 ls st h Q ↔ GN d 247 37 ls h (nx 74 ls st h) Q := G_unf rfl rfl
theorem g247_40 : G d 247 40 ls st h Q ↔ GN d 247 40 ls h (ldI ls 2 fun x => nx 41 ls (.int x :: st) h) Q := G_unf rfl rfl
theorem g247_41 : G d 247 41 ls st h Q ↔ GN d 247 41 ls h (nx 42 ls (.int (nI 1) :: st) h) Q := G_unf rfl rfl
theorem g247_42 : G d 247 42 ls st h Q ↔ GN d 247 42 ls h (pII st fun x y r => br (¬ x = y) (nx 54 ls r h) (nx 45 ls r h)) Q := G_unf rfl rfl
theorem g247_45 : G d 247 45 ls st h Q ↔ GN d 247 45 ls h (ldR ls 0 fun a => nx 46 ls (.ref a :: st) h) Q := G_unf rfl rfl
theorem g247_46 : G d 247 46 ls st h Q ↔ GN d 247 46 ls h (pR st fun a r => ck (arr h a 9) (nx 49 ls (rv (hR h a 57) :: r) h)) Q := G_unf rfl rfl
theorem g247_49 : G d 247 49 ls st h Q ↔ GN d 247 49 ls h (ldI ls 1 fun x => nx 50 ls (.int x :: st) h) Q := G_unf rfl rfl
theorem g247_50 : G d 247 50 ls st h Q ↔ GN d 247 50 ls h (pRI st fun a i r => br (a = 1000003) (ck (inb i (hS h).1) (nx 51 ls (.int ((hS h).2 i.toNatClampNeg) :: r) h)) (ck (arr h a 10 ∧ inb i (hLn h a)) (nx 51 ls (.int (hI h a i.toNatClampNeg) :: r) h))) Q := G_unf rfl rfl
theorem g247_51 : G d 247 51 ls st h Q ↔ GN d 247 51 ls h (nx 74 ls st h) Q := G_unf rfl rfl
theorem g247_54 : G d 247 54 ls st h Q ↔ GN d 247 54 ls h (ldI ls 2 fun x => nx 55 ls (.int x :: st) h) Q := G_unf rfl rfl
theorem g247_55 : G d 247 55 ls st h Q ↔ GN d 247 55 ls h (nx 56 ls (.int (nI 2) :: st) h) Q := G_unf rfl rfl
theorem g247_56 : G d 247 56 ls st h Q ↔ GN d 247 56 ls h (pII st fun x y r => br (¬ x = y) (nx 68 ls r h) (nx 59 ls r h)) Q := G_unf rfl rfl
theorem g247_59 : G d 247 59 ls st h Q ↔ GN d 247 59 ls h (ldR ls 0 fun a => nx 60 ls (.ref a :: st) h) Q := G_unf rfl rfl
theorem g247_60 : G d 247 60 ls st h Q ↔ GN d 247 60 ls h (pR st fun a r => ck (arr h a 9) (nx 63 ls (rv (hR h a 58) :: r) h)) Q := G_unf rfl rfl
theorem g247_63 : G d 247 63 ls st h Q ↔ GN d 247 63 ls h (ldI ls 1 fun x => nx 64 ls (.int x :: st) h) Q := G_unf rfl rfl
theorem g247_64 : G d 247 64 ls st h Q ↔ GN d 247 64 ls h (pRI st fun a i r => br (a = 1000003) (ck (inb i (hS h).1) (nx 65 ls (.int ((hS h).2 i.toNatClampNeg) :: r) h)) (ck (arr h a 10 ∧ inb i (hLn h a)) (nx 65 ls (.int (hI h a i.toNatClampNeg) :: r) h))) Q := G_unf rfl rfl
theorem g247_65 : G d 247 65 ls st h Q ↔ GN d 247 65 ls h (nx 74 ls st h) Q := G_unf rfl rfl
theorem g247_68 : G d 247 68 ls st h Q ↔ GN d 247 68 ls h (ldR ls 0 fun a => nx 69 ls (.ref a :: st) h) Q := G_unf rfl rfl
theorem g247_69 : G d 247 69 ls st h Q ↔ GN d 247 69 ls h (pR st fun a r => ck (arr h a 9) (nx 72 ls (rv (hR h a 59) :: r) h)) Q := G_unf rfl rfl
theorem g247_72 : G d 247 72 ls st h Q ↔ GN d 247 72 ls h (ldI ls 1 fun x => nx 73 ls (.int x :: st) h) Q := G_unf rfl rfl
theorem g247_73 : G d 247 73 ls st h Q ↔ GN d 247 73 ls h (pRI st fun a i r => br (a = 1000003) (ck (inb i (hS h).1) (nx 74 ls (.int ((hS h).2 i.toNatClampNeg) :: r) h)) (ck (arr h a 10 ∧ inb i (hLn h a)) (nx 74 ls (.int (hI h a i.toNatClampNeg) :: r) h))) Q := G_unf rfl rfl
theorem g247_74 : G d 247 74 ls st h Q ↔ GN d 247 74 ls h (pIe st fun x => rtn (some (.int x))) Q := G_unf rfl rfl
theorem g248_0 : G d 248 0 ls st h Q ↔ GN d 248 0 ls h (nx 3 ls (.int (nI 999) :: st) h) Q := G_unf rfl rfl
theorem g248_3 : G d 248 3 ls st h Q ↔ GN d 248 3 ls h (ldR ls 0 fun a => nx 4 ls (.ref a :: st) h) Q := G_unf rfl rfl
theorem g248_4 : G d 248 4 ls st h Q ↔ GN d 248 4 ls h (pR st fun a r => ck (arr h a 9) (nx 7 ls (rv (hR h a 51) :: r) h)) Q := G_unf rfl rfl
theorem g248_7 : G d 248 7 ls st h Q ↔ GN d 248 7 ls h (nx 8 ls (.int (nI 0) :: st) h) Q := G_unf rfl rfl
theorem g248_8 : G d 248 8 ls st h Q ↔ GN d 248 8 ls h (pRI st fun a i r => br (a = 1000003) (ck (inb i (hS h).1) (nx 9 ls (.int ((hS h).2 i.toNatClampNeg) :: r) h)) (ck (arr h a 10 ∧ inb i (hLn h a)) (nx 9 ls (.int (hI h a i.toNatClampNeg) :: r) h))) Q := G_unf rfl rfl
theorem g248_9 : G d 248 9 ls st h Q ↔ GN d 248 9 ls h (pII st fun x y r => nx 10 ls (.int (x - y) :: r) h) Q := G_unf rfl rfl
theorem g248_10 : G d 248 10 ls st h Q ↔ GN d 248 10 ls h (nx 12 ls (.int (nI 40) :: st) h) Q := G_unf rfl rfl
theorem g248_12 : G d 248 12 ls st h Q ↔ GN d 248 12 ls h (pII st fun x y r => br (y ≤ x) (nx 28 ls r h) (nx 15 ls r h)) Q := G_unf rfl rfl
theorem g248_15 : G d 248 15 ls st h Q ↔ GN d 248 15 ls h (nx 18 ls (.int (nI 999) :: st) h) Q := G_unf rfl rfl
theorem g248_18 : G d 248 18 ls st h Q ↔ GN d 248 18 ls h (ldR ls 0 fun a => nx 19 ls (.ref a :: st) h) Q := G_unf rfl rfl
theorem g248_19 : G d 248 19 ls st h Q ↔ GN d 248 19 ls h (pR st fun a r => ck (arr h a 9) (nx 22 ls (rv (hR h a 51) :: r) h)) Q := G_unf rfl rfl
theorem g248_22 : G d 248 22 ls st h Q ↔ GN d 248 22 ls h (nx 23 ls (.int (nI 0) :: st) h) Q := G_unf rfl rfl
theorem g248_23 : G d 248 23 ls st h Q ↔ GN d 248 23 ls h (pRI st fun a i r => br (a = 1000003) (ck (inb i (hS h).1) (nx 24 ls (.int ((hS h).2 i.toNatClampNeg) :: r) h)) (ck (arr h a 10 ∧ inb i (hLn h a)) (nx 24 ls (.int (hI h a i.toNatClampNeg) :: r) h))) Q := G_unf rfl rfl
theorem g248_24 : G d 248 24 ls st h Q ↔ GN d 248 24 ls h (pII st fun x y r => nx 25 ls (.int (x - y) :: r) h) Q := G_unf rfl rfl
theorem g248_25 : G d 248 25 ls st h Q ↔ GN d 248 25 ls h (nx 30 ls st h) Q := G_unf rfl rfl
theorem g248_28 : G d 248 28 ls st h Q ↔ GN d 248 28 ls h (nx 30 ls (.int (nI 40) :: st) h) Q := G_unf rfl rfl
theorem g248_30 : G d 248 30 ls st h Q ↔ GN d 248 30 ls h (pIe st fun x => rtn (some (.int x))) Q := G_unf rfl rfl
theorem g249_0 : G d 249 0 ls st h Q ↔ GN d 249 0 ls h (ldI ls 1 fun x => nx 1 ls (.int x :: st) h) Q := G_unf rfl rfl
theorem g249_1 : G d 249 1 ls st h Q ↔ GN d 249 1 ls h (nx 2 ls (.int (nI 0) :: st) h) Q := G_unf rfl rfl
theorem g249_2 : G d 249 2 ls st h Q ↔ GN d 249 2 ls h (ldR ls 0 fun a => nx 3 ls (.ref a :: st) h) Q := G_unf rfl rfl
theorem g249_3 : G d 249 3 ls st h Q ↔ GN d 249 3 ls h (pA 0 st fun as r => pR r fun a r => ck (r.length ≤ 4 ∧ arr h a 9) (cll 248 (.ref a :: as) r)) Q := G_unf rfl rfl
theorem g249_6 : G d 249 6 ls st h Q ↔ GN d 249 6 ls h (pA 3 st fun as r => ck (r.length ≤ 4) (cll 156 as r)) Q := G_unf rfl rfl
theorem g249_9 : G d 249 9 ls st h Q ↔ GN d 249 9 ls h (pIe st fun x => ck (x = 0 ∨ x = 1) (rtn (some (.int x)))) Q := G_unf rfl rfl
theorem g250_0 : G d 250 0 ls st h Q ↔ GN d 250 0 ls h (ldR ls 0 fun a => nx 1 ls (.ref a :: st) h) Q := G_unf rfl rfl
theorem g250_1 : G d 250 1 ls st h Q ↔ GN d 250 1 ls h (nx 2 ls (.int (nI 1) :: st) h) Q := G_unf rfl rfl
theorem g250_2 : G d 250 2 ls st h Q ↔ GN d 250 2 ls h (nx 3 ls (.int (nI 0) :: st) h) Q := G_unf rfl rfl
theorem g250_3 : G d 250 3 ls st h Q ↔ GN d 250 3 ls h (pA 2 st fun as r => pR r fun a r => ck (r.length ≤ 4 ∧ arr h a 9) (cll 207 (.ref a :: as) r)) Q := G_unf rfl rfl
theorem g250_6 : G d 250 6 ls st h Q ↔ GN d 250 6 ls h (nx 7 ls (.int (nI 0) :: st) h) Q := G_unf rfl rfl
theorem g250_7 : G d 250 7 ls st h Q ↔ GN d 250 7 ls h (pI st fun x r => ck (2 < ls.length) (nx 8 (st1 ls 2 (.int x)) r h)) Q := G_unf rfl rfl
theorem g250_8 : G d 250 8 ls st h Q ↔ GN d 250 8 ls h (ldI ls 2 fun x => nx 9 ls (.int x :: st) h) Q := G_unf rfl rfl
theorem g250_9 : G d 250 9 ls st h Q ↔ GN d 250 9 ls h (ldI ls 1 fun x => nx 10 ls (.int x :: st) h) Q := G_unf rfl rfl
theorem g250_10 : G d 250 10 ls st h Q ↔ GN d 250 10 ls h (pII st fun x y r => br (y ≤ x) (nx 24 ls r h) (nx 13 ls r h)) Q := G_unf rfl rfl
theorem g250_13 : G d 250 13 ls st h Q ↔ GN d 250 13 ls h (ldR ls 0 fun a => nx 14 ls (.ref a :: st) h) Q := G_unf rfl rfl
theorem g250_14 : G d 250 14 ls st h Q ↔ GN d 250 14 ls h (nx 15 ls (.int (nI 1) :: st) h) Q := G_unf rfl rfl
theorem g250_15 : G d 250 15 ls st h Q ↔ GN d 250 15 ls h (pA 1 st fun as r => pR r fun a r => ck (r.length ≤ 4 ∧ arr h a 9) (cll 230 (.ref a :: as) r)) Q := G_unf rfl rfl
theorem g250_18 : G d 250 18 ls st h Q ↔ GN d 250 18 ls h (ldI ls 2 fun x => nx 21 (st1 ls 2 (.int (x + (nI 1)))) st h) Q := G_unf rfl rfl
theorem g250_21 : G d 250 21 ls st h Q ↔ GN d 250 21 ls h (nx 8 ls st h) Q := G_unf rfl rfl
theorem g250_24 : G d 250 24 ls st h Q ↔ GN d 250 24 ls h (pE st (rtn none)) Q := G_unf rfl rfl
theorem g251_0 : G d 251 0 ls st h Q ↔ GN d 251 0 ls h (ldR ls 0 fun a => nx 1 ls (.ref a :: st) h) Q := G_unf rfl rfl
theorem g251_1 : G d 251 1 ls st h Q ↔ GN d 251 1 ls h (ldI ls 1 fun x => nx 2 ls (.int x :: st) h) Q := G_unf rfl rfl
theorem g251_2 : G d 251 2 ls st h Q ↔ GN d 251 2 ls h (pA 1 st fun as r => pR r fun a r => ck (r.length ≤ 4 ∧ arr h a 9) (cll 203 (.ref a :: as) r)) Q := G_unf rfl rfl
theorem g251_5 : G d 251 5 ls st h Q ↔ GN d 251 5 ls h (pI st fun x r => br (x = 0) (nx 16 ls r h) (nx 8 ls r h)) Q := G_unf rfl rfl
theorem g251_8 : G d 251 8 ls st h Q ↔ GN d 251 8 ls h (ldR ls 0 fun a => nx 9 ls (.ref a :: st) h) Q := G_unf rfl rfl
theorem g251_9 : G d 251 9 ls st h Q ↔ GN d 251 9 ls h (ldI ls 2 fun x => nx 10 ls (.int x :: st) h) Q := G_unf rfl rfl
theorem g251_10 : G d 251 10 ls st h Q ↔ GN d 251 10 ls h (pA 1 st fun as r => pR r fun a r => ck (r.length ≤ 4 ∧ arr h a 9) (cll 202 (.ref a :: as) r)) Q := G_unf rfl rfl
theorem g251_13 : G d 251 13 ls st h Q ↔ GN d 251 13 ls h (pI st fun x r => br (¬ x = 0) (nx 18 ls r h) (nx 16 ls r h)) Q := G_unf rfl rfl
theorem g251_16 : G d 251 16 ls st h Q ↔ GN d 251 16 ls h (nx 17 ls (.int (-1) :: st) h) Q := G_unf rfl rfl
theorem g251_17 : G d 251 17 ls st h Q ↔ GN d 251 17 ls h (pIe st fun x => rtn (some (.int x))) Q := G_unf rfl rfl
theorem g251_18 : G d 251 18 ls st h Q ↔ GN d 251 18 ls h (ldR ls 0 fun a => nx 19 ls (.ref a :: st) h) Q := G_unf rfl rfl
theorem g251_19 : G d 251 19 ls st h Q ↔ GN d 251 19 ls h (nx 20 ls (.int (nI 1) :: st) h) Q := G_unf rfl rfl
theorem g251_20 : G d 251 20 ls st h Q ↔ GN d 251 20 ls h (nx 21 ls (.int (nI 0) :: st) h) Q := G_unf rfl rfl
theorem g251_21 : G d 251 21 ls st h Q ↔ GN d 251 21 ls h (pA 2 st fun as r => pR r fun a r => ck (r.length ≤ 4 ∧ arr h a 9) (cll 207 (.ref a :: as) r)) Q := G_unf rfl rfl
theorem g251_24 : G d 251 24 ls st h Q ↔ GN d 251 24 ls h (nx 25 ls (.int (nI 0) :: st) h) Q := G_unf rfl rfl
theorem g251_25 : G d 251 25 ls st h Q ↔ GN d 251 25 ls h (pI st fun x r => ck (3 < ls.length) (nx 26 (st1 ls 3 (.int x)) r h)) Q := G_unf rfl rfl
theorem g251_26 : G d 251 26 ls st h Q ↔ GN d 251 26 ls h (ldI ls 3 fun x => nx 27 ls (.int x :: st) h) Q := G_unf rfl rfl
theorem g251_27 : G d 251 27 ls st h Q ↔ GN d 251 27 ls h (ldR ls 0 fun a => nx 28 ls (.ref a :: st) h) Q := G_unf rfl rfl
theorem g251_28 : G d 251 28 ls st h Q ↔ GN d 251 28 ls h (pA 0 st fun as r => pR r fun a r => ck (r.length ≤ 4 ∧ arr h a 9) (cll 248 (.ref a :: as) r)) Q := G_unf rfl rfl
theorem g251_31 : G d 251 31 ls st h Q ↔ GN d 251 31 ls h (pII st fun x y r => br (y < x) (nx 76 ls r h) (nx 34 ls r h)) Q := G_unf rfl rfl
theorem g251_34 : G d 251 34 ls st h Q ↔ GN d 251 34 ls h (ldR ls 0 fun a => nx 35 ls (.ref a :: st) h) Q := G_unf rfl rfl
theorem g251_35 : G d 251 35 ls st h Q ↔ GN d 251 35 ls h (pR st fun a r => ck (arr h a 9) (nx 38 ls (rv (hR h a 52) :: r) h)) Q := G_unf rfl rfl
theorem g251_38 : G d 251 38 ls st h Q ↔ GN d 251 38 ls h (nx 40 ls (.int (nI 8) :: st) h) Q := G_unf rfl rfl
theorem g251_40 : G d 251 40 ls st h Q ↔ GN d 251 40 ls h (ldI ls 1 fun x => nx 41 ls (.int x :: st) h) Q := G_unf rfl rfl
theorem g251_41 : G d 251 41 ls st h Q ↔ GN d 251 41 ls h (pII st fun x y r => nx 42 ls (.int (x + y) :: r) h) Q := G_unf rfl rfl
theorem g251_42 : G d 251 42 ls st h Q ↔ GN d 251 42 ls h (pRI st fun a i r => br (a = 1000003) (ck (inb i (hS h).1) (nx 43 ls (.int ((hS h).2 i.toNatClampNeg) :: r) h)) (ck (arr h a 10 ∧ inb i (hLn h a)) (nx 43 ls (.int (hI h a i.toNatClampNeg) :: r) h))) Q := G_unf rfl rfl
theorem g251_43 : G d 251 43 ls st h Q ↔ GN d 251 43 ls h (ldI ls 2 fun x => nx 44 ls (.int x :: st) h) Q := G_unf rfl rfl
theorem g251_44 : G d 251 44 ls st h Q ↔ GN d 251 44 ls h (pA 2 st fun as r => ck (r.length ≤ 4) (cll 205 as r)) Q := G_unf rfl rfl
theorem g251_47 : G d 251 47 ls st h Q ↔ GN d 251 47 ls h (pI st fun x r => br (x = 0) (nx 57 ls r h) (nx 50 ls r h)) Q := G_unf rfl rfl
theorem g251_50 : G d 251 50 ls st h Q ↔ GN d 251 50 ls h (ldR ls 0 fun a => nx 51 ls (.ref a :: st) h) Q := G_unf rfl rfl
theorem g251_51 : G d 251 51 ls st h Q ↔ GN d 251 51 ls h (pR st fun a r => ck (arr h a 9) (nx 54 ls (rv (hR h a 51) :: r) h)) Q := G_unf rfl rfl
theorem g251_54 : G d 251 54 ls st h Q ↔ GN d 251 54 ls h (nx 55 ls (.int (nI 1) :: st) h) Q := G_unf rfl rfl
theorem g251_55 : G d 251 55 ls st h Q ↔ GN d 251 55 ls h (pRI st fun a i r => br (a = 1000003) (ck (inb i (hS h).1) (nx 56 ls (.int ((hS h).2 i.toNatClampNeg) :: r) h)) (ck (arr h a 10 ∧ inb i (hLn h a)) (nx 56 ls (.int (hI h a i.toNatClampNeg) :: r) h))) Q := G_unf rfl rfl
theorem g251_56 : G d 251 56 ls st h Q ↔ GN d 251 56 ls h (pIe st fun x => rtn (some (.int x))) Q := G_unf rfl rfl
theorem g251_57 : G d 251 57 ls st h Q ↔ GN d 251 57 ls h (ldI ls 3 fun x => nx 58 ls (.int x :: st) h) Q := G_unf rfl rfl
theorem g251_58 : G d 251 58 ls st h Q ↔ GN d 251 58 ls h (ldR ls 0 fun a => nx 59 ls (.ref a :: st) h) Q := G_unf rfl rfl
theorem g251_59 : G d 251 59 ls st h Q ↔ GN d 251 59 ls h (pA 0 st fun as r => pR r fun a r => ck (r.length ≤ 4 ∧ arr h a 9) (cll 248 (.ref a :: as) r)) Q := G_unf rfl rfl
theorem g251_62 : G d 251 62 ls st h Q ↔ GN d 251 62 ls h (pII st fun x y r => br (y ≤ x) (nx 70 ls r h) (nx 65 ls r h)) Q := G_unf rfl rfl
theorem g251_65 : G d 251 65 ls st h Q ↔ GN d 251 65 ls h (ldR ls 0 fun a => nx 66 ls (.ref a :: st) h) Q := G_unf rfl rfl
theorem g251_66 : G d 251 66 ls st h Q ↔ GN d 251 66 ls h (nx 67 ls (.int (nI 1) :: st) h) Q := G_unf rfl rfl
theorem g251_67 : G d 251 67 ls st h Q ↔ GN d 251 67 ls h (pA 1 st fun as r => pR r fun a r => ck (r.length ≤ 4 ∧ arr h a 9) (cll 230 (.ref a :: as) r)) Q := G_unf rfl rfl
theorem g251_70 : G d 251 70 ls st h Q ↔ GN d 251 70 ls h (ldI ls 3 fun x => nx 73 (st1 ls 3 (.int (x + (nI 1)))) st h) Q := G_unf rfl rfl
theorem g251_73 : G d 251 73 ls st h Q ↔ GN d 251 73 ls h (nx 26 ls st h) Q := G_unf rfl rfl
theorem g251_76 : G d 251 76 ls st h Q ↔ GN d 251 76 ls h (nx 77 ls (.int (-1) :: st) h) Q := G_unf rfl rfl
theorem g251_77 : G d 251 77 ls st h Q ↔ GN d 251 77 ls h (pIe st fun x => rtn (some (.int x))) Q := G_unf rfl rfl
theorem g252_0 : G d 252 0 ls st h Q ↔ GN d 252 0 ls h (ldI ls 1 fun x => nx 1 ls (.int x :: st) h) Q := G_unf rfl rfl
theorem g252_1 : G d 252 1 ls st h Q ↔ GN d 252 1 ls h (nx 2 ls (.int (nI 0) :: st) h) Q := G_unf rfl rfl
theorem g252_2 : G d 252 2 ls st h Q ↔ GN d 252 2 ls h (nx 3 ls (.int (nI 3) :: st) h) Q := G_unf rfl rfl
theorem g252_3 : G d 252 3 ls st h Q ↔ GN d 252 3 ls h (pA 3 st fun as r => ck (r.length ≤ 4) (cll 156 as r)) Q := G_unf rfl rfl
theorem g252_6 : G d 252 6 ls st h Q ↔ GN d 252 6 ls h (pI st fun x r => br (¬ x = 0) (nx 11 ls r h) (nx 9 ls r h)) Q := G_unf rfl rfl
theorem g252_9 : G d 252 9 ls st h Q ↔ GN d 252 9 ls h (nx 10 ls (.int (-1) :: st) h) Q := G_unf rfl rfl
theorem g252_10 : G d 252 10 ls st h Q ↔ GN d 252 10 ls h (pIe st fun x => rtn (some (.int x))) Q := G_unf rfl rfl
theorem g252_11 : G d 252 11 ls st h Q ↔ GN d 252 11 ls h (ldR ls 0 fun a => nx 12 ls (.ref a :: st) h) Q := G_unf rfl rfl
theorem g252_12 : G d 252 12 ls st h Q ↔ GN d 252 12 ls h (nx 13 ls (.int (nI 1) :: st) h) Q := G_unf rfl rfl
theorem g252_13 : G d 252 13 ls st h Q ↔ GN d 252 13 ls h (nx 14 ls (.int (nI 0) :: st) h) Q := G_unf rfl rfl
theorem g252_14 : G d 252 14 ls st h Q ↔ GN d 252 14 ls h (pA 2 st fun as r => pR r fun a r => ck (r.length ≤ 4 ∧ arr h a 9) (cll 207 (.ref a :: as) r)) Q := G_unf rfl rfl
theorem g252_17 : G d 252 17 ls st h Q ↔ GN d 252 17 ls h (ldR ls 0 fun a => nx 18 ls (.ref a :: st) h) Q := G_unf rfl rfl
theorem g252_18 : G d 252 18 ls st h Q ↔ GN d 252 18 ls h (nx 19 ls (.int (nI 0) :: st) h) Q := G_unf rfl rfl
theorem g252_19 : G d 252 19 ls st h Q ↔ GN d 252 19 ls h (pRI st fun a x r => ck (arr h a 9) (nx 22 ls r (sI h a 69 x))) Q := G_unf rfl rfl
theorem g252_22 : G d 252 22 ls st h Q ↔ GN d 252 22 ls h (nx 23 ls (.int (nI 0) :: st) h) Q := G_unf rfl rfl
theorem g252_23 : G d 252 23 ls st h Q ↔ GN d 252 23 ls h (pI st fun x r => ck (2 < ls.length) (nx 24 (st1 ls 2 (.int x)) r h)) Q := G_unf rfl rfl
theorem g252_24 : G d 252 24 ls st h Q ↔ GN d 252 24 ls h (ldI ls 2 fun x => nx 25 ls (.int x :: st) h) Q := G_unf rfl rfl
theorem g252_25 : G d 252 25 ls st h Q ↔ GN d 252 25 ls h (ldR ls 0 fun a => nx 26 ls (.ref a :: st) h) Q := G_unf rfl rfl
theorem g252_26 : G d 252 26 ls st h Q ↔ GN d 252 26 ls h (pA 0 st fun as r => pR r fun a r => ck (r.length ≤ 4 ∧ arr h a 9) (cll 248 (.ref a :: as) r)) Q := G_unf rfl rfl
theorem g252_29 : G d 252 29 ls st h Q ↔ GN d 252 29 ls h (pII st fun x y r => br (y ≤ x) (nx 50 ls r h) (nx 32 ls r h)) Q := G_unf rfl rfl
theorem g252_32 : G d 252 32 ls st h Q ↔ GN d 252 32 ls h (ldR ls 0 fun a => nx 33 ls (.ref a :: st) h) Q := G_unf rfl rfl
theorem g252_33 : G d 252 33 ls st h Q ↔ GN d 252 33 ls h (pR st fun a r => ck (arr h a 9) (nx 36 ls (.int (hI h a 69) :: r) h)) Q := G_unf rfl rfl
theorem g252_36 : G d 252 36 ls st h Q ↔ GN d 252 36 ls h (pI st fun x r => br (¬ x = 0) (nx 50 ls r h) (nx 39 ls r h)) Q := G_unf rfl rfl
theorem g252_39 : G d 252 39 ls st h Q ↔ GN d 252 39 ls h (ldR ls 0 fun a => nx 40 ls (.ref a :: st) h) Q := G_unf rfl rfl
theorem g252_40 : G d 252 40 ls st h Q ↔ GN d 252 40 ls h (nx 41 ls (.int (nI 1) :: st) h) Q := G_unf rfl rfl
theorem g252_41 : G d 252 41 ls st h Q ↔ GN d 252 41 ls h (pA 1 st fun as r => pR r fun a r => ck (r.length ≤ 4 ∧ arr h a 9) (cll 230 (.ref a :: as) r)) Q := G_unf rfl rfl
theorem g252_44 : G d 252 44 ls st h Q ↔ GN d 252 44 ls h (ldI ls 2 fun x => nx 47 (st1 ls 2 (.int (x + (nI 1)))) st h) Q := G_unf rfl rfl
theorem g252_47 : G d 252 47 ls st h Q ↔ GN d 252 47 ls h (nx 24 ls st h) Q := G_unf rfl rfl
theorem g252_50 : G d 252 50 ls st h Q ↔ GN d 252 50 ls h (ldR ls 0 fun a => nx 51 ls (.ref a :: st) h) Q := G_unf rfl rfl
theorem g252_51 : G d 252 51 ls st h Q ↔ GN d 252 51 ls h (pR st fun a r => ck (arr h a 9) (nx 54 ls (.int (hI h a 69) :: r) h)) Q := G_unf rfl rfl
theorem g252_54 : G d 252 54 ls st h Q ↔ GN d 252 54 ls h (pI st fun x r => br (¬ x = 0) (nx 59 ls r h) (nx 57 ls r h)) Q := G_unf rfl rfl
theorem g252_57 : G d 252 57 ls st h Q ↔ GN d 252 57 ls h (nx 58 ls (.int (-1) :: st) h) Q := G_unf rfl rfl
theorem g252_58 : G d 252 58 ls st h Q ↔ GN d 252 58 ls h (pIe st fun x => rtn (some (.int x))) Q := G_unf rfl rfl
theorem g252_59 : G d 252 59 ls st h Q ↔ GN d 252 59 ls h (ldI ls 1 fun x => nx 60 ls (.int x :: st) h) Q := G_unf rfl rfl
theorem g252_60 : G d 252 60 ls st h Q ↔ GN d 252 60 ls h (pI st fun x r => br (¬ x = 0) (nx 70 ls r h) (nx 63 ls r h)) Q := G_unf rfl rfl
theorem g252_63 : G d 252 63 ls st h Q ↔ GN d 252 63 ls h (ldR ls 0 fun a => nx 64 ls (.ref a :: st) h) Q := G_unf rfl rfl
theorem g252_64 : G d 252 64 ls st h Q ↔ GN d 252 64 ls h (pR st fun a r => ck (arr h a 9) (nx 67 ls (.int (hI h a 70) :: r) h)) Q := G_unf rfl rfl
theorem g252_67 : G d 252 67 ls st h Q ↔ GN d 252 67 ls h (nx 98 ls st h) Q := G_unf rfl rfl
theorem g252_70 : G d 252 70 ls st h Q ↔ GN d 252 70 ls h (ldI ls 1 fun x => nx 71 ls (.int x :: st) h) Q := G_unf rfl rfl
theorem g252_71 : G d 252 71 ls st h Q ↔ GN d 252 71 ls h (nx 72 ls (.int (nI 1) :: st) h) Q := G_unf rfl rfl
theorem g252_72 : G d 252 72 ls st h Q ↔ GN d 252 72 ls h (pII st fun x y r => br (¬ x = y) (nx 82 ls r h) (nx 75 ls r h)) Q := G_unf rfl rfl
theorem g252_75 : G d 252 75 ls st h Q ↔ GN d 252 75 ls h (ldR ls 0 fun a => nx 76 ls (.ref a :: st) h) Q := G_unf rfl rfl
theorem g252_76 : G d 252 76 ls st h Q ↔ GN d 252 76 ls h (pR st fun a r => ck (arr h a 9) (nx 79 ls (.int (hI h a 71) :: r) h)) Q := G_unf rfl rfl
theorem g252_79 : G d 252 79 ls st h Q ↔ GN d 252 79 ls h (nx 98 ls st h) Q := G_unf rfl rfl
theorem g252_82 : G d 252 82 ls st h Q ↔ GN d 252 82 ls h (ldI ls 1 fun x => nx 83 ls (.int x :: st) h) Q := G_unf rfl rfl
theorem g252_83 : G d 252 83 ls st h Q ↔ GN d 252 83 ls h (nx 84 ls (.int (nI 2) :: st) h) Q := G_unf rfl rfl
theorem g252_84 : G d 252 84 ls st h Q ↔ GN d 252 84 ls h (pII st fun x y r => br (¬ x = y) (nx 94 ls r h) (nx 87 ls r h)) Q := G_unf rfl rfl
theorem g252_87 : G d 252 87 ls st h Q ↔ GN d 252 87 ls h (ldR ls 0 fun a => nx 88 ls (.ref a :: st) h) Q := G_unf rfl rfl
theorem g252_88 : G d 252 88 ls st h Q ↔ GN d 252 88 ls h (pR st fun a r => ck (arr h a 9) (nx 91 ls (.int (hI h a 72) :: r) h)) Q := G_unf rfl rfl
theorem g252_91 : G d 252 91 ls st h Q ↔ GN d 252 91 ls h (nx 98 ls st h) Q := G_unf rfl rfl
theorem g252_94 : G d 252 94 ls st h Q ↔ GN d 252 94 ls h (ldR ls 0 fun a => nx 95 ls (.ref a :: st) h) Q := G_unf rfl rfl
theorem g252_95 : G d 252 95 ls st h Q ↔ GN d 252 95 ls h (pR st fun a r => ck (arr h a 9) (nx 98 ls (.int (hI h a 73) :: r) h)) Q := G_unf rfl rfl
theorem g252_98 : G d 252 98 ls st h Q ↔ GN d 252 98 ls h (pIe st fun x => rtn (some (.int x))) Q := G_unf rfl rfl
theorem g253_0 : G d 253 0 ls st h Q ↔ GN d 253 0 ls h (ldR ls 0 fun a => nx 1 ls (.ref a :: st) h) Q := G_unf rfl rfl
theorem g253_1 : G d 253 1 ls st h Q ↔ GN d 253 1 ls h (ldI ls 1 fun x => nx 2 ls (.int x :: st) h) Q := G_unf rfl rfl
theorem g253_2 : G d 253 2 ls st h Q ↔ GN d 253 2 ls h (pA 1 st fun as r => pR r fun a r => ck (r.length ≤ 4 ∧ arr h a 9) (cll 203 (.ref a :: as) r)) Q := G_unf rfl rfl
theorem g253_5 : G d 253 5 ls st h Q ↔ GN d 253 5 ls h (pI st fun x r => br (x = 0) (nx 16 ls r h) (nx 8 ls r h)) Q := G_unf rfl rfl
theorem g253_8 : G d 253 8 ls st h Q ↔ GN d 253 8 ls h (ldR ls 0 fun a => nx 9 ls (.ref a :: st) h) Q := G_unf rfl rfl
theorem g253_9 : G d 253 9 ls st h Q ↔ GN d 253 9 ls h (ldI ls 2 fun x => nx 10 ls (.int x :: st) h) Q := G_unf rfl rfl
theorem g253_10 : G d 253 10 ls st h Q ↔ GN d 253 10 ls h (pA 1 st fun as r => pR r fun a r => ck (r.length ≤ 4 ∧ arr h a 9) (cll 249 (.ref a :: as) r)) Q := G_unf rfl rfl
theorem g253_13 : G d 253 13 ls st h Q ↔ GN d 253 13 ls h (pI st fun x r => br (¬ x = 0) (nx 18 ls r h) (nx 16 ls r h)) Q := G_unf rfl rfl
theorem g253_16 : G d 253 16 ls st h Q ↔ GN d 253 16 ls h (nx 17 ls (.int (-1) :: st) h) Q := G_unf rfl rfl
theorem g253_17 : G d 253 17 ls st h Q ↔ GN d 253 17 ls h (pIe st fun x => rtn (some (.int x))) Q := G_unf rfl rfl
theorem g253_18 : G d 253 18 ls st h Q ↔ GN d 253 18 ls h (ldR ls 0 fun a => nx 19 ls (.ref a :: st) h) Q := G_unf rfl rfl
theorem g253_19 : G d 253 19 ls st h Q ↔ GN d 253 19 ls h (ldI ls 2 fun x => nx 20 ls (.int x :: st) h) Q := G_unf rfl rfl
theorem g253_20 : G d 253 20 ls st h Q ↔ GN d 253 20 ls h (pA 1 st fun as r => pR r fun a r => ck (r.length ≤ 4 ∧ arr h a 9) (cll 250 (.ref a :: as) r)) Q := G_unf rfl rfl
theorem g253_23 : G d 253 23 ls st h Q ↔ GN d 253 23 ls h (ldR ls 0 fun a => nx 24 ls (.ref a :: st) h) Q := G_unf rfl rfl
theorem g253_24 : G d 253 24 ls st h Q ↔ GN d 253 24 ls h (nx 25 ls (.int (nI 1) :: st) h) Q := G_unf rfl rfl
theorem g253_25 : G d 253 25 ls st h Q ↔ GN d 253 25 ls h (ldI ls 1 fun x => nx 26 ls (.int x :: st) h) Q := G_unf rfl rfl
theorem g253_26 : G d 253 26 ls st h Q ↔ GN d 253 26 ls h (pA 2 st fun as r => pR r fun a r => ck (r.length ≤ 4 ∧ arr h a 9) (cll 217 (.ref a :: as) r)) Q := G_unf rfl rfl
theorem g253_29 : G d 253 29 ls st h Q ↔ GN d 253 29 ls h (pIe st fun x => rtn (some (.int x))) Q := G_unf rfl rfl
theorem g254_0 : G d 254 0 ls st h Q ↔ GN d 254 0 ls h (ldI ls 1 fun x => nx 1 ls (.int x :: st) h) Q := G_unf rfl rfl
theorem g254_1 : G d 254 1 ls st h Q ↔ GN d 254 1 ls h (nx 2 ls (.int (nI 0) :: st) h) Q := G_unf rfl rfl
theorem g254_2 : G d 254 2 ls st h Q ↔ GN d 254 2 ls h (nx 3 ls (.int (nI 1) :: st) h) Q := G_unf rfl rfl
theorem g254_3 : G d 254 3 ls st h Q ↔ GN d 254 3 ls h (ldR ls 0 fun a => nx 4 ls (.ref a :: st) h) Q := G_unf rfl rfl
theorem g254_4 : G d 254 4 ls st h Q ↔ GN d 254 4 ls h (pR st fun a r => ck (arr h a 9) (nx 7 ls (rv (hR h a 20) :: r) h)) Q := G_unf rfl rfl
theorem g254_7 : G d 254 7 ls st h Q ↔ GN d 254 7 ls h (ldR ls 0 fun a => nx 8 ls (.ref a :: st) h) Q := G_unf rfl rfl
theorem g254_8 : G d 254 8 ls st h Q ↔ GN d 254 8 ls h (pR st fun a r => ck (arr h a 9) (nx 11 ls (.int (hI h a 13) :: r) h)) Q := G_unf rfl rfl
theorem g254_11 : G d 254 11 ls st h Q ↔ GN d 254 11 ls h (pRI st fun a i r => br (a = 1000003) (ck (inb i (hS h).1) (nx 12 ls (.int ((hS h).2 i.toNatClampNeg) :: r) h)) (ck (arr h a 10 ∧ inb i (hLn h a)) (nx 12 ls (.int (hI h a i.toNatClampNeg) :: r) h))) Q := G_unf rfl rfl
theorem g254_12 : G d 254 12 ls st h Q ↔ GN d 254 12 ls h (pII st fun x y r => nx 13 ls (.int (x <<< (y &&& 31)) :: r) h) Q := G_unf rfl rfl
theorem g254_13 : G d 254 13 ls st h Q ↔ GN d 254 13 ls h (nx 14 ls (.int (nI 1) :: st) h) Q := G_unf rfl rfl
theorem g254_14 : G d 254 14 ls st h Q ↔ GN d 254 14 ls h (pII st fun x y r => nx 15 ls (.int (x - y) :: r) h) Q := G_unf rfl rfl
theorem g254_15 : G d 254 15 ls st h Q ↔ GN d 254 15 ls h (pA 3 st fun as r => ck (r.length ≤ 4) (cll 156 as r)) Q := G_unf rfl rfl
theorem g254_18 : G d 254 18 ls st h Q ↔ GN d 254 18 ls h (pI st fun x r => br (x = 0) (nx 37 ls r h) (nx 21 ls r h)) Q := G_unf rfl rfl
theorem g254_21 : G d 254 21 ls st h Q ↔ GN d 254 21 ls h (ldR ls 0 fun a => nx 22 ls (.ref a :: st) h) Q := G_unf rfl rfl
theorem g254_22 : G d 254 22 ls st h Q ↔ GN d 254 22 ls h (ldI ls 2 fun x => nx 23 ls (.int x :: st) h) Q := G_unf rfl rfl
theorem g254_23 : G d 254 23 ls st h Q ↔ GN d 254 23 ls h (pA 1 st fun as r => pR r fun a r => ck (r.length ≤ 4 ∧ arr h a 9) (cll 202 (.ref a :: as) r)) Q := G_unf rfl rfl
theorem g254_26 : G d 254 26 ls st h Q ↔ GN d 254 26 ls h (pI st fun x r => br (x = 0) (nx 37 ls r h) (nx 29 ls r h)) Q := G_unf rfl rfl
theorem g254_29 : G d 254 29 ls st h Q ↔ GN d 254 29 ls h (ldR ls 0 fun a => nx 30 ls (.ref a :: st) h) Q := G_unf rfl rfl
theorem g254_30 : G d 254 30 ls st h Q ↔ GN d 254 30 ls h (ldI ls 3 fun x => nx 31 ls (.int x :: st) h) Q := G_unf rfl rfl
theorem g254_31 : G d 254 31 ls st h Q ↔ GN d 254 31 ls h (pA 1 st fun as r => pR r fun a r => ck (r.length ≤ 4 ∧ arr h a 9) (cll 249 (.ref a :: as) r)) Q := G_unf rfl rfl
theorem g254_34 : G d 254 34 ls st h Q ↔ GN d 254 34 ls h (pI st fun x r => br (¬ x = 0) (nx 39 ls r h) (nx 37 ls r h)) Q := G_unf rfl rfl
theorem g254_37 : G d 254 37 ls st h Q ↔ GN d 254 37 ls h (nx 38 ls (.int (-1) :: st) h) Q := G_unf rfl rfl
theorem g254_38 : G d 254 38 ls st h Q ↔ GN d 254 38 ls h (pIe st fun x => rtn (some (.int x))) Q := G_unf rfl rfl
theorem g254_39 : G d 254 39 ls st h Q ↔ GN d 254 39 ls h (ldR ls 0 fun a => nx 40 ls (.ref a :: st) h) Q := G_unf rfl rfl
theorem g254_40 : G d 254 40 ls st h Q ↔ GN d 254 40 ls h (ldI ls 3 fun x => nx 41 ls (.int x :: st) h) Q := G_unf rfl rfl
theorem g254_41 : G d 254 41 ls st h Q ↔ GN d 254 41 ls h (pA 1 st fun as r => pR r fun a r => ck (r.length ≤ 4 ∧ arr h a 9) (cll 250 (.ref a :: as) r)) Q := G_unf rfl rfl
theorem g254_44 : G d 254 44 ls st h Q ↔ GN d 254 44 ls h (nx 45 ls (.int (nI 0) :: st) h) Q := G_unf rfl rfl
theorem g254_45 : G d 254 45 ls st h Q ↔ GN d 254 45 ls h (pI st fun x r => ck (4 < ls.length) (nx 47 (st1 ls 4 (.int x)) r h)) Q := G_unf rfl rfl
theorem g254_47 : G d 254 47 ls st h Q ↔ GN d 254 47 ls h (ldI ls 4 fun x => nx 49 ls (.int x :: st) h) Q := G_unf rfl rfl
theorem g254_49 : G d 254 49 ls st h Q ↔ GN d 254 49 ls h (ldR ls 0 fun a => nx 50 ls (.ref a :: st) h) Q := G_unf rfl rfl
theorem g254_50 : G d 254 50 ls st h Q ↔ GN d 254 50 ls h (pR st fun a r => ck (arr h a 9) (nx 53 ls (rv (hR h a 20) :: r) h)) Q := G_unf rfl rfl
theorem g254_53 : G d 254 53 ls st h Q ↔ GN d 254 53 ls h (ldR ls 0 fun a => nx 54 ls (.ref a :: st) h) Q := G_unf rfl rfl
theorem g254_54 : G d 254 54 ls st h Q ↔ GN d 254 54 ls h (pR st fun a r => ck (arr h a 9) (nx 57 ls (.int (hI h a 13) :: r) h)) Q := G_unf rfl rfl
theorem g254_57 : G d 254 57 ls st h Q ↔ GN d 254 57 ls h (pRI st fun a i r => br (a = 1000003) (ck (inb i (hS h).1) (nx 58 ls (.int ((hS h).2 i.toNatClampNeg) :: r) h)) (ck (arr h a 10 ∧ inb i (hLn h a)) (nx 58 ls (.int (hI h a i.toNatClampNeg) :: r) h))) Q := G_unf rfl rfl
theorem g254_58 : G d 254 58 ls st h Q ↔ GN d 254 58 ls h (pII st fun x y r => br (y ≤ x) (nx 95 ls r h) (nx 61 ls r h)) Q := G_unf rfl rfl
theorem g254_61 : G d 254 61 ls st h Q ↔ GN d 254 61 ls h (ldI ls 1 fun x => nx 62 ls (.int x :: st) h) Q := G_unf rfl rfl
theorem g254_62 : G d 254 62 ls st h Q ↔ GN d 254 62 ls h (ldI ls 4 fun x => nx 64 ls (.int x :: st) h) Q := G_unf rfl rfl
theorem g254_64 : G d 254 64 ls st h Q ↔ GN d 254 64 ls h (pA 2 st fun as r => ck (r.length ≤ 4) (cll 205 as r)) Q := G_unf rfl rfl
theorem g254_67 : G d 254 67 ls st h Q ↔ GN d 254 67 ls h (pI st fun x r => br (x = 0) (nx 89 ls r h) (nx 70 ls r h)) Q := G_unf rfl rfl
theorem g254_70 : G d 254 70 ls st h Q ↔ GN d 254 70 ls h (ldR ls 0 fun a => nx 71 ls (.ref a :: st) h) Q := G_unf rfl rfl
theorem g254_71 : G d 254 71 ls st h Q ↔ GN d 254 71 ls h (pR st fun a r => ck (arr h a 9) (nx 74 ls (rv (hR h a 52) :: r) h)) Q := G_unf rfl rfl
theorem g254_74 : G d 254 74 ls st h Q ↔ GN d 254 74 ls h (nx 76 ls (.int (nI 8) :: st) h) Q := G_unf rfl rfl
theorem g254_76 : G d 254 76 ls st h Q ↔ GN d 254 76 ls h (ldI ls 4 fun x => nx 78 ls (.int x :: st) h) Q := G_unf rfl rfl
theorem g254_78 : G d 254 78 ls st h Q ↔ GN d 254 78 ls h (pII st fun x y r => nx 79 ls (.int (x + y) :: r) h) Q := G_unf rfl rfl
theorem g254_79 : G d 254 79 ls st h Q ↔ GN d 254 79 ls h (pRI st fun a i r => br (a = 1000003) (ck (inb i (hS h).1) (nx 80 ls (.int ((hS h).2 i.toNatClampNeg) :: r) h)) (ck (arr h a 10 ∧ inb i (hLn h a)) (nx 80 ls (.int (hI h a i.toNatClampNeg) :: r) h))) Q := G_unf rfl rfl
theorem g254_80 : G d 254 80 ls st h Q ↔ GN d 254 80 ls h (ldI ls 2 fun x => nx 81 ls (.int x :: st) h) Q := G_unf rfl rfl
theorem g254_81 : G d 254 81 ls st h Q ↔ GN d 254 81 ls h (pA 2 st fun as r => ck (r.length ≤ 4) (cll 205 as r)) Q := G_unf rfl rfl
theorem g254_84 : G d 254 84 ls st h Q ↔ GN d 254 84 ls h (pI st fun x r => br (x = 0) (nx 89 ls r h) (nx 87 ls r h)) Q := G_unf rfl rfl
theorem g254_87 : G d 254 87 ls st h Q ↔ GN d 254 87 ls h (nx 88 ls (.int (nI 0) :: st) h) Q := G_unf rfl rfl
theorem g254_88 : G d 254 88 ls st h Q ↔ GN d 254 88 ls h (pIe st fun x => rtn (some (.int x))) Q := G_unf rfl rfl
theorem g254_89 : G d 254 89 ls st h Q ↔ GN d 254 89 ls h (ldI ls 4 fun x => nx 92 (st1 ls 4 (.int (x + (nI 1)))) st h) Q := G_unf rfl rfl
theorem g254_92 : G d 254 92 ls st h Q ↔ GN d 254 92 ls h (nx 47 ls st h) Q := G_unf rfl rfl
theorem g254_95 : G d 254 95 ls st h Q ↔ GN d 254 95 ls h (nx 96 ls (.int (nI 1) :: st) h) Q := G_unf rfl rfl
theorem g254_96 : G d 254 96 ls st h Q ↔ GN d 254 96 ls h (pIe st fun x => rtn (some (.int x))) Q := G_unf rfl rfl
theorem g255_0 : G d 255 0 ls st h Q ↔ GN d 255 0 ls h (ldI ls 1 fun x => nx 1 ls (.int x :: st) h) Q := G_unf rfl rfl
theorem g255_1 : G d 255 1 ls st h Q ↔ GN d 255 1 ls h (pI st fun x r => ck (2 < ls.length) (nx 2 (st1 ls 2 (.int x)) r h)) Q := G_unf rfl rfl
theorem g255_2 : G d 255 2 ls st h Q ↔ GN d 255 2 ls h (ldR ls 0 fun a => nx 3 ls (.ref a :: st) h) Q := G_unf rfl rfl
theorem g255_3 : G d 255 3 ls st h Q ↔ GN d 255 3 ls h (nx 4 ls (.int (nI 0) :: st) h) Q := G_unf rfl rfl
theorem g255_4 : G d 255 4 ls st h Q ↔ GN d 255 4 ls h (pRI st fun a x r => ck (arr h a 9) (nx 7 ls r (sI h a 75 x))) Q := G_unf rfl rfl
theorem g255_7 : G d 255 7 ls st h Q ↔ GN d 255 7 ls h (nx 8 ls (.int (nI 1) :: st) h) Q := G_unf rfl rfl
theorem g255_8 : G d 255 8 ls st h Q ↔ GN d 255 8 ls h (pI st fun x r => ck (3 < ls.length) (nx 9 (st1 ls 3 (.int x)) r h)) Q := G_unf rfl rfl
theorem g255_9 : G d 255 9 ls st h Q ↔ GN d 255 9 ls h (ldI ls 3 fun x => nx 10 ls (.int x :: st) h) Q := G_unf rfl rfl
theorem g255_10 : G d 255 10 ls st h Q ↔ GN d 255 10 ls h (pI st fun x r => br (x = 0) (nx 97 ls r h) (nx 13 ls r h)) Q := G_unf rfl rfl
theorem g255_13 : G d 255 13 ls st h Q ↔ GN d 255 13 ls h (nx 14 ls (.int (nI 0) :: st) h) Q := G_unf rfl rfl
theorem g255_14 : G d 255 14 ls st h Q ↔ GN d 255 14 ls h (pI st fun x r => ck (3 < ls.length) (nx 15 (st1 ls 3 (.int x)) r h)) Q := G_unf rfl rfl
theorem g255_15 : G d 255 15 ls st h Q ↔ GN d 255 15 ls h (nx 16 ls (.int (nI 0) :: st) h) Q := G_unf rfl rfl
theorem g255_16 : G d 255 16 ls st h Q ↔ GN d 255 16 ls h (pI st fun x r => ck (4 < ls.length) (nx 18 (st1 ls 4 (.int x)) r h)) Q := G_unf rfl rfl
theorem g255_18 : G d 255 18 ls st h Q ↔ GN d 255 18 ls h (ldI ls 4 fun x => nx 20 ls (.int x :: st) h) Q := G_unf rfl rfl
theorem g255_20 : G d 255 20 ls st h Q ↔ GN d 255 20 ls h (ldR ls 0 fun a => nx 21 ls (.ref a :: st) h) Q := G_unf rfl rfl
theorem g255_21 : G d 255 21 ls st h Q ↔ GN d 255 21 ls h (pR st fun a r => ck (arr h a 9) (nx 24 ls (rv (hR h a 17) :: r) h)) Q := G_unf rfl rfl
theorem g255_24 : G d 255 24 ls st h Q ↔ GN d 255 24 ls h (ldR ls 0 fun a => nx 25 ls (.ref a :: st) h) Q := G_unf rfl rfl
theorem g255_25 : G d 255 25 ls st h Q ↔ GN d 255 25 ls h (pR st fun a r => ck (arr h a 9) (nx 28 ls (.int (hI h a 13) :: r) h)) Q := G_unf rfl rfl
theorem g255_28 : G d 255 28 ls st h Q ↔ GN d 255 28 ls h (pRI st fun a i r => br (a = 1000003) (ck (inb i (hS h).1) (nx 29 ls (.int ((hS h).2 i.toNatClampNeg) :: r) h)) (ck (arr h a 10 ∧ inb i (hLn h a)) (nx 29 ls (.int (hI h a i.toNatClampNeg) :: r) h))) Q := G_unf rfl rfl
theorem g255_29 : G d 255 29 ls st h Q ↔ GN d 255 29 ls h (pII st fun x y r => br (y ≤ x) (nx 94 ls r h) (nx 32 ls r h)) Q := G_unf rfl rfl
theorem g255_32 : G d 255 32 ls st h Q ↔ GN d 255 32 ls h (ldR ls 0 fun a => nx 33 ls (.ref a :: st) h) Q := G_unf rfl rfl
theorem g255_33 : G d 255 33 ls st h Q ↔ GN d 255 33 ls h (ldI ls 4 fun x => nx 35 ls (.int x :: st) h) Q := G_unf rfl rfl
theorem g255_35 : G d 255 35 ls st h Q ↔ GN d 255 35 ls h (ldI ls 2 fun x => nx 36 ls (.int x :: st) h) Q := G_unf rfl rfl
theorem g255_36 : G d 255 36 ls st h Q ↔ GN d 255 36 ls h (pA 2 st fun as r => pR r fun a r => ck (r.length ≤ 4 ∧ arr h a 9) (cll 226 (.ref a :: as) r)) Q := G_unf rfl rfl
theorem g255_39 : G d 255 39 ls st h Q ↔ GN d 255 39 ls h (pI st fun x r => br (¬ x = 0) (nx 45 ls r h) (nx 42 ls r h)) Q := G_unf rfl rfl
theorem g255_42 : G d 255 42 ls st h Q ↔ GN d 255 42 ls h (nx 88 ls st h) Q := G_unf rfl rfl
theorem g255_45 : G d 255 45 ls st h Q ↔ GN d 255 45 ls h (ldI ls 2 fun x => nx 46 ls (.int x :: st) h) Q := G_unf rfl rfl
theorem g255_46 : G d 255 46 ls st h Q ↔ GN d 255 46 ls h (nx 47 ls (.int (nI 1) :: st) h) Q := G_unf rfl rfl
theorem g255_47 : G d 255 47 ls st h Q ↔ GN d 255 47 ls h (ldR ls 0 fun a => nx 48 ls (.ref a :: st) h) Q := G_unf rfl rfl
theorem g255_48 : G d 255 48 ls st h Q ↔ GN d 255 48 ls h (pR st fun a r => ck (arr h a 9) (nx 51 ls (rv (hR h a 18) :: r) h)) Q := G_unf rfl rfl
theorem g255_51 : G d 255 51 ls st h Q ↔ GN d 255 51 ls h (nx 53 ls (.int (nI 16) :: st) h) Q := G_unf rfl rfl
theorem g255_53 : G d 255 53 ls st h Q ↔ GN d 255 53 ls h (ldR ls 0 fun a => nx 54 ls (.ref a :: st) h) Q := G_unf rfl rfl
theorem g255_54 : G d 255 54 ls st h Q ↔ GN d 255 54 ls h (pR st fun a r => ck (arr h a 9) (nx 57 ls (.int (hI h a 13) :: r) h)) Q := G_unf rfl rfl
theorem g255_57 : G d 255 57 ls st h Q ↔ GN d 255 57 ls h (pII st fun x y r => nx 58 ls (.int (x * y) :: r) h) Q := G_unf rfl rfl
theorem g255_58 : G d 255 58 ls st h Q ↔ GN d 255 58 ls h (ldI ls 4 fun x => nx 60 ls (.int x :: st) h) Q := G_unf rfl rfl
theorem g255_60 : G d 255 60 ls st h Q ↔ GN d 255 60 ls h (pII st fun x y r => nx 61 ls (.int (x + y) :: r) h) Q := G_unf rfl rfl
theorem g255_61 : G d 255 61 ls st h Q ↔ GN d 255 61 ls h (pRI st fun a i r => br (a = 1000003) (ck (inb i (hS h).1) (nx 62 ls (.int ((hS h).2 i.toNatClampNeg) :: r) h)) (ck (arr h a 10 ∧ inb i (hLn h a)) (nx 62 ls (.int (hI h a i.toNatClampNeg) :: r) h))) Q := G_unf rfl rfl
theorem g255_62 : G d 255 62 ls st h Q ↔ GN d 255 62 ls h (pII st fun x y r => nx 63 ls (.int (x <<< (y &&& 31)) :: r) h) Q := G_unf rfl rfl
theorem g255_63 : G d 255 63 ls st h Q ↔ GN d 255 63 ls h (pII st fun x y r => nx 64 ls (.int (x ||| y) :: r) h) Q := G_unf rfl rfl
theorem g255_64 : G d 255 64 ls st h Q ↔ GN d 255 64 ls h (pI st fun x r => ck (2 < ls.length) (nx 65 (st1 ls 2 (.int x)) r h)) Q := G_unf rfl rfl
theorem g255_65 : G d 255 65 ls st h Q ↔ GN d 255 65 ls h (ldR ls 0 fun a => nx 66 ls (.ref a :: st) h) Q := G_unf rfl rfl
theorem g255_66 : G d 255 66 ls st h Q ↔ GN d 255 66 ls h (pR st fun a r => ck (arr h a 9) (nx 69 ls (rv (hR h a 74) :: r) h)) Q := G_unf rfl rfl
theorem g255_69 : G d 255 69 ls st h Q ↔ GN d 255 69 ls h (ldR ls 0 fun a => nx 70 ls (.ref a :: st) h) Q := G_unf rfl rfl
theorem g255_70 : G d 255 70 ls st h Q ↔ GN d 255 70 ls h (pR st fun a r => ck (arr h a 9) (nx 73 ls (.int (hI h a 75) :: r) h)) Q := G_unf rfl rfl
theorem g255_73 : G d 255 73 ls st h Q ↔ GN d 255 73 ls h (ldI ls 4 fun x => nx 75 ls (.int x :: st) h) Q := G_unf rfl rfl
theorem g255_75 : G d 255 75 ls st h Q ↔ GN d 255 75 ls h (pRII st fun a i x r => ck (arr h a 10 ∧ inb i (hLn h a)) (nx 76 ls r (sI h a i.toNatClampNeg x))) Q := G_unf rfl rfl
theorem g255_76 : G d 255 76 ls st h Q ↔ GN d 255 76 ls h (ldR ls 0 fun a => nx 77 ls (.ref a :: st) h) Q := G_unf rfl rfl
theorem g255_77 : G d 255 77 ls st h Q ↔ GN d 255 77 ls h (p1 st fun v r => nx 78 ls (v :: v :: r) h) Q := G_unf rfl rfl
theorem g255_78 : G d 255 78 ls st h Q ↔ GN d 255 78 ls h (pR st fun a r => ck (arr h a 9) (nx 81 ls (.int (hI h a 75) :: r) h)) Q := G_unf rfl rfl
theorem g255_81 : G d 255 81 ls st h Q ↔ GN d 255 81 ls h (nx 82 ls (.int (nI 1) :: st) h) Q := G_unf rfl rfl
theorem g255_82 : G d 255 82 ls st h Q ↔ GN d 255 82 ls h (pII st fun x y r => nx 83 ls (.int (x + y) :: r) h) Q := G_unf rfl rfl
theorem g255_83 : G d 255 83 ls st h Q ↔ GN d 255 83 ls h (pRI st fun a x r => ck (arr h a 9) (nx 86 ls r (sI h a 75 x))) Q := G_unf rfl rfl
theorem g255_86 : G d 255 86 ls st h Q ↔ GN d 255 86 ls h (nx 87 ls (.int (nI 1) :: st) h) Q := G_unf rfl rfl
theorem g255_87 : G d 255 87 ls st h Q ↔ GN d 255 87 ls h (pI st fun x r => ck (3 < ls.length) (nx 88 (st1 ls 3 (.int x)) r h)) Q := G_unf rfl rfl
theorem g255_88 : G d 255 88 ls st h Q ↔ GN d 255 88 ls h (ldI ls 4 fun x => nx 91 (st1 ls 4 (.int (x + (nI 1)))) st h) Q := G_unf rfl rfl
theorem g255_91 : G d 255 91 ls st h Q ↔ GN d 255 91 ls h (nx 18 ls st h) Q := G_unf rfl rfl
theorem g255_94 : G d 255 94 ls st h Q ↔ GN d 255 94 ls h (nx 9 ls st h) Q := G_unf rfl rfl
theorem g255_97 : G d 255 97 ls st h Q ↔ GN d 255 97 ls h (ldI ls 2 fun x => nx 98 ls (.int x :: st) h) Q := G_unf rfl rfl
theorem g255_98 : G d 255 98 ls st h Q ↔ GN d 255 98 ls h (pIe st fun x => rtn (some (.int x))) Q := G_unf rfl rfl
theorem g256_0 : G d 256 0 ls st h Q ↔ GN d 256 0 ls h (ldR ls 0 fun a => nx 1 ls (.ref a :: st) h) Q := G_unf rfl rfl
theorem g256_1 : G d 256 1 ls st h Q ↔ GN d 256 1 ls h (ldI ls 1 fun x => nx 2 ls (.int x :: st) h) Q := G_unf rfl rfl
theorem g256_2 : G d 256 2 ls st h Q ↔ GN d 256 2 ls h (pA 1 st fun as r => pR r fun a r => ck (r.length ≤ 4 ∧ arr h a 9) (cll 204 (.ref a :: as) r)) Q := G_unf rfl rfl
theorem g256_5 : G d 256 5 ls st h Q ↔ GN d 256 5 ls h (pI st fun x r => br (x = 0) (nx 16 ls r h) (nx 8 ls r h)) Q := G_unf rfl rfl
theorem g256_8 : G d 256 8 ls st h Q ↔ GN d 256 8 ls h (ldR ls 0 fun a => nx 9 ls (.ref a :: st) h) Q := G_unf rfl rfl
theorem g256_9 : G d 256 9 ls st h Q ↔ GN d 256 9 ls h (ldI ls 1 fun x => nx 10 ls (.int x :: st) h) Q := G_unf rfl rfl
theorem g256_10 : G d 256 10 ls st h Q ↔ GN d 256 10 ls h (pA 1 st fun as r => pR r fun a r => ck (r.length ≤ 4 ∧ arr h a 9) (cll 255 (.ref a :: as) r)) Q := G_unf rfl rfl
theorem g256_13 : G d 256 13 ls st h Q ↔ GN d 256 13 ls h (nx 17 ls st h) Q := G_unf rfl rfl
theorem g256_16 : G d 256 16 ls st h Q ↔ GN d 256 16 ls h (nx 17 ls (.int (-1) :: st) h) Q := G_unf rfl rfl
theorem g256_17 : G d 256 17 ls st h Q ↔ GN d 256 17 ls h (pIe st fun x => rtn (some (.int x))) Q := G_unf rfl rfl
theorem g257_0 : G d 257 0 ls st h Q ↔ GN d 257 0 ls h (ldR ls 0 fun a => nx 1 ls (.ref a :: st) h) Q := G_unf rfl rfl
theorem g257_1 : G d 257 1 ls st h Q ↔ GN d 257 1 ls h (ldI ls 1 fun x => nx 2 ls (.int x :: st) h) Q := G_unf rfl rfl
theorem g257_2 : G d 257 2 ls st h Q ↔ GN d 257 2 ls h (pA 1 st fun as r => pR r fun a r => ck (r.length ≤ 4 ∧ arr h a 9) (cll 204 (.ref a :: as) r)) Q := G_unf rfl rfl
theorem g257_5 : G d 257 5 ls st h Q ↔ GN d 257 5 ls h (pI st fun x r => br (x = 0) (nx 28 ls r h) (nx 8 ls r h)) Q := G_unf rfl rfl
theorem g257_8 : G d 257 8 ls st h Q ↔ GN d 257 8 ls h (ldR ls 0 fun a => nx 9 ls (.ref a :: st) h) Q := G_unf rfl rfl
theorem g257_9 : G d 257 9 ls st h Q ↔ GN d 257 9 ls h (ldI ls 2 fun x => nx 10 ls (.int x :: st) h) Q := G_unf rfl rfl
theorem g257_10 : G d 257 10 ls st h Q ↔ GN d 257 10 ls h (pA 1 st fun as r => pR r fun a r => ck (r.length ≤ 4 ∧ arr h a 9) (cll 202 (.ref a :: as) r)) Q := G_unf rfl rfl
theorem g257_13 : G d 257 13 ls st h Q ↔ GN d 257 13 ls h (pI st fun x r => br (x = 0) (nx 28 ls r h) (nx 16 ls r h)) Q := G_unf rfl rfl
theorem g257_16 : G d 257 16 ls st h Q ↔ GN d 257 16 ls h (ldR ls 0 fun a => nx 17 ls (.ref a :: st) h) Q := G_unf rfl rfl
theorem g257_17 : G d 257 17 ls st h Q ↔ GN d 257 17 ls h (ldI ls 1 fun x => nx 18 ls (.int x :: st) h) Q := G_unf rfl rfl
theorem g257_18 : G d 257 18 ls st h Q ↔ GN d 257 18 ls h (pA 1 st fun as r => pR r fun a r => ck (r.length ≤ 4 ∧ arr h a 9) (cll 255 (.ref a :: as) r)) Q := G_unf rfl rfl
theorem g257_21 : G d 257 21 ls st h Q ↔ GN d 257 21 ls h (ldI ls 2 fun x => nx 22 ls (.int x :: st) h) Q := G_unf rfl rfl
theorem g257_22 : G d 257 22 ls st h Q ↔ GN d 257 22 ls h (pA 2 st fun as r => ck (r.length ≤ 4) (cll 205 as r)) Q := G_unf rfl rfl
theorem g257_25 : G d 257 25 ls st h Q ↔ GN d 257 25 ls h (pI st fun x r => br (¬ x = 0) (nx 30 ls r h) (nx 28 ls r h)) Q := G_unf rfl rfl
theorem g257_28 : G d 257 28 ls st h Q ↔ GN d 257 28 ls h (nx 29 ls (.int (-1) :: st) h) Q := G_unf rfl rfl
theorem g257_29 : G d 257 29 ls st h Q ↔ GN d 257 29 ls h (pIe st fun x => rtn (some (.int x))) Q := G_unf rfl rfl
theorem g257_30 : G d 257 30 ls st h Q ↔ GN d 257 30 ls h (nx 31 ls (.int (nI 1) :: st) h) Q := G_unf rfl rfl
theorem g257_31 : G d 257 31 ls st h Q ↔ GN d 257 31 ls h (ldI ls 2 fun x => nx 32 ls (.int x :: st) h) Q := G_unf rfl rfl
theorem g257_32 : G d 257 32 ls st h Q ↔ GN d 257 32 ls h (pII st fun x y r => nx 33 ls (.int (x <<< (y &&& 31)) :: r) h) Q := G_unf rfl rfl
theorem g257_33 : G d 257 33 ls st h Q ↔ GN d 257 33 ls h (pI st fun x r => ck (4 < ls.length) (nx 35 (st1 ls 4 (.int x)) r h)) Q := G_unf rfl rfl
theorem g257_35 : G d 257 35 ls st h Q ↔ GN d 257 35 ls h (nx 36 ls (.int (nI 0) :: st) h) Q := G_unf rfl rfl
theorem g257_36 : G d 257 36 ls st h Q ↔ GN d 257 36 ls h (pI st fun x r => ck (5 < ls.length) (nx 38 (st1 ls 5 (.int x)) r h)) Q := G_unf rfl rfl
theorem g257_38 : G d 257 38 ls st h Q ↔ GN d 257 38 ls h (ldR ls 0 fun a => nx 39 ls (.ref a :: st) h) Q := G_unf rfl rfl
theorem g257_39 : G d 257 39 ls st h Q ↔ GN d 257 39 ls h (pR st fun a r => ck (arr h a 9) (nx 42 ls (.int (hI h a 75) :: r) h)) Q := G_unf rfl rfl
theorem g257_42 : G d 257 42 ls st h Q ↔ GN d 257 42 ls h (nx 43 ls (.int (nI 1) :: st) h) Q := G_unf rfl rfl
theorem g257_43 : G d 257 43 ls st h Q ↔ GN d 257 43 ls h (pII st fun x y r => nx 44 ls (.int (x - y) :: r) h) Q := G_unf rfl rfl
theorem g257_44 : G d 257 44 ls st h Q ↔ GN d 257 44 ls h (pI st fun x r => ck (6 < ls.length) (nx 46 (st1 ls 6 (.int x)) r h)) Q := G_unf rfl rfl
theorem g257_46 : G d 257 46 ls st h Q ↔ GN d 257 46 ls h (ldI ls 6 fun x => nx 48 ls (.int x :: st) h) Q := G_unf rfl rfl
theorem g257_48 : G d 257 48 ls st h Q ↔ GN d 257 48 ls h (pI st fun x r => br (x < 0) (nx 122 ls r h) (nx 51 ls r h)) Q := G_unf rfl rfl
theorem g257_51 : G d 257 51 ls st h Q ↔ GN d 257 51 ls h (ldI ls 4 fun x => nx 53 ls (.int x :: st) h) Q := G_unf rfl rfl
theorem g257_53 : G d 257 53 ls st h Q ↔ GN d 257 53 ls h (ldR ls 0 fun a => nx 54 ls (.ref a :: st) h) Q := G_unf rfl rfl
theorem g257_54 : G d 257 54 ls st h Q ↔ GN d 257 54 ls h (pR st fun a r => ck (arr h a 9) (nx 57 ls (rv (hR h a 18) :: r) h)) Q := G_unf rfl rfl
theorem g257_57 : G d 257 57 ls st h Q ↔ GN d 257 57 ls h (nx 59 ls (.int (nI 16) :: st) h) Q := G_unf rfl rfl
theorem g257_59 : G d 257 59 ls st h Q ↔ GN d 257 59 ls h (ldR ls 0 fun a => nx 60 ls (.ref a :: st) h) Q := G_unf rfl rfl
theorem g257_60 : G d 257 60 ls st h Q ↔ GN d 257 60 ls h (pR st fun a r => ck (arr h a 9) (nx 63 ls (.int (hI h a 13) :: r) h)) Q := G_unf rfl rfl
theorem g257_63 : G d 257 63 ls st h Q ↔ GN d 257 63 ls h (pII st fun x y r => nx 64 ls (.int (x * y) :: r) h) Q := G_unf rfl rfl
theorem g257_64 : G d 257 64 ls st h Q ↔ GN d 257 64 ls h (ldR ls 0 fun a => nx 65 ls (.ref a :: st) h) Q := G_unf rfl rfl
theorem g257_65 : G d 257 65 ls st h Q ↔ GN d 257 65 ls h (pR st fun a r => ck (arr h a 9) (nx 68 ls (rv (hR h a 74) :: r) h)) Q := G_unf rfl rfl
theorem g257_68 : G d 257 68 ls st h Q ↔ GN d 257 68 ls h (ldI ls 6 fun x => nx 70 ls (.int x :: st) h) Q := G_unf rfl rfl
theorem g257_70 : G d 257 70 ls st h Q ↔ GN d 257 70 ls h (pRI st fun a i r => br (a = 1000003) (ck (inb i (hS h).1) (nx 71 ls (.int ((hS h).2 i.toNatClampNeg) :: r) h)) (ck (arr h a 10 ∧ inb i (hLn h a)) (nx 71 ls (.int (hI h a i.toNatClampNeg) :: r) h))) Q := G_unf rfl rfl
theorem g257_71 : G d 257 71 ls st h Q ↔ GN d 257 71 ls h (pII st fun x y r => nx 72 ls (.int (x + y) :: r) h) Q := G_unf rfl rfl
theorem g257_72 : G d 257 72 ls st h Q ↔ GN d 257 72 ls h (pRI st fun a i r => br (a = 1000003) (ck (inb i (hS h).1) (nx 73 ls (.int ((hS h).2 i.toNatClampNeg) :: r) h)) (ck (arr h a 10 ∧ inb i (hLn h a)) (nx 73 ls (.int (hI h a i.toNatClampNeg) :: r) h))) Q := G_unf rfl rfl
theorem g257_73 : G d 257 73 ls st h Q ↔ GN d 257 73 ls h (pA 2 st fun as r => ck (r.length ≤ 4) (cll 205 as r)) Q := G_unf rfl rfl
theorem g257_76 : G d 257 76 ls st h Q ↔ GN d 257 76 ls h (pI st fun x r => br (¬ x = 0) (nx 82 ls r h) (nx 79 ls r h)) Q := G_unf rfl rfl
theorem g257_79 : G d 257 79 ls st h Q ↔ GN d 257 79 ls h (nx 116 ls st h) Q := G_unf rfl rfl
theorem g257_82 : G d 257 82 ls st h Q ↔ GN d 257 82 ls h (ldI ls 5 fun x => nx 84 ls (.int x :: st) h) Q := G_unf rfl rfl
theorem g257_84 : G d 257 84 ls st h Q ↔ GN d 257 84 ls h (nx 85 ls (.int (nI 1) :: st) h) Q := G_unf rfl rfl
theorem g257_85 : G d 257 85 ls st h Q ↔ GN d 257 85 ls h (ldI ls 6 fun x => nx 87 ls (.int x :: st) h) Q := G_unf rfl rfl
theorem g257_87 : G d 257 87 ls st h Q ↔ GN d 257 87 ls h (pII st fun x y r => nx 88 ls (.int (x <<< (y &&& 31)) :: r) h) Q := G_unf rfl rfl
theorem g257_88 : G d 257 88 ls st h Q ↔ GN d 257 88 ls h (pII st fun x y r => nx 89 ls (.int (x ||| y) :: r) h) Q := G_unf rfl rfl
theorem g257_89 : G d 257 89 ls st h Q ↔ GN d 257 89 ls h (pI st fun x r => ck (5 < ls.length) (nx 91 (st1 ls 5 (.int x)) r h)) Q := G_unf rfl rfl
theorem g257_91 : G d 257 91 ls st h Q ↔ GN d 257 91 ls h (ldI ls 4 fun x => nx 93 ls (.int x :: st) h) Q := G_unf rfl rfl
theorem g257_93 : G d 257 93 ls st h Q ↔ GN d 257 93 ls h (ldR ls 0 fun a => nx 94 ls (.ref a :: st) h) Q := G_unf rfl rfl
theorem g257_94 : G d 257 94 ls st h Q ↔ GN d 257 94 ls h (pR st fun a r => ck (arr h a 9) (nx 97 ls (rv (hR h a 19) :: r) h)) Q := G_unf rfl rfl
theorem g257_97 : G d 257 97 ls st h Q ↔ GN d 257 97 ls h (nx 99 ls (.int (nI 16) :: st) h) Q := G_unf rfl rfl
theorem g257_99 : G d 257 99 ls st h Q ↔ GN d 257 99 ls h (ldR ls 0 fun a => nx 100 ls (.ref a :: st) h) Q := G_unf rfl rfl
theorem g257_100 : G d 257 100 ls st h Q ↔ GN d 257 100 ls h (pR st fun a r => ck (arr h a 9) (nx 103 ls (.int (hI h a 13) :: r) h)) Q := G_unf rfl rfl
theorem g257_103 : G d 257 103 ls st h Q ↔ GN d 257 103 ls h (pII st fun x y r => nx 104 ls (.int (x * y) :: r) h) Q := G_unf rfl rfl
theorem g257_104 : G d 257 104 ls st h Q ↔ GN d 257 104 ls h (ldR ls 0 fun a => nx 105 ls (.ref a :: st) h) Q := G_unf rfl rfl
theorem g257_105 : G d 257 105 ls st h Q ↔ GN d 257 105 ls h (pR st fun a r => ck (arr h a 9) (nx 108 ls (rv (hR h a 74) :: r) h)) Q := G_unf rfl rfl
theorem g257_108 : G d 257 108 ls st h Q ↔ GN d 257 108 ls h (ldI ls 6 fun x => nx 110 ls (.int x :: st) h) Q := G_unf rfl rfl
theorem g257_110 : G d 257 110 ls st h Q ↔ GN d 257 110 ls h (pRI st fun a i r => br (a = 1000003) (ck (inb i (hS h).1) (nx 111 ls (.int ((hS h).2 i.toNatClampNeg) :: r) h)) (ck (arr h a 10 ∧ inb i (hLn h a)) (nx 111 ls (.int (hI h a i.toNatClampNeg) :: r) h))) Q := G_unf rfl rfl
theorem g257_111 : G d 257 111 ls st h Q ↔ GN d 257 111 ls h (pII st fun x y r => nx 112 ls (.int (x + y) :: r) h) Q := G_unf rfl rfl
theorem g257_112 : G d 257 112 ls st h Q ↔ GN d 257 112 ls h (pRI st fun a i r => br (a = 1000003) (ck (inb i (hS h).1) (nx 113 ls (.int ((hS h).2 i.toNatClampNeg) :: r) h)) (ck (arr h a 10 ∧ inb i (hLn h a)) (nx 113 ls (.int (hI h a i.toNatClampNeg) :: r) h))) Q := G_unf rfl rfl
theorem g257_113 : G d 257 113 ls st h Q ↔ GN d 257 113 ls h (pII st fun x y r => nx 114 ls (.int (x ||| y) :: r) h) Q := G_unf rfl rfl
theorem g257_114 : G d 257 114 ls st h Q ↔ GN d 257 114 ls h (pI st fun x r => ck (4 < ls.length) (nx 116 (st1 ls 4 (.int x)) r h)) Q := G_unf rfl rfl
theorem g257_116 : G d 257 116 ls st h Q ↔ GN d 257 116 ls h (ldI ls 6 fun x => nx 119 (st1 ls 6 (.int (x + (-1)))) st h) Q := G_unf rfl rfl
theorem g257_119 : G d 257 119 ls st h Q ↔ GN d 257 119 ls h (nx 46 ls st h) Q := G_unf rfl rfl
theorem g257_122 : G d 257 122 ls st h Q ↔ GN d 257 122 ls h (ldI ls 3 fun x => nx 123 ls (.int x :: st) h) Q := G_unf rfl rfl
theorem g257_123 : G d 257 123 ls st h Q ↔ GN d 257 123 ls h (nx 124 ls (.int (-1) :: st) h) Q := G_unf rfl rfl
theorem g257_124 : G d 257 124 ls st h Q ↔ GN d 257 124 ls h (pII st fun x y r => br (¬ x = y) (nx 133 ls r h) (nx 127 ls r h)) Q := G_unf rfl rfl
theorem g257_127 : G d 257 127 ls st h Q ↔ GN d 257 127 ls h (ldI ls 5 fun x => nx 129 ls (.int x :: st) h) Q := G_unf rfl rfl
theorem g257_129 : G d 257 129 ls st h Q ↔ GN d 257 129 ls h (pA 1 st fun as r => ck (r.length ≤ 4) (cll 206 as r)) Q := G_unf rfl rfl
theorem g257_132 : G d 257 132 ls st h Q ↔ GN d 257 132 ls h (pIe st fun x => rtn (some (.int x))) Q := G_unf rfl rfl
theorem g257_133 : G d 257 133 ls st h Q ↔ GN d 257 133 ls h (ldI ls 3 fun x => nx 134 ls (.int x :: st) h) Q := G_unf rfl rfl
theorem g257_134 : G d 257 134 ls st h Q ↔ GN d 257 134 ls h (pI st fun x r => ck (6 < ls.length) (nx 136 (st1 ls 6 (.int x)) r h)) Q := G_unf rfl rfl
theorem g257_136 : G d 257 136 ls st h Q ↔ GN d 257 136 ls h (nx 137 ls (.int (nI 0) :: st) h) Q := G_unf rfl rfl
theorem g257_137 : G d 257 137 ls st h Q ↔ GN d 257 137 ls h (pI st fun x r => ck (7 < ls.length) (nx 139 (st1 ls 7 (.int x)) r h)) Q := G_unf rfl rfl
theorem g257_139 : G d 257 139 ls st h Q ↔ GN d 257 139 ls h (ldI ls 7 fun x => nx 141 ls (.int x :: st) h) Q := G_unf rfl rfl
theorem g257_141 : G d 257 141 ls st h Q ↔ GN d 257 141 ls h (ldR ls 0 fun a => nx 142 ls (.ref a :: st) h) Q := G_unf rfl rfl
theorem g257_142 : G d 257 142 ls st h Q ↔ GN d 257 142 ls h (pR st fun a r => ck (arr h a 9) (nx 145 ls (.int (hI h a 75) :: r) h)) Q := G_unf rfl rfl
set_option maxRecDepth 100000 in
theorem g257_145 : G d 257 145 ls st h Q ↔ GN d 257 145 ls h (pII st fun x y r => br (y ≤ x) (nx 183 ls r h) (nx 148 ls r h)) Q := G_unf rfl rfl
set_option maxRecDepth 100000 in
theorem g257_148 : G d 257 148 ls st h Q ↔ GN d 257 148 ls h (ldI ls 5 fun x => nx 150 ls (.int x :: st) h) Q := G_unf rfl rfl
set_option maxRecDepth 100000 in
theorem g257_150 : G d 257 150 ls st h Q ↔ GN d 257 150 ls h (ldI ls 7 fun x => nx 152 ls (.int x :: st) h) Q := G_unf rfl rfl
set_option maxRecDepth 100000 in
theorem g257_152 : G d 257 152 ls st h Q ↔ GN d 257 152 ls h (pA 2 st fun as r => ck (r.length ≤ 4) (cll 205 as r)) Q := G_unf rfl rfl
set_option maxRecDepth 100000 in
theorem g257_155 : G d 257 155 ls st h Q ↔ GN d 257 155 ls h (pI st fun x r => br (¬ x = 0) (nx 161 ls r h) (nx 158 ls r h)) Q := G_unf rfl rfl
set_option maxRecDepth 100000 in
theorem g257_158 : G d 257 158 ls st h Q ↔ GN d 257 158 ls h (nx 177 ls st h) Q := G_unf rfl rfl
set_option maxRecDepth 100000 in
theorem g257_161 : G d 257 161 ls st h Q ↔ GN d 257 161 ls h (ldI ls 6 fun x => nx 163 ls (.int x :: st) h) Q := G_unf rfl rfl
set_option maxRecDepth 100000 in
theorem g257_163 : G d 257 163 ls st h Q ↔ GN d 257 163 ls h (pI st fun x r => br (¬ x = 0) (nx 174 ls r h) (nx 166 ls r h)) Q := G_unf rfl rfl
set_option maxRecDepth 100000 in
theorem g257_166 : G d 257 166 ls st h Q ↔ GN d 257 166 ls h (ldR ls 0 fun a => nx 167 ls (.ref a :: st) h) Q := G_unf rfl rfl
set_option maxRecDepth 100000 in
theorem g257_167 : G d 257 167 ls st h Q ↔ GN d 257 167 ls h (pR st fun a r => ck (arr h a 9) (nx 170 ls (rv (hR h a 74) :: r) h)) Q := G_unf rfl rfl
set_option maxRecDepth 100000 in
theorem g257_170 : G d 257 170 ls st h Q ↔ GN d 257 170 ls h (ldI ls 7 fun x => nx 172 ls (.int x :: st) h) Q := G_unf rfl rfl
set_option maxRecDepth 100000 in
theorem g257_172 : G d 257 172 ls st h Q ↔ GN d 257 172 ls h (pRI st fun a i r => br (a = 1000003) (ck (inb i (hS h).1) (nx 173 ls (.int ((hS h).2 i.toNatClampNeg) :: r) h)) (ck (arr h a 10 ∧ inb i (hLn h a)) (nx 173 ls (.int (hI h a i.toNatClampNeg) :: r) h))) Q := G_unf rfl rfl
set_option maxRecDepth 100000 in
theorem g257_173 : G d 257 173 ls st h Q ↔ GN d 257 173 ls h (pIe st fun x => rtn (some (.int x))) Q := G_unf rfl rfl
set_option maxRecDepth 100000 in
theorem g257_174 : G d 257 174 ls st h Q ↔ GN d 257 174 ls h (ldI ls 6 fun x => nx 177 (st1 ls 6 (.int (x + (-1)))) st h) Q := G_unf rfl rfl
set_option maxRecDepth 100000 in
theorem g257_177 : G d 257 177 ls st h Q ↔ GN d 257 177 ls h (ldI ls 7 fun x => nx 180 (st1 ls 7 (.int (x + (nI 1)))) st h) Q := G_unf rfl rfl
set_option maxRecDepth 100000 in
theorem g257_180 : G d 257 180 ls st h Q ↔ GN d 257 180 ls h (nx 139 ls st h) Q := G_unf rfl rfl
set_option maxRecDepth 100000 in
theorem g257_183 : G d 257 183 ls st h Q ↔ GN d 257 183 ls h (nx 184 ls (.int (-1) :: st) h) Q := G_unf rfl rfl
set_option maxRecDepth 100000 in
theorem g257_184 : G d 257 184 ls st h Q ↔ GN d 257 184 ls h (pIe st fun x => rtn (some (.int x))) Q := G_unf rfl rfl
theorem g258_0 : G d 258 0 ls st h Q ↔ GN d 258 0 ls h (ldR ls 0 fun a => nx 1 ls (.ref a :: st) h) Q := G_unf rfl rfl
theorem g258_1 : G d 258 1 ls st h Q ↔ GN d 258 1 ls h (ldI ls 1 fun x => nx 2 ls (.int x :: st) h) Q := G_unf rfl rfl
theorem g258_2 : G d 258 2 ls st h Q ↔ GN d 258 2 ls h (pA 1 st fun as r => pR r fun a r => ck (r.length ≤ 4 ∧ arr h a 9) (cll 204 (.ref a :: as) r)) Q := G_unf rfl rfl
theorem g258_5 : G d 258 5 ls st h Q ↔ GN d 258 5 ls h (pI st fun x r => br (x = 0) (nx 25 ls r h) (nx 8 ls r h)) Q := G_unf rfl rfl
theorem g258_8 : G d 258 8 ls st h Q ↔ GN d 258 8 ls h (ldR ls 0 fun a => nx 9 ls (.ref a :: st) h) Q := G_unf rfl rfl
theorem g258_9 : G d 258 9 ls st h Q ↔ GN d 258 9 ls h (ldI ls 2 fun x => nx 10 ls (.int x :: st) h) Q := G_unf rfl rfl
theorem g258_10 : G d 258 10 ls st h Q ↔ GN d 258 10 ls h (pA 1 st fun as r => pR r fun a r => ck (r.length ≤ 4 ∧ arr h a 9) (cll 202 (.ref a :: as) r)) Q := G_unf rfl rfl
theorem g258_13 : G d 258 13 ls st h Q ↔ GN d 258 13 ls h (pI st fun x r => br (x = 0) (nx 25 ls r h) (nx 16 ls r h)) Q := G_unf rfl rfl
theorem g258_16 : G d 258 16 ls st h Q ↔ GN d 258 16 ls h (ldI ls 3 fun x => nx 17 ls (.int x :: st) h) Q := G_unf rfl rfl
theorem g258_17 : G d 258 17 ls st h Q ↔ GN d 258 17 ls h (nx 18 ls (.int (nI 0) :: st) h) Q := G_unf rfl rfl
theorem g258_18 : G d 258 18 ls st h Q ↔ GN d 258 18 ls h (nx 19 ls (.int (nI 1) :: st) h) Q := G_unf rfl rfl
theorem g258_19 : G d 258 19 ls st h Q ↔ GN d 258 19 ls h (pA 3 st fun as r => ck (r.length ≤ 4) (cll 156 as r)) Q := G_unf rfl rfl
theorem g258_22 : G d 258 22 ls st h Q ↔ GN d 258 22 ls h (pI st fun x r => br (¬ x = 0) (nx 27 ls r h) (nx 25 ls r h)) Q := G_unf rfl rfl
theorem g258_25 : G d 258 25 ls st h Q ↔ GN d 258 25 ls h (nx 26 ls (.int (-1) :: st) h) Q := G_unf rfl rfl
theorem g258_26 : G d 258 26 ls st h Q ↔ GN d 258 26 ls h (pIe st fun x => rtn (some (.int x))) Q := G_unf rfl rfl
theorem g258_27 : G d 258 27 ls st h Q ↔ GN d 258 27 ls h (ldI ls 1 fun x => nx 28 ls (.int x :: st) h) Q := G_unf rfl rfl
theorem g258_28 : G d 258 28 ls st h Q ↔ GN d 258 28 ls h (nx 29 ls (.int (nI 1) :: st) h) Q := G_unf rfl rfl
theorem g258_29 : G d 258 29 ls st h Q ↔ GN d 258 29 ls h (ldI ls 2 fun x => nx 30 ls (.int x :: st) h) Q := G_unf rfl rfl
theorem g258_30 : G d 258 30 ls st h Q ↔ GN d 258 30 ls h (pII st fun x y r => nx 31 ls (.int (x <<< (y &&& 31)) :: r) h) Q := G_unf rfl rfl
theorem g258_31 : G d 258 31 ls st h Q ↔ GN d 258 31 ls h (nx 32 ls (.int (-1) :: st) h) Q := G_unf rfl rfl
theorem g258_32 : G d 258 32 ls st h Q ↔ GN d 258 32 ls h (pII st fun x y r => nx 33 ls (.int (x ^^^ y) :: r) h) Q := G_unf rfl rfl
theorem g258_33 : G d 258 33 ls st h Q ↔ GN d 258 33 ls h (pII st fun x y r => nx 34 ls (.int (x &&& y) :: r) h) Q := G_unf rfl rfl
theorem g258_34 : G d 258 34 ls st h Q ↔ GN d 258 34 ls h (pI st fun x r => ck (4 < ls.length) (nx 36 (st1 ls 4 (.int x)) r h)) Q := G_unf rfl rfl
theorem g258_36 : G d 258 36 ls st h Q ↔ GN d 258 36 ls h (nx 37 ls (.int (-1) :: st) h) Q := G_unf rfl rfl
theorem g258_37 : G d 258 37 ls st h Q ↔ GN d 258 37 ls h (pI st fun x r => ck (5 < ls.length) (nx 39 (st1 ls 5 (.int x)) r h)) Q := G_unf rfl rfl
theorem g258_39 : G d 258 39 ls st h Q ↔ GN d 258 39 ls h (nx 40 ls (.int (nI 0) :: st) h) Q := G_unf rfl rfl
theorem g258_40 : G d 258 40 ls st h Q ↔ GN d 258 40 ls h (pI st fun x r => ck (6 < ls.length) (nx 42 (st1 ls 6 (.int x)) r h)) Q := G_unf rfl rfl
theorem g258_42 : G d 258 42 ls st h Q ↔ GN d 258 42 ls h (ldI ls 6 fun x => nx 44 ls (.int x :: st) h) Q := G_unf rfl rfl
theorem g258_44 : G d 258 44 ls st h Q ↔ GN d 258 44 ls h (nx 45 ls (.int (nI 1) :: st) h) Q := G_unf rfl rfl
theorem g258_45 : G d 258 45 ls st h Q ↔ GN d 258 45 ls h (ldR ls 0 fun a => nx 46 ls (.ref a :: st) h) Q := G_unf rfl rfl
theorem g258_46 : G d 258 46 ls st h Q ↔ GN d 258 46 ls h (pR st fun a r => ck (arr h a 9) (nx 49 ls (rv (hR h a 14) :: r) h)) Q := G_unf rfl rfl
theorem g258_49 : G d 258 49 ls st h Q ↔ GN d 258 49 ls h (ldR ls 0 fun a => nx 50 ls (.ref a :: st) h) Q := G_unf rfl rfl
theorem g258_50 : G d 258 50 ls st h Q ↔ GN d 258 50 ls h (pR st fun a r => ck (arr h a 9) (nx 53 ls (.int (hI h a 13) :: r) h)) Q := G_unf rfl rfl
theorem g258_53 : G d 258 53 ls st h Q ↔ GN d 258 53 ls h (pRI st fun a i r => br (a = 1000003) (ck (inb i (hS h).1) (nx 54 ls (.int ((hS h).2 i.toNatClampNeg) :: r) h)) (ck (arr h a 10 ∧ inb i (hLn h a)) (nx 54 ls (.int (hI h a i.toNatClampNeg) :: r) h))) Q := G_unf rfl rfl
theorem g258_54 : G d 258 54 ls st h Q ↔ GN d 258 54 ls h (pII st fun x y r => nx 55 ls (.int (x <<< (y &&& 31)) :: r) h) Q := G_unf rfl rfl
theorem g258_55 : G d 258 55 ls st h Q ↔ GN d 258 55 ls h (pII st fun x y r => br (y ≤ x) (nx 118 ls r h) (nx 58 ls r h)) Q := G_unf rfl rfl
theorem g258_58 : G d 258 58 ls st h Q ↔ GN d 258 58 ls h (ldI ls 6 fun x => nx 60 ls (.int x :: st) h) Q := G_unf rfl rfl
theorem g258_60 : G d 258 60 ls st h Q ↔ GN d 258 60 ls h (ldI ls 4 fun x => nx 62 ls (.int x :: st) h) Q := G_unf rfl rfl
theorem g258_62 : G d 258 62 ls st h Q ↔ GN d 258 62 ls h (nx 63 ls (.int (-1) :: st) h) Q := G_unf rfl rfl
theorem g258_63 : G d 258 63 ls st h Q ↔ GN d 258 63 ls h (pII st fun x y r => nx 64 ls (.int (x ^^^ y) :: r) h) Q := G_unf rfl rfl
theorem g258_64 : G d 258 64 ls st h Q ↔ GN d 258 64 ls h (pII st fun x y r => nx 65 ls (.int (x &&& y) :: r) h) Q := G_unf rfl rfl
theorem g258_65 : G d 258 65 ls st h Q ↔ GN d 258 65 ls h (pI st fun x r => br (¬ x = 0) (nx 112 ls r h) (nx 68 ls r h)) Q := G_unf rfl rfl
theorem g258_68 : G d 258 68 ls st h Q ↔ GN d 258 68 ls h (ldI ls 5 fun x => nx 70 ls (.int x :: st) h) Q := G_unf rfl rfl
theorem g258_70 : G d 258 70 ls st h Q ↔ GN d 258 70 ls h (nx 71 ls (.int (-1) :: st) h) Q := G_unf rfl rfl
theorem g258_71 : G d 258 71 ls st h Q ↔ GN d 258 71 ls h (pII st fun x y r => br (x = y) (nx 87 ls r h) (nx 74 ls r h)) Q := G_unf rfl rfl
theorem g258_74 : G d 258 74 ls st h Q ↔ GN d 258 74 ls h (ldI ls 6 fun x => nx 76 ls (.int x :: st) h) Q := G_unf rfl rfl
theorem g258_76 : G d 258 76 ls st h Q ↔ GN d 258 76 ls h (pA 1 st fun as r => ck (r.length ≤ 4) (cll 206 as r)) Q := G_unf rfl rfl
theorem g258_79 : G d 258 79 ls st h Q ↔ GN d 258 79 ls h (ldI ls 5 fun x => nx 81 ls (.int x :: st) h) Q := G_unf rfl rfl
theorem g258_81 : G d 258 81 ls st h Q ↔ GN d 258 81 ls h (pA 1 st fun as r => ck (r.length ≤ 4) (cll 206 as r)) Q := G_unf rfl rfl
theorem g258_84 : G d 258 84 ls st h Q ↔ GN d 258 84 ls h (pII st fun x y r => br (y ≤ x) (nx 112 ls r h) (nx 87 ls r h)) Q := G_unf rfl rfl
theorem g258_87 : G d 258 87 ls st h Q ↔ GN d 258 87 ls h (ldR ls 0 fun a => nx 88 ls (.ref a :: st) h) Q := G_unf rfl rfl
theorem g258_88 : G d 258 88 ls st h Q ↔ GN d 258 88 ls h (ldI ls 4 fun x => nx 90 ls (.int x :: st) h) Q := G_unf rfl rfl
theorem g258_90 : G d 258 90 ls st h Q ↔ GN d 258 90 ls h (ldI ls 6 fun x => nx 92 ls (.int x :: st) h) Q := G_unf rfl rfl
theorem g258_92 : G d 258 92 ls st h Q ↔ GN d 258 92 ls h (nx 93 ls (.int (-1) :: st) h) Q := G_unf rfl rfl
theorem g258_93 : G d 258 93 ls st h Q ↔ GN d 258 93 ls h (pII st fun x y r => nx 94 ls (.int (x ^^^ y) :: r) h) Q := G_unf rfl rfl
theorem g258_94 : G d 258 94 ls st h Q ↔ GN d 258 94 ls h (pII st fun x y r => nx 95 ls (.int (x &&& y) :: r) h) Q := G_unf rfl rfl
theorem g258_95 : G d 258 95 ls st h Q ↔ GN d 258 95 ls h (pA 1 st fun as r => pR r fun a r => ck (r.length ≤ 4 ∧ arr h a 9) (cll 255 (.ref a :: as) r)) Q := G_unf rfl rfl
theorem g258_98 : G d 258 98 ls st h Q ↔ GN d 258 98 ls h (ldI ls 2 fun x => nx 99 ls (.int x :: st) h) Q := G_unf rfl rfl
theorem g258_99 : G d 258 99 ls st h Q ↔ GN d 258 99 ls h (pA 2 st fun as r => ck (r.length ≤ 4) (cll 205 as r)) Q := G_unf rfl rfl
theorem g258_102 : G d 258 102 ls st h Q ↔ GN d 258 102 ls h (pI st fun x r => br (x = 0) (nx 108 ls r h) (nx 105 ls r h)) Q := G_unf rfl rfl
theorem g258_105 : G d 258 105 ls st h Q ↔ GN d 258 105 ls h (nx 112 ls st h) Q := G_unf rfl rfl
theorem g258_108 : G d 258 108 ls st h Q ↔ GN d 258 108 ls h (ldI ls 6 fun x => nx 110 ls (.int x :: st) h) Q := G_unf rfl rfl
theorem g258_110 : G d 258 110 ls st h Q ↔ GN d 258 110 ls h (pI st fun x r => ck (5 < ls.length) (nx 112 (st1 ls 5 (.int x)) r h)) Q := G_unf rfl rfl
theorem g258_112 : G d 258 112 ls st h Q ↔ GN d 258 112 ls h (ldI ls 6 fun x => nx 115 (st1 ls 6 (.int (x + (nI 1)))) st h) Q := G_unf rfl rfl
theorem g258_115 : G d 258 115 ls st h Q ↔ GN d 258 115 ls h (nx 42 ls st h) Q := G_unf rfl rfl
theorem g258_118 : G d 258 118 ls st h Q ↔ GN d 258 118 ls h (ldI ls 5 fun x => nx 120 ls (.int x :: st) h) Q := G_unf rfl rfl
theorem g258_120 : G d 258 120 ls st h Q ↔ GN d 258 120 ls h (nx 121 ls (.int (-1) :: st) h) Q := G_unf rfl rfl
theorem g258_121 : G d 258 121 ls st h Q ↔ GN d 258 121 ls h (pII st fun x y r => br (¬ x = y) (nx 128 ls r h) (nx 124 ls r h)) Q := G_unf rfl rfl
theorem g258_124 : G d 258 124 ls st h Q ↔ GN d 258 124 ls h (nx 125 ls (.int (-1) :: st) h) Q := G_unf rfl rfl
theorem g258_125 : G d 258 125 ls st h Q ↔ GN d 258 125 ls h (nx 142 ls st h) Q := G_unf rfl rfl
theorem g258_128 : G d 258 128 ls st h Q ↔ GN d 258 128 ls h (ldI ls 3 fun x => nx 129 ls (.int x :: st) h) Q := G_unf rfl rfl
theorem g258_129 : G d 258 129 ls st h Q ↔ GN d 258 129 ls h (pI st fun x r => br (¬ x = 0) (nx 140 ls r h) (nx 132 ls r h)) Q := G_unf rfl rfl
theorem g258_132 : G d 258 132 ls st h Q ↔ GN d 258 132 ls h (ldI ls 5 fun x => nx 134 ls (.int x :: st) h) Q := G_unf rfl rfl
theorem g258_134 : G d 258 134 ls st h Q ↔ GN d 258 134 ls h (pA 1 st fun as r => ck (r.length ≤ 4) (cll 206 as r)) Q := G_unf rfl rfl
theorem g258_137 : G d 258 137 ls st h Q ↔ GN d 258 137 ls h (nx 142 ls st h) Q := G_unf rfl rfl
theorem g258_140 : G d 258 140 ls st h Q ↔ GN d 258 140 ls h (ldI ls 5 fun x => nx 142 ls (.int x :: st) h) Q := G_unf rfl rfl
theorem g258_142 : G d 258 142 ls st h Q ↔ GN d 258 142 ls h (pIe st fun x => rtn (some (.int x))) Q := G_unf rfl rfl
theorem g259_0 : G d 259 0 ls st h Q ↔ GN d 259 0 ls h (ldR ls 0 fun a => nx 1 ls (.ref a :: st) h) Q := G_unf rfl rfl
theorem g259_1 : G d 259 1 ls st h Q ↔ GN d 259 1 ls h (ldI ls 1 fun x => nx 2 ls (.int x :: st) h) Q := G_unf rfl rfl
theorem g259_2 : G d 259 2 ls st h Q ↔ GN d 259 2 ls h (pA 1 st fun as r => pR r fun a r => ck (r.length ≤ 4 ∧ arr h a 9) (cll 203 (.ref a :: as) r)) Q := G_unf rfl rfl
theorem g259_5 : G d 259 5 ls st h Q ↔ GN d 259 5 ls h (pI st fun x r => br (x = 0) (nx 37 ls r h) (nx 8 ls r h)) Q := G_unf rfl rfl
theorem g259_8 : G d 259 8 ls st h Q ↔ GN d 259 8 ls h (ldR ls 0 fun a => nx 9 ls (.ref a :: st) h) Q := G_unf rfl rfl
theorem g259_9 : G d 259 9 ls st h Q ↔ GN d 259 9 ls h (ldI ls 2 fun x => nx 10 ls (.int x :: st) h) Q := G_unf rfl rfl
theorem g259_10 : G d 259 10 ls st h Q ↔ GN d 259 10 ls h (pA 1 st fun as r => pR r fun a r => ck (r.length ≤ 4 ∧ arr h a 9) (cll 202 (.ref a :: as) r)) Q := G_unf rfl rfl
theorem g259_13 : G d 259 13 ls st h Q ↔ GN d 259 13 ls h (pI st fun x r => br (x = 0) (nx 37 ls r h) (nx 16 ls r h)) Q := G_unf rfl rfl
theorem g259_16 : G d 259 16 ls st h Q ↔ GN d 259 16 ls h (ldI ls 3 fun x => nx 17 ls (.int x :: st) h) Q := G_unf rfl rfl
theorem g259_17 : G d 259 17 ls st h Q ↔ GN d 259 17 ls h (nx 18 ls (.int (nI 0) :: st) h) Q := G_unf rfl rfl
theorem g259_18 : G d 259 18 ls st h Q ↔ GN d 259 18 ls h (nx 21 ls (.int (nI 999) :: st) h) Q := G_unf rfl rfl
theorem g259_21 : G d 259 21 ls st h Q ↔ GN d 259 21 ls h (pA 3 st fun as r => ck (r.length ≤ 4) (cll 156 as r)) Q := G_unf rfl rfl
theorem g259_24 : G d 259 24 ls st h Q ↔ GN d 259 24 ls h (pI st fun x r => br (x = 0) (nx 37 ls r h) (nx 27 ls r h)) Q := G_unf rfl rfl
theorem g259_27 : G d 259 27 ls st h Q ↔ GN d 259 27 ls h (ldI ls 4 fun x => nx 29 ls (.int x :: st) h) Q := G_unf rfl rfl
theorem g259_29 : G d 259 29 ls st h Q ↔ GN d 259 29 ls h (nx 30 ls (.int (nI 0) :: st) h) Q := G_unf rfl rfl
theorem g259_30 : G d 259 30 ls st h Q ↔ GN d 259 30 ls h (nx 31 ls (.int (nI 1) :: st) h) Q := G_unf rfl rfl
theorem g259_31 : G d 259 31 ls st h Q ↔ GN d 259 31 ls h (pA 3 st fun as r => ck (r.length ≤ 4) (cll 156 as r)) Q := G_unf rfl rfl
theorem g259_34 : G d 259 34 ls st h Q ↔ GN d 259 34 ls h (pI st fun x r => br (¬ x = 0) (nx 39 ls r h) (nx 37 ls r h)) Q := G_unf rfl rfl
theorem g259_37 : G d 259 37 ls st h Q ↔ GN d 259 37 ls h (nx 38 ls (.int (-1) :: st) h) Q := G_unf rfl rfl
theorem g259_38 : G d 259 38 ls st h Q ↔ GN d 259 38 ls h (pIe st fun x => rtn (some (.int x))) Q := G_unf rfl rfl
theorem g259_39 : G d 259 39 ls st h Q ↔ GN d 259 39 ls h (ldR ls 0 fun a => nx 40 ls (.ref a :: st) h) Q := G_unf rfl rfl
theorem g259_40 : G d 259 40 ls st h Q ↔ GN d 259 40 ls h (ldI ls 3 fun x => nx 41 ls (.int x :: st) h) Q := G_unf rfl rfl
theorem g259_41 : G d 259 41 ls st h Q ↔ GN d 259 41 ls h (pA 1 st fun as r => pR r fun a r => ck (r.length ≤ 4 ∧ arr h a 9) (cll 215 (.ref a :: as) r)) Q := G_unf rfl rfl
theorem g259_44 : G d 259 44 ls st h Q ↔ GN d 259 44 ls h (nx 45 ls (.int (nI 1) :: st) h) Q := G_unf rfl rfl
theorem g259_45 : G d 259 45 ls st h Q ↔ GN d 259 45 ls h (ldI ls 2 fun x => nx 46 ls (.int x :: st) h) Q := G_unf rfl rfl
theorem g259_46 : G d 259 46 ls st h Q ↔ GN d 259 46 ls h (pII st fun x y r => nx 47 ls (.int (x <<< (y &&& 31)) :: r) h) Q := G_unf rfl rfl
theorem g259_47 : G d 259 47 ls st h Q ↔ GN d 259 47 ls h (nx 48 ls (.int (-1) :: st) h) Q := G_unf rfl rfl
theorem g259_48 : G d 259 48 ls st h Q ↔ GN d 259 48 ls h (pII st fun x y r => nx 49 ls (.int (x ^^^ y) :: r) h) Q := G_unf rfl rfl
theorem g259_49 : G d 259 49 ls st h Q ↔ GN d 259 49 ls h (pII st fun x y r => nx 50 ls (.int (x &&& y) :: r) h) Q := G_unf rfl rfl
theorem g259_50 : G d 259 50 ls st h Q ↔ GN d 259 50 ls h (pI st fun x r => ck (5 < ls.length) (nx 52 (st1 ls 5 (.int x)) r h)) Q := G_unf rfl rfl
theorem g259_52 : G d 259 52 ls st h Q ↔ GN d 259 52 ls h (nx 53 ls (.int (nI 0) :: st) h) Q := G_unf rfl rfl
theorem g259_53 : G d 259 53 ls st h Q ↔ GN d 259 53 ls h (pI st fun x r => ck (6 < ls.length) (nx 55 (st1 ls 6 (.int x)) r h)) Q := G_unf rfl rfl
theorem g259_55 : G d 259 55 ls st h Q ↔ GN d 259 55 ls h (ldI ls 6 fun x => nx 57 ls (.int x :: st) h) Q := G_unf rfl rfl
theorem g259_57 : G d 259 57 ls st h Q ↔ GN d 259 57 ls h (ldR ls 0 fun a => nx 58 ls (.ref a :: st) h) Q := G_unf rfl rfl
theorem g259_58 : G d 259 58 ls st h Q ↔ GN d 259 58 ls h (pR st fun a r => ck (arr h a 9) (nx 61 ls (rv (hR h a 14) :: r) h)) Q := G_unf rfl rfl
theorem g259_61 : G d 259 61 ls st h Q ↔ GN d 259 61 ls h (ldR ls 0 fun a => nx 62 ls (.ref a :: st) h) Q := G_unf rfl rfl
theorem g259_62 : G d 259 62 ls st h Q ↔ GN d 259 62 ls h (pR st fun a r => ck (arr h a 9) (nx 65 ls (.int (hI h a 13) :: r) h)) Q := G_unf rfl rfl
theorem g259_65 : G d 259 65 ls st h Q ↔ GN d 259 65 ls h (pRI st fun a i r => br (a = 1000003) (ck (inb i (hS h).1) (nx 66 ls (.int ((hS h).2 i.toNatClampNeg) :: r) h)) (ck (arr h a 10 ∧ inb i (hLn h a)) (nx 66 ls (.int (hI h a i.toNatClampNeg) :: r) h))) Q := G_unf rfl rfl
theorem g259_66 : G d 259 66 ls st h Q ↔ GN d 259 66 ls h (pII st fun x y r => br (y ≤ x) (nx 107 ls r h) (nx 69 ls r h)) Q := G_unf rfl rfl
theorem g259_69 : G d 259 69 ls st h Q ↔ GN d 259 69 ls h (ldR ls 0 fun a => nx 70 ls (.ref a :: st) h) Q := G_unf rfl rfl
theorem g259_70 : G d 259 70 ls st h Q ↔ GN d 259 70 ls h (pR st fun a r => ck (arr h a 9) (nx 73 ls (rv (hR h a 76) :: r) h)) Q := G_unf rfl rfl
theorem g259_73 : G d 259 73 ls st h Q ↔ GN d 259 73 ls h (ldI ls 6 fun x => nx 75 ls (.int x :: st) h) Q := G_unf rfl rfl
theorem g259_75 : G d 259 75 ls st h Q ↔ GN d 259 75 ls h (ldR ls 0 fun a => nx 76 ls (.ref a :: st) h) Q := G_unf rfl rfl
theorem g259_76 : G d 259 76 ls st h Q ↔ GN d 259 76 ls h (nx 77 ls (.int (nI 0) :: st) h) Q := G_unf rfl rfl
theorem g259_77 : G d 259 77 ls st h Q ↔ GN d 259 77 ls h (ldI ls 1 fun x => nx 78 ls (.int x :: st) h) Q := G_unf rfl rfl
theorem g259_78 : G d 259 78 ls st h Q ↔ GN d 259 78 ls h (ldI ls 6 fun x => nx 80 ls (.int x :: st) h) Q := G_unf rfl rfl
theorem g259_80 : G d 259 80 ls st h Q ↔ GN d 259 80 ls h (pA 3 st fun as r => pR r fun a r => ck (r.length ≤ 4 ∧ arr h a 9) (cll 212 (.ref a :: as) r)) Q := G_unf rfl rfl
theorem g259_83 : G d 259 83 ls st h Q ↔ GN d 259 83 ls h (pI st fun x r => br (x = 0) (nx 90 ls r h) (nx 86 ls r h)) Q := G_unf rfl rfl
theorem g259_86 : G d 259 86 ls st h Q ↔ GN d 259 86 ls h (nx 87 ls (.int (nI 0) :: st) h) Q := G_unf rfl rfl
theorem g259_87 : G d 259 87 ls st h Q ↔ GN d 259 87 ls h (nx 100 ls st h) Q := G_unf rfl rfl
theorem g259_90 : G d 259 90 ls st h Q ↔ GN d 259 90 ls h (ldR ls 0 fun a => nx 91 ls (.ref a :: st) h) Q := G_unf rfl rfl
theorem g259_91 : G d 259 91 ls st h Q ↔ GN d 259 91 ls h (nx 92 ls (.int (nI 0) :: st) h) Q := G_unf rfl rfl
theorem g259_92 : G d 259 92 ls st h Q ↔ GN d 259 92 ls h (ldI ls 1 fun x => nx 93 ls (.int x :: st) h) Q := G_unf rfl rfl
theorem g259_93 : G d 259 93 ls st h Q ↔ GN d 259 93 ls h (ldI ls 6 fun x => nx 95 ls (.int x :: st) h) Q := G_unf rfl rfl
theorem g259_95 : G d 259 95 ls st h Q ↔ GN d 259 95 ls h (nx 97 ls (.int (nI 7) :: st) h) Q := G_unf rfl rfl
theorem g259_97 : G d 259 97 ls st h Q ↔ GN d 259 97 ls h (pA 4 st fun as r => pR r fun a r => ck (r.length ≤ 4 ∧ arr h a 9) (cll 223 (.ref a :: as) r)) Q := G_unf rfl rfl
theorem g259_100 : G d 259 100 ls st h Q ↔ GN d 259 100 ls h (pRII st fun a i x r => ck (arr h a 10 ∧ inb i (hLn h a)) (nx 101 ls r (sI h a i.toNatClampNeg x))) Q := G_unf rfl rfl
theorem g259_101 : G d 259 101 ls st h Q ↔ GN d 259 101 ls h (ldI ls 6 fun x => nx 104 (st1 ls 6 (.int (x + (nI 1)))) st h) Q := G_unf rfl rfl
theorem g259_104 : G d 259 104 ls st h Q ↔ GN d 259 104 ls h (nx 55 ls st h) Q := G_unf rfl rfl
theorem g259_107 : G d 259 107 ls st h Q ↔ GN d 259 107 ls h (nx 108 ls (.int (-1) :: st) h) Q := G_unf rfl rfl
theorem g259_108 : G d 259 108 ls st h Q ↔ GN d 259 108 ls h (pI st fun x r => ck (6 < ls.length) (nx 110 (st1 ls 6 (.int x)) r h)) Q := G_unf rfl rfl
theorem g259_110 : G d 259 110 ls st h Q ↔ GN d 259 110 ls h (nx 113 ls (.int (nI 100000000) :: st) h) Q := G_unf rfl rfl
theorem g259_113 : G d 259 113 ls st h Q ↔ GN d 259 113 ls h (pI st fun x r => ck (7 < ls.length) (nx 115 (st1 ls 7 (.int x)) r h)) Q := G_unf rfl rfl
theorem g259_115 : G d 259 115 ls st h Q ↔ GN d 259 115 ls h (nx 116 ls (.int (nI 0) :: st) h) Q := G_unf rfl rfl
theorem g259_116 : G d 259 116 ls st h Q ↔ GN d 259 116 ls h (pI st fun x r => ck (8 < ls.length) (nx 118 (st1 ls 8 (.int x)) r h)) Q := G_unf rfl rfl
theorem g259_118 : G d 259 118 ls st h Q ↔ GN d 259 118 ls h (ldI ls 8 fun x => nx 120 ls (.int x :: st) h) Q := G_unf rfl rfl
theorem g259_120 : G d 259 120 ls st h Q ↔ GN d 259 120 ls h (nx 121 ls (.int (nI 1) :: st) h) Q := G_unf rfl rfl
theorem g259_121 : G d 259 121 ls st h Q ↔ GN d 259 121 ls h (ldR ls 0 fun a => nx 122 ls (.ref a :: st) h) Q := G_unf rfl rfl
theorem g259_122 : G d 259 122 ls st h Q ↔ GN d 259 122 ls h (pR st fun a r => ck (arr h a 9) (nx 125 ls (rv (hR h a 14) :: r) h)) Q := G_unf rfl rfl
theorem g259_125 : G d 259 125 ls st h Q ↔ GN d 259 125 ls h (ldR ls 0 fun a => nx 126 ls (.ref a :: st) h) Q := G_unf rfl rfl
theorem g259_126 : G d 259 126 ls st h Q ↔ GN d 259 126 ls h (pR st fun a r => ck (arr h a 9) (nx 129 ls (.int (hI h a 13) :: r) h)) Q := G_unf rfl rfl
theorem g259_129 : G d 259 129 ls st h Q ↔ GN d 259 129 ls h (pRI st fun a i r => br (a = 1000003) (ck (inb i (hS h).1) (nx 130 ls (.int ((hS h).2 i.toNatClampNeg) :: r) h)) (ck (arr h a 10 ∧ inb i (hLn h a)) (nx 130 ls (.int (hI h a i.toNatClampNeg) :: r) h))) Q := G_unf rfl rfl
theorem g259_130 : G d 259 130 ls st h Q ↔ GN d 259 130 ls h (pII st fun x y r => nx 131 ls (.int (x <<< (y &&& 31)) :: r) h) Q := G_unf rfl rfl
theorem g259_131 : G d 259 131 ls st h Q ↔ GN d 259 131 ls h (pII st fun x y r => br (y ≤ x) (nx 241 ls r h) (nx 134 ls r h)) Q := G_unf rfl rfl
theorem g259_134 : G d 259 134 ls st h Q ↔ GN d 259 134 ls h (ldI ls 8 fun x => nx 136 ls (.int x :: st) h) Q := G_unf rfl rfl
theorem g259_136 : G d 259 136 ls st h Q ↔ GN d 259 136 ls h (ldI ls 5 fun x => nx 138 ls (.int x :: st) h) Q := G_unf rfl rfl
theorem g259_138 : G d 259 138 ls st h Q ↔ GN d 259 138 ls h (nx 139 ls (.int (-1) :: st) h) Q := G_unf rfl rfl
theorem g259_139 : G d 259 139 ls st h Q ↔ GN d 259 139 ls h (pII st fun x y r => nx 140 ls (.int (x ^^^ y) :: r) h) Q := G_unf rfl rfl
theorem g259_140 : G d 259 140 ls st h Q ↔ GN d 259 140 ls h (pII st fun x y r => nx 141 ls (.int (x &&& y) :: r) h) Q := G_unf rfl rfl
theorem g259_141 : G d 259 141 ls st h Q ↔ GN d 259 141 ls h (pI st fun x r => br (x = 0) (nx 147 ls r h) (nx 144 ls r h)) Q := G_unf rfl rfl
theorem g259_144 : G d 259 144 ls st h Q ↔ GN d 259 144 ls h (nx 235 ls st h) Q := G_unf rfl rfl
set_option maxRecDepth 100000 in
theorem g259_147 : G d 259 147 ls st h Q ↔ GN d 259 147 ls h (nx 148 ls (.int (nI 0) :: st) h) Q := G_unf rfl rfl
set_option maxRecDepth 100000 in
theorem g259_148 : G d 259 148 ls st h Q ↔ GN d 259 148 ls h (pI st fun x r => ck (9 < ls.length) (nx 150 (st1 ls 9 (.int x)) r h)) Q := G_unf rfl rfl
set_option maxRecDepth 100000 in
theorem g259_150 : G d 259 150 ls st h Q ↔ GN d 259 150 ls h (nx 151 ls (.int (nI 0) :: st) h) Q := G_unf rfl rfl
set_option maxRecDepth 100000 in
theorem g259_151 : G d 259 151 ls st h Q ↔ GN d 259 151 ls h (pI st fun x r => ck (10 < ls.length) (nx 153 (st1 ls 10 (.int x)) r h)) Q := G_unf rfl rfl
set_option maxRecDepth 100000 in
theorem g259_153 : G d 259 153 ls st h Q ↔ GN d 259 153 ls h (ldI ls 10 fun x => nx 155 ls (.int x :: st) h) Q := G_unf rfl rfl
set_option maxRecDepth 100000 in
theorem g259_155 : G d 259 155 ls st h Q ↔ GN d 259 155 ls h (ldR ls 0 fun a => nx 156 ls (.ref a :: st) h) Q := G_unf rfl rfl
set_option maxRecDepth 100000 in
theorem g259_156 : G d 259 156 ls st h Q ↔ GN d 259 156 ls h (pR st fun a r => ck (arr h a 9) (nx 159 ls (rv (hR h a 14) :: r) h)) Q := G_unf rfl rfl
set_option maxRecDepth 100000 in
theorem g259_159 : G d 259 159 ls st h Q ↔ GN d 259 159 ls h (ldR ls 0 fun a => nx 160 ls (.ref a :: st) h) Q := G_unf rfl rfl
set_option maxRecDepth 100000 in
theorem g259_160 : G d 259 160 ls st h Q ↔ GN d 259 160 ls h (pR st fun a r => ck (arr h a 9) (nx 163 ls (.int (hI h a 13) :: r) h)) Q := G_unf rfl rfl
set_option maxRecDepth 100000 in
theorem g259_163 : G d 259 163 ls st h Q ↔ GN d 259 163 ls h (pRI st fun a i r => br (a = 1000003) (ck (inb i (hS h).1) (nx 164 ls (.int ((hS h).2 i.toNatClampNeg) :: r) h)) (ck (arr h a 10 ∧ inb i (hLn h a)) (nx 164 ls (.int (hI h a i.toNatClampNeg) :: r) h))) Q := G_unf rfl rfl
set_option maxRecDepth 100000 in
theorem g259_164 : G d 259 164 ls st h Q ↔ GN d 259 164 ls h (pII st fun x y r => br (y ≤ x) (nx 199 ls r h) (nx 167 ls r h)) Q := G_unf rfl rfl
set_option maxRecDepth 100000 in
theorem g259_167 : G d 259 167 ls st h Q ↔ GN d 259 167 ls h (ldI ls 9 fun x => nx 169 ls (.int x :: st) h) Q := G_unf rfl rfl
set_option maxRecDepth 100000 in
theorem g259_169 : G d 259 169 ls st h Q ↔ GN d 259 169 ls h (ldI ls 8 fun x => nx 171 ls (.int x :: st) h) Q := G_unf rfl rfl
set_option maxRecDepth 100000 in
theorem g259_171 : G d 259 171 ls st h Q ↔ GN d 259 171 ls h (ldI ls 10 fun x => nx 173 ls (.int x :: st) h) Q := G_unf rfl rfl
set_option maxRecDepth 100000 in
theorem g259_173 : G d 259 173 ls st h Q ↔ GN d 259 173 ls h (pA 2 st fun as r => ck (r.length ≤ 4) (cll 205 as r)) Q := G_unf rfl rfl
set_option maxRecDepth 100000 in
theorem g259_176 : G d 259 176 ls st h Q ↔ GN d 259 176 ls h (pI st fun x r => br (x = 0) (nx 189 ls r h) (nx 179 ls r h)) Q := G_unf rfl rfl
set_option maxRecDepth 100000 in
theorem g259_179 : G d 259 179 ls st h Q ↔ GN d 259 179 ls h (ldR ls 0 fun a => nx 180 ls (.ref a :: st) h) Q := G_unf rfl rfl
set_option maxRecDepth 100000 in
theorem g259_180 : G d 259 180 ls st h Q ↔ GN d 259 180 ls h (pR st fun a r => ck (arr h a 9) (nx 183 ls (rv (hR h a 76) :: r) h)) Q := G_unf rfl rfl
set_option maxRecDepth 100000 in
theorem g259_183 : G d 259 183 ls st h Q ↔ GN d 259 183 ls h (ldI ls 10 fun x => nx 185 ls (.int x :: st) h) Q := G_unf rfl rfl
set_option maxRecDepth 100000 in
theorem g259_185 : G d 259 185 ls st h Q ↔ GN d 259 185 ls h (pRI st fun a i r => br (a = 1000003) (ck (inb i (hS h).1) (nx 186 ls (.int ((hS h).2 i.toNatClampNeg) :: r) h)) (ck (arr h a 10 ∧ inb i (hLn h a)) (nx 186 ls (.int (hI h a i.toNatClampNeg) :: r) h))) Q := G_unf rfl rfl
set_option maxRecDepth 100000 in
theorem g259_186 : G d 259 186 ls st h Q ↔ GN d 259 186 ls h (nx 190 ls st h) Q := G_unf rfl rfl
set_option maxRecDepth 100000 in
theorem g259_189 : G d 259 189 ls st h Q ↔ GN d 259 189 ls h (nx 190 ls (.int (nI 0) :: st) h) Q := G_unf rfl rfl
set_option maxRecDepth 100000 in
theorem g259_190 : G d 259 190 ls st h Q ↔ GN d 259 190 ls h (pII st fun x y r => nx 191 ls (.int (x + y) :: r) h) Q := G_unf rfl rfl
set_option maxRecDepth 100000 in
theorem g259_191 : G d 259 191 ls st h Q ↔ GN d 259 191 ls h (pI st fun x r => ck (9 < ls.length) (nx 193 (st1 ls 9 (.int x)) r h)) Q := G_unf rfl rfl
set_option maxRecDepth 100000 in
theorem g259_193 : G d 259 193 ls st h Q ↔ GN d 259 193 ls h (ldI ls 10 fun x => nx 196 (st1 ls 10 (.int (x + (nI 1)))) st h) Q := G_unf rfl rfl
set_option maxRecDepth 100000 in
theorem g259_196 : G d 259 196 ls st h Q ↔ GN d 259 196 ls h (nx 153 ls st h) Q := G_unf rfl rfl
set_option maxRecDepth 100000 in
theorem g259_199 : G d 259 199 ls st h Q ↔ GN d 259 199 ls h (ldI ls 9 fun x => nx 201 ls (.int x :: st) h) Q := G_unf rfl rfl
set_option maxRecDepth 100000 in
theorem g259_201 : G d 259 201 ls st h Q ↔ GN d 259 201 ls h (ldI ls 7 fun x => nx 203 ls (.int x :: st) h) Q := G_unf rfl rfl
set_option maxRecDepth 100000 in
theorem g259_203 : G d 259 203 ls st h Q ↔ GN d 259 203 ls h (pII st fun x y r => br (y ≤ x) (nx 235 ls r h) (nx 206 ls r h)) Q := G_unf rfl rfl
set_option maxRecDepth 100000 in
theorem g259_206 : G d 259 206 ls st h Q ↔ GN d 259 206 ls h (ldR ls 0 fun a => nx 207 ls (.ref a :: st) h) Q := G_unf rfl rfl
set_option maxRecDepth 100000 in
theorem g259_207 : G d 259 207 ls st h Q ↔ GN d 259 207 ls h (ldI ls 5 fun x => nx 209 ls (.int x :: st) h) Q := G_unf rfl rfl
set_option maxRecDepth 100000 in
theorem g259_209 : G d 259 209 ls st h Q ↔ GN d 259 209 ls h (ldI ls 8 fun x => nx 211 ls (.int x :: st) h) Q := G_unf rfl rfl
set_option maxRecDepth 100000 in
theorem g259_211 : G d 259 211 ls st h Q ↔ GN d 259 211 ls h (nx 212 ls (.int (-1) :: st) h) Q := G_unf rfl rfl
set_option maxRecDepth 100000 in
theorem g259_212 : G d 259 212 ls st h Q ↔ GN d 259 212 ls h (pII st fun x y r => nx 213 ls (.int (x ^^^ y) :: r) h) Q := G_unf rfl rfl
set_option maxRecDepth 100000 in
theorem g259_213 : G d 259 213 ls st h Q ↔ GN d 259 213 ls h (pII st fun x y r => nx 214 ls (.int (x &&& y) :: r) h) Q := G_unf rfl rfl
set_option maxRecDepth 100000 in
theorem g259_214 : G d 259 214 ls st h Q ↔ GN d 259 214 ls h (pA 1 st fun as r => pR r fun a r => ck (r.length ≤ 4 ∧ arr h a 9) (cll 255 (.ref a :: as) r)) Q := G_unf rfl rfl
set_option maxRecDepth 100000 in
theorem g259_217 : G d 259 217 ls st h Q ↔ GN d 259 217 ls h (ldI ls 2 fun x => nx 218 ls (.int x :: st) h) Q := G_unf rfl rfl
set_option maxRecDepth 100000 in
theorem g259_218 : G d 259 218 ls st h Q ↔ GN d 259 218 ls h (pA 2 st fun as r => ck (r.length ≤ 4) (cll 205 as r)) Q := G_unf rfl rfl
set_option maxRecDepth 100000 in
theorem g259_221 : G d 259 221 ls st h Q ↔ GN d 259 221 ls h (pI st fun x r => br (x = 0) (nx 227 ls r h) (nx 224 ls r h)) Q := G_unf rfl rfl
set_option maxRecDepth 100000 in
theorem g259_224 : G d 259 224 ls st h Q ↔ GN d 259 224 ls h (nx 235 ls st h) Q := G_unf rfl rfl
set_option maxRecDepth 100000 in
theorem g259_227 : G d 259 227 ls st h Q ↔ GN d 259 227 ls h (ldI ls 8 fun x => nx 229 ls (.int x :: st) h) Q := G_unf rfl rfl
set_option maxRecDepth 100000 in
theorem g259_229 : G d 259 229 ls st h Q ↔ GN d 259 229 ls h (pI st fun x r => ck (6 < ls.length) (nx 231 (st1 ls 6 (.int x)) r h)) Q := G_unf rfl rfl
set_option maxRecDepth 100000 in
theorem g259_231 : G d 259 231 ls st h Q ↔ GN d 259 231 ls h (ldI ls 9 fun x => nx 233 ls (.int x :: st) h) Q := G_unf rfl rfl
set_option maxRecDepth 100000 in
theorem g259_233 : G d 259 233 ls st h Q ↔ GN d 259 233 ls h (pI st fun x r => ck (7 < ls.length) (nx 235 (st1 ls 7 (.int x)) r h)) Q := G_unf rfl rfl
set_option maxRecDepth 100000 in
theorem g259_235 : G d 259 235 ls st h Q ↔ GN d 259 235 ls h (ldI ls 8 fun x => nx 238 (st1 ls 8 (.int (x + (nI 1)))) st h) Q := G_unf rfl rfl
set_option maxRecDepth 100000 in
theorem g259_238 : G d 259 238 ls st h Q ↔ GN d 259 238 ls h (nx 118 ls st h) Q := G_unf rfl rfl
set_option maxRecDepth 100000 in
theorem g259_241 : G d 259 241 ls st h Q ↔ GN d 259 241 ls h (ldI ls 6 fun x => nx 243 ls (.int x :: st) h) Q := G_unf rfl rfl
set_option maxRecDepth 100000 in
theorem g259_243 : G d 259 243 ls st h Q ↔ GN d 259 243 ls h (nx 244 ls (.int (-1) :: st) h) Q := G_unf rfl rfl
set_option maxRecDepth 100000 in
theorem g259_244 : G d 259 244 ls st h Q ↔ GN d 259 244 ls h (pII st fun x y r => br (¬ x = y) (nx 251 ls r h) (nx 247 ls r h)) Q := G_unf rfl rfl
set_option maxRecDepth 100000 in
theorem g259_247 : G d 259 247 ls st h Q ↔ GN d 259 247 ls h (nx 248 ls (.int (-1) :: st) h) Q := G_unf rfl rfl
set_option maxRecDepth 100000 in
theorem g259_248 : G d 259 248 ls st h Q ↔ GN d 259 248 ls h (nx 263 ls st h) Q := G_unf rfl rfl
set_option maxRecDepth 100000 in
theorem g259_251 : G d 259 251 ls st h Q ↔ GN d 259 251 ls h (ldI ls 4 fun x => nx 253 ls (.int x :: st) h) Q := G_unf rfl rfl
set_option maxRecDepth 100000 in
theorem g259_253 : G d 259 253 ls st h Q ↔ GN d 259 253 ls h (pI st fun x r => br (¬ x = 0) (nx 261 ls r h) (nx 256 ls r h)) Q := G_unf rfl rfl
set_option maxRecDepth 100000 in
theorem g259_256 : G d 259 256 ls st h Q ↔ GN d 259 256 ls h (ldI ls 7 fun x => nx 258 ls (.int x :: st) h) Q := G_unf rfl rfl
set_option maxRecDepth 100000 in
theorem g259_258 : G d 259 258 ls st h Q ↔ GN d 259 258 ls h (nx 263 ls st h) Q := G_unf rfl rfl
set_option maxRecDepth 100000 in
theorem g259_261 : G d 259 261 ls st h Q ↔ GN d 259 261 ls h (ldI ls 6 fun x => nx 263 ls (.int x :: st) h) Q := G_unf rfl rfl
set_option maxRecDepth 100000 in
theorem g259_263 : G d 259 263 ls st h Q ↔ GN d 259 263 ls h (pIe st fun x => rtn (some (.int x))) Q := G_unf rfl rfl
theorem g260_0 : G d 260 0 ls st h Q ↔ GN d 260 0 ls h (ldI ls 1 fun x => nx 1 ls (.int x :: st) h) Q := G_unf rfl rfl
theorem g260_1 : G d 260 1 ls st h Q ↔ GN d 260 1 ls h (pI st fun x r => ck (3 < ls.length) (nx 2 (st1 ls 3 (.int x)) r h)) Q := G_unf rfl rfl
theorem g260_2 : G d 260 2 ls st h Q ↔ GN d 260 2 ls h (ldR ls 0 fun a => nx 3 ls (.ref a :: st) h) Q := G_unf rfl rfl
theorem g260_3 : G d 260 3 ls st h Q ↔ GN d 260 3 ls h (pR st fun a r => ck (arr h a 9) (nx 6 ls (rv (hR h a 51) :: r) h)) Q := G_unf rfl rfl
theorem g260_6 : G d 260 6 ls st h Q ↔ GN d 260 6 ls h (nx 7 ls (.int (nI 0) :: st) h) Q := G_unf rfl rfl
theorem g260_7 : G d 260 7 ls st h Q ↔ GN d 260 7 ls h (pRI st fun a i r => br (a = 1000003) (ck (inb i (hS h).1) (nx 8 ls (.int ((hS h).2 i.toNatClampNeg) :: r) h)) (ck (arr h a 10 ∧ inb i (hLn h a)) (nx 8 ls (.int (hI h a i.toNatClampNeg) :: r) h))) Q := G_unf rfl rfl
theorem g260_8 : G d 260 8 ls st h Q ↔ GN d 260 8 ls h (nx 9 ls (.int (nI 1) :: st) h) Q := G_unf rfl rfl
theorem g260_9 : G d 260 9 ls st h Q ↔ GN d 260 9 ls h (pII st fun x y r => nx 10 ls (.int (x + y) :: r) h) Q := G_unf rfl rfl
theorem g260_10 : G d 260 10 ls st h Q ↔ GN d 260 10 ls h (pI st fun x r => ck (4 < ls.length) (nx 12 (st1 ls 4 (.int x)) r h)) Q := G_unf rfl rfl
theorem g260_12 : G d 260 12 ls st h Q ↔ GN d 260 12 ls h (ldI ls 4 fun x => nx 14 ls (.int x :: st) h) Q := G_unf rfl rfl
theorem g260_14 : G d 260 14 ls st h Q ↔ GN d 260 14 ls h (ldR ls 0 fun a => nx 15 ls (.ref a :: st) h) Q := G_unf rfl rfl
theorem g260_15 : G d 260 15 ls st h Q ↔ GN d 260 15 ls h (pR st fun a r => ck (arr h a 9) (nx 18 ls (rv (hR h a 51) :: r) h)) Q := G_unf rfl rfl
theorem g260_18 : G d 260 18 ls st h Q ↔ GN d 260 18 ls h (nx 19 ls (.int (nI 0) :: st) h) Q := G_unf rfl rfl
theorem g260_19 : G d 260 19 ls st h Q ↔ GN d 260 19 ls h (pRI st fun a i r => br (a = 1000003) (ck (inb i (hS h).1) (nx 20 ls (.int ((hS h).2 i.toNatClampNeg) :: r) h)) (ck (arr h a 10 ∧ inb i (hLn h a)) (nx 20 ls (.int (hI h a i.toNatClampNeg) :: r) h))) Q := G_unf rfl rfl
theorem g260_20 : G d 260 20 ls st h Q ↔ GN d 260 20 ls h (ldI ls 2 fun x => nx 21 ls (.int x :: st) h) Q := G_unf rfl rfl
theorem g260_21 : G d 260 21 ls st h Q ↔ GN d 260 21 ls h (pII st fun x y r => nx 22 ls (.int (x + y) :: r) h) Q := G_unf rfl rfl
theorem g260_22 : G d 260 22 ls st h Q ↔ GN d 260 22 ls h (pII st fun x y r => br (y < x) (nx 107 ls r h) (nx 25 ls r h)) Q := G_unf rfl rfl
theorem g260_25 : G d 260 25 ls st h Q ↔ GN d 260 25 ls h (nx 26 ls (.int (nI 0) :: st) h) Q := G_unf rfl rfl
theorem g260_26 : G d 260 26 ls st h Q ↔ GN d 260 26 ls h (pI st fun x r => ck (5 < ls.length) (nx 28 (st1 ls 5 (.int x)) r h)) Q := G_unf rfl rfl
theorem g260_28 : G d 260 28 ls st h Q ↔ GN d 260 28 ls h (ldI ls 5 fun x => nx 30 ls (.int x :: st) h) Q := G_unf rfl rfl
theorem g260_30 : G d 260 30 ls st h Q ↔ GN d 260 30 ls h (ldR ls 0 fun a => nx 31 ls (.ref a :: st) h) Q := G_unf rfl rfl
theorem g260_31 : G d 260 31 ls st h Q ↔ GN d 260 31 ls h (pR st fun a r => ck (arr h a 9) (nx 34 ls (rv (hR h a 23) :: r) h)) Q := G_unf rfl rfl
theorem g260_34 : G d 260 34 ls st h Q ↔ GN d 260 34 ls h (ldR ls 0 fun a => nx 35 ls (.ref a :: st) h) Q := G_unf rfl rfl
theorem g260_35 : G d 260 35 ls st h Q ↔ GN d 260 35 ls h (pR st fun a r => ck (arr h a 9) (nx 38 ls (.int (hI h a 13) :: r) h)) Q := G_unf rfl rfl
theorem g260_38 : G d 260 38 ls st h Q ↔ GN d 260 38 ls h (pRI st fun a i r => br (a = 1000003) (ck (inb i (hS h).1) (nx 39 ls (.int ((hS h).2 i.toNatClampNeg) :: r) h)) (ck (arr h a 10 ∧ inb i (hLn h a)) (nx 39 ls (.int (hI h a i.toNatClampNeg) :: r) h))) Q := G_unf rfl rfl
theorem g260_39 : G d 260 39 ls st h Q ↔ GN d 260 39 ls h (pII st fun x y r => br (y ≤ x) (nx 101 ls r h) (nx 42 ls r h)) Q := G_unf rfl rfl
theorem g260_42 : G d 260 42 ls st h Q ↔ GN d 260 42 ls h (nx 44 ls (.int (nI 16) :: st) h) Q := G_unf rfl rfl
theorem g260_44 : G d 260 44 ls st h Q ↔ GN d 260 44 ls h (ldR ls 0 fun a => nx 45 ls (.ref a :: st) h) Q := G_unf rfl rfl
theorem g260_45 : G d 260 45 ls st h Q ↔ GN d 260 45 ls h (pR st fun a r => ck (arr h a 9) (nx 48 ls (.int (hI h a 13) :: r) h)) Q := G_unf rfl rfl
theorem g260_48 : G d 260 48 ls st h Q ↔ GN d 260 48 ls h (pII st fun x y r => nx 49 ls (.int (x * y) :: r) h) Q := G_unf rfl rfl
theorem g260_49 : G d 260 49 ls st h Q ↔ GN d 260 49 ls h (ldI ls 5 fun x => nx 51 ls (.int x :: st) h) Q := G_unf rfl rfl
theorem g260_51 : G d 260 51 ls st h Q ↔ GN d 260 51 ls h (pII st fun x y r => nx 52 ls (.int (x + y) :: r) h) Q := G_unf rfl rfl
theorem g260_52 : G d 260 52 ls st h Q ↔ GN d 260 52 ls h (pI st fun x r => ck (6 < ls.length) (nx 54 (st1 ls 6 (.int x)) r h)) Q := G_unf rfl rfl
theorem g260_54 : G d 260 54 ls st h Q ↔ GN d 260 54 ls h (ldR ls 0 fun a => nx 55 ls (.ref a :: st) h) Q := G_unf rfl rfl
theorem g260_55 : G d 260 55 ls st h Q ↔ GN d 260 55 ls h (pR st fun a r => ck (arr h a 9) (nx 58 ls (rv (hR h a 26) :: r) h)) Q := G_unf rfl rfl
theorem g260_58 : G d 260 58 ls st h Q ↔ GN d 260 58 ls h (ldI ls 6 fun x => nx 60 ls (.int x :: st) h) Q := G_unf rfl rfl
theorem g260_60 : G d 260 60 ls st h Q ↔ GN d 260 60 ls h (pRI st fun a i r => br (a = 1000003) (ck (inb i (hS h).1) (nx 61 ls (.int ((hS h).2 i.toNatClampNeg) :: r) h)) (ck (arr h a 10 ∧ inb i (hLn h a)) (nx 61 ls (.int (hI h a i.toNatClampNeg) :: r) h))) Q := G_unf rfl rfl
theorem g260_61 : G d 260 61 ls st h Q ↔ GN d 260 61 ls h (ldI ls 4 fun x => nx 63 ls (.int x :: st) h) Q := G_unf rfl rfl
theorem g260_63 : G d 260 63 ls st h Q ↔ GN d 260 63 ls h (nx 65 ls (.int (nI 7) :: st) h) Q := G_unf rfl rfl
theorem g260_65 : G d 260 65 ls st h Q ↔ GN d 260 65 ls h (pII st fun x y r => ck (¬ y = 0) (nx 66 ls (.int (x - x / y * y) :: r) h)) Q := G_unf rfl rfl
theorem g260_66 : G d 260 66 ls st h Q ↔ GN d 260 66 ls h (pII st fun x y r => br (¬ x = y) (nx 95 ls r h) (nx 69 ls r h)) Q := G_unf rfl rfl
theorem g260_69 : G d 260 69 ls st h Q ↔ GN d 260 69 ls h (ldI ls 3 fun x => nx 70 ls (.int x :: st) h) Q := G_unf rfl rfl
theorem g260_70 : G d 260 70 ls st h Q ↔ GN d 260 70 ls h (ldR ls 0 fun a => nx 71 ls (.ref a :: st) h) Q := G_unf rfl rfl
theorem g260_71 : G d 260 71 ls st h Q ↔ GN d 260 71 ls h (pR st fun a r => ck (arr h a 9) (nx 74 ls (rv (hR h a 24) :: r) h)) Q := G_unf rfl rfl
theorem g260_74 : G d 260 74 ls st h Q ↔ GN d 260 74 ls h (ldI ls 6 fun x => nx 76 ls (.int x :: st) h) Q := G_unf rfl rfl
theorem g260_76 : G d 260 76 ls st h Q ↔ GN d 260 76 ls h (pRI st fun a i r => br (a = 1000003) (ck (inb i (hS h).1) (nx 77 ls (.int ((hS h).2 i.toNatClampNeg) :: r) h)) (ck (arr h a 10 ∧ inb i (hLn h a)) (nx 77 ls (.int (hI h a i.toNatClampNeg) :: r) h))) Q := G_unf rfl rfl
theorem g260_77 : G d 260 77 ls st h Q ↔ GN d 260 77 ls h (pA 2 st fun as r => ck (r.length ≤ 4) (cll 205 as r)) Q := G_unf rfl rfl
theorem g260_80 : G d 260 80 ls st h Q ↔ GN d 260 80 ls h (pI st fun x r => br (x = 0) (nx 95 ls r h) (nx 83 ls r h)) Q := G_unf rfl rfl
theorem g260_83 : G d 260 83 ls st h Q ↔ GN d 260 83 ls h (ldI ls 3 fun x => nx 84 ls (.int x :: st) h) Q := G_unf rfl rfl
theorem g260_84 : G d 260 84 ls st h Q ↔ GN d 260 84 ls h (nx 85 ls (.int (nI 1) :: st) h) Q := G_unf rfl rfl
theorem g260_85 : G d 260 85 ls st h Q ↔ GN d 260 85 ls h (ldR ls 0 fun a => nx 86 ls (.ref a :: st) h) Q := G_unf rfl rfl
theorem g260_86 : G d 260 86 ls st h Q ↔ GN d 260 86 ls h (pR st fun a r => ck (arr h a 9) (nx 89 ls (rv (hR h a 25) :: r) h)) Q := G_unf rfl rfl
theorem g260_89 : G d 260 89 ls st h Q ↔ GN d 260 89 ls h (ldI ls 6 fun x => nx 91 ls (.int x :: st) h) Q := G_unf rfl rfl
theorem g260_91 : G d 260 91 ls st h Q ↔ GN d 260 91 ls h (pRI st fun a i r => br (a = 1000003) (ck (inb i (hS h).1) (nx 92 ls (.int ((hS h).2 i.toNatClampNeg) :: r) h)) (ck (arr h a 10 ∧ inb i (hLn h a)) (nx 92 ls (.int (hI h a i.toNatClampNeg) :: r) h))) Q := G_unf rfl rfl
theorem g260_92 : G d 260 92 ls st h Q ↔ GN d 260 92 ls h (pII st fun x y r => nx 93 ls (.int (x <<< (y &&& 31)) :: r) h) Q := G_unf rfl rfl
theorem g260_93 : G d 260 93 ls st h Q ↔ GN d 260 93 ls h (pII st fun x y r => nx 94 ls (.int (x ||| y) :: r) h) Q := G_unf rfl rfl
theorem g260_94 : G d 260 94 ls st h Q ↔ GN d 260 94 ls h (pI st fun x r => ck (3 < ls.length) (nx 95 (st1 ls 3 (.int x)) r h)) Q := G_unf rfl rfl
theorem g260_95 : G d 260 95 ls st h Q ↔ GN d 260 95 ls h (ldI ls 5 fun x => nx 98 (st1 ls 5 (.int (x + (nI 1)))) st h) Q := G_unf rfl rfl
theorem g260_98 : G d 260 98 ls st h Q ↔ GN d 260 98 ls h (nx 28 ls st h) Q := G_unf rfl rfl
theorem g260_101 : G d 260 101 ls st h Q ↔ GN d 260 101 ls h (ldI ls 4 fun x => nx 104 (st1 ls 4 (.int (x + (nI 1)))) st h) Q := G_unf rfl rfl
theorem g260_104 : G d 260 104 ls st h Q ↔ GN d 260 104 ls h (nx 12 ls st h) Q := G_unf rfl rfl
theorem g260_107 : G d 260 107 ls st h Q ↔ GN d 260 107 ls h (ldI ls 3 fun x => nx 108 ls (.int x :: st) h) Q := G_unf rfl rfl
theorem g260_108 : G d 260 108 ls st h Q ↔ GN d 260 108 ls h (nx 109 ls (.int (nI 1) :: st) h) Q := G_unf rfl rfl
theorem g260_109 : G d 260 109 ls st h Q ↔ GN d 260 109 ls h (ldR ls 0 fun a => nx 110 ls (.ref a :: st) h) Q := G_unf rfl rfl
theorem g260_110 : G d 260 110 ls st h Q ↔ GN d 260 110 ls h (pR st fun a r => ck (arr h a 9) (nx 113 ls (rv (hR h a 20) :: r) h)) Q := G_unf rfl rfl
theorem g260_113 : G d 260 113 ls st h Q ↔ GN d 260 113 ls h (ldR ls 0 fun a => nx 114 ls (.ref a :: st) h) Q := G_unf rfl rfl
theorem g260_114 : G d 260 114 ls st h Q ↔ GN d 260 114 ls h (pR st fun a r => ck (arr h a 9) (nx 117 ls (.int (hI h a 13) :: r) h)) Q := G_unf rfl rfl
theorem g260_117 : G d 260 117 ls st h Q ↔ GN d 260 117 ls h (pRI st fun a i r => br (a = 1000003) (ck (inb i (hS h).1) (nx 118 ls (.int ((hS h).2 i.toNatClampNeg) :: r) h)) (ck (arr h a 10 ∧ inb i (hLn h a)) (nx 118 ls (.int (hI h a i.toNatClampNeg) :: r) h))) Q := G_unf rfl rfl
theorem g260_118 : G d 260 118 ls st h Q ↔ GN d 260 118 ls h (pII st fun x y r => nx 119 ls (.int (x <<< (y &&& 31)) :: r) h) Q := G_unf rfl rfl
theorem g260_119 : G d 260 119 ls st h Q ↔ GN d 260 119 ls h (nx 120 ls (.int (nI 1) :: st) h) Q := G_unf rfl rfl
theorem g260_120 : G d 260 120 ls st h Q ↔ GN d 260 120 ls h (pII st fun x y r => nx 121 ls (.int (x - y) :: r) h) Q := G_unf rfl rfl
theorem g260_121 : G d 260 121 ls st h Q ↔ GN d 260 121 ls h (pII st fun x y r => br (¬ x = y) (nx 128 ls r h) (nx 124 ls r h)) Q := G_unf rfl rfl
theorem g260_124 : G d 260 124 ls st h Q ↔ GN d 260 124 ls h (nx 125 ls (.int (nI 1) :: st) h) Q := G_unf rfl rfl
theorem g260_125 : G d 260 125 ls st h Q ↔ GN d 260 125 ls h (nx 129 ls st h) Q := G_unf rfl rfl
theorem g260_128 : G d 260 128 ls st h Q ↔ GN d 260 128 ls h (nx 129 ls (.int (nI 0) :: st) h) Q := G_unf rfl rfl
theorem g260_129 : G d 260 129 ls st h Q ↔ GN d 260 129 ls h (pIe st fun x => ck (x = 0 ∨ x = 1) (rtn (some (.int x)))) Q := G_unf rfl rfl
theorem g261_0 : G d 261 0 ls st h Q ↔ GN d 261 0 ls h (ldI ls 0 fun x => nx 1 ls (.int x :: st) h) Q := G_unf rfl rfl
theorem g261_1 : G d 261 1 ls st h Q ↔ GN d 261 1 ls h (ldI ls 1 fun x => nx 2 ls (.int x :: st) h) Q := G_unf rfl rfl
theorem g261_2 : G d 261 2 ls st h Q ↔ GN d 261 2 ls h (pII st fun x y r => nx 3 ls (.int (x ^^^ y) :: r) h) Q := G_unf rfl rfl
theorem g261_3 : G d 261 3 ls st h Q ↔ GN d 261 3 ls h (pI st fun x r => ck (2 < ls.length) (nx 4 (st1 ls 2 (.int x)) r h)) Q := G_unf rfl rfl
theorem g261_4 : G d 261 4 ls st h Q ↔ GN d 261 4 ls h (ldI ls 0 fun x => nx 5 ls (.int x :: st) h) Q := G_unf rfl rfl
theorem g261_5 : G d 261 5 ls st h Q ↔ GN d 261 5 ls h (ldI ls 2 fun x => nx 6 ls (.int x :: st) h) Q := G_unf rfl rfl
theorem g261_6 : G d 261 6 ls st h Q ↔ GN d 261 6 ls h (pII st fun x y r => nx 7 ls (.int (x &&& y) :: r) h) Q := G_unf rfl rfl
theorem g261_7 : G d 261 7 ls st h Q ↔ GN d 261 7 ls h (ldI ls 2 fun x => nx 8 ls (.int x :: st) h) Q := G_unf rfl rfl
theorem g261_8 : G d 261 8 ls st h Q ↔ GN d 261 8 ls h (pI st fun x r => nx 9 ls (.int (-x) :: r) h) Q := G_unf rfl rfl
theorem g261_9 : G d 261 9 ls st h Q ↔ GN d 261 9 ls h (pII st fun x y r => nx 10 ls (.int (x &&& y) :: r) h) Q := G_unf rfl rfl
theorem g261_10 : G d 261 10 ls st h Q ↔ GN d 261 10 ls h (pI st fun x r => br (x = 0) (nx 17 ls r h) (nx 13 ls r h)) Q := G_unf rfl rfl
theorem g261_13 : G d 261 13 ls st h Q ↔ GN d 261 13 ls h (nx 14 ls (.int (nI 1) :: st) h) Q := G_unf rfl rfl
theorem g261_14 : G d 261 14 ls st h Q ↔ GN d 261 14 ls h (nx 18 ls st h) Q := G_unf rfl rfl
theorem g261_17 : G d 261 17 ls st h Q ↔ GN d 261 17 ls h (nx 18 ls (.int (nI 0) :: st) h) Q := G_unf rfl rfl
theorem g261_18 : G d 261 18 ls st h Q ↔ GN d 261 18 ls h (pIe st fun x => ck (x = 0 ∨ x = 1) (rtn (some (.int x)))) Q := G_unf rfl rfl
theorem g262_0 : G d 262 0 ls st h Q ↔ GN d 262 0 ls h (ldR ls 0 fun a => nx 1 ls (.ref a :: st) h) Q := G_unf rfl rfl
theorem g262_1 : G d 262 1 ls st h Q ↔ GN d 262 1 ls h (ldI ls 1 fun x => nx 2 ls (.int x :: st) h) Q := G_unf rfl rfl
theorem g262_2 : G d 262 2 ls st h Q ↔ GN d 262 2 ls h (pA 1 st fun as r => pR r fun a r => ck (r.length ≤ 4 ∧ arr h a 9) (cll 249 (.ref a :: as) r)) Q := G_unf rfl rfl
theorem g262_5 : G d 262 5 ls st h Q ↔ GN d 262 5 ls h (pI st fun x r => br (¬ x = 0) (nx 10 ls r h) (nx 8 ls r h)) Q := G_unf rfl rfl
theorem g262_8 : G d 262 8 ls st h Q ↔ GN d 262 8 ls h (nx 9 ls (.int (-1) :: st) h) Q := G_unf rfl rfl
theorem g262_9 : G d 262 9 ls st h Q ↔ GN d 262 9 ls h (pIe st fun x => rtn (some (.int x))) Q := G_unf rfl rfl
theorem g262_10 : G d 262 10 ls st h Q ↔ GN d 262 10 ls h (nx 11 ls (.int (-1) :: st) h) Q := G_unf rfl rfl
theorem g262_11 : G d 262 11 ls st h Q ↔ GN d 262 11 ls h (pI st fun x r => ck (3 < ls.length) (nx 12 (st1 ls 3 (.int x)) r h)) Q := G_unf rfl rfl
theorem g262_12 : G d 262 12 ls st h Q ↔ GN d 262 12 ls h (nx 13 ls (.int (nI 0) :: st) h) Q := G_unf rfl rfl
theorem g262_13 : G d 262 13 ls st h Q ↔ GN d 262 13 ls h (pI st fun x r => ck (4 < ls.length) (nx 15 (st1 ls 4 (.int x)) r h)) Q := G_unf rfl rfl
theorem g262_15 : G d 262 15 ls st h Q ↔ GN d 262 15 ls h (ldI ls 4 fun x => nx 17 ls (.int x :: st) h) Q := G_unf rfl rfl
theorem g262_17 : G d 262 17 ls st h Q ↔ GN d 262 17 ls h (nx 18 ls (.int (nI 1) :: st) h) Q := G_unf rfl rfl
theorem g262_18 : G d 262 18 ls st h Q ↔ GN d 262 18 ls h (ldR ls 0 fun a => nx 19 ls (.ref a :: st) h) Q := G_unf rfl rfl
theorem g262_19 : G d 262 19 ls st h Q ↔ GN d 262 19 ls h (pR st fun a r => ck (arr h a 9) (nx 22 ls (rv (hR h a 20) :: r) h)) Q := G_unf rfl rfl
theorem g262_22 : G d 262 22 ls st h Q ↔ GN d 262 22 ls h (ldR ls 0 fun a => nx 23 ls (.ref a :: st) h) Q := G_unf rfl rfl
theorem g262_23 : G d 262 23 ls st h Q ↔ GN d 262 23 ls h (pR st fun a r => ck (arr h a 9) (nx 26 ls (.int (hI h a 13) :: r) h)) Q := G_unf rfl rfl
theorem g262_26 : G d 262 26 ls st h Q ↔ GN d 262 26 ls h (pRI st fun a i r => br (a = 1000003) (ck (inb i (hS h).1) (nx 27 ls (.int ((hS h).2 i.toNatClampNeg) :: r) h)) (ck (arr h a 10 ∧ inb i (hLn h a)) (nx 27 ls (.int (hI h a i.toNatClampNeg) :: r) h))) Q := G_unf rfl rfl
theorem g262_27 : G d 262 27 ls st h Q ↔ GN d 262 27 ls h (pII st fun x y r => nx 28 ls (.int (x <<< (y &&& 31)) :: r) h) Q := G_unf rfl rfl
theorem g262_28 : G d 262 28 ls st h Q ↔ GN d 262 28 ls h (pII st fun x y r => br (y ≤ x) (nx 98 ls r h) (nx 31 ls r h)) Q := G_unf rfl rfl
theorem g262_31 : G d 262 31 ls st h Q ↔ GN d 262 31 ls h (ldI ls 4 fun x => nx 33 ls (.int x :: st) h) Q := G_unf rfl rfl
theorem g262_33 : G d 262 33 ls st h Q ↔ GN d 262 33 ls h (pA 1 st fun as r => ck (r.length ≤ 4) (cll 206 as r)) Q := G_unf rfl rfl
theorem g262_36 : G d 262 36 ls st h Q ↔ GN d 262 36 ls h (pI st fun x r => ck (5 < ls.length) (nx 38 (st1 ls 5 (.int x)) r h)) Q := G_unf rfl rfl
theorem g262_38 : G d 262 38 ls st h Q ↔ GN d 262 38 ls h (ldI ls 5 fun x => nx 40 ls (.int x :: st) h) Q := G_unf rfl rfl
theorem g262_40 : G d 262 40 ls st h Q ↔ GN d 262 40 ls h (nx 41 ls (.int (nI 3) :: st) h) Q := G_unf rfl rfl
theorem g262_41 : G d 262 41 ls st h Q ↔ GN d 262 41 ls h (pII st fun x y r => br (y < x) (nx 92 ls r h) (nx 44 ls r h)) Q := G_unf rfl rfl
theorem g262_44 : G d 262 44 ls st h Q ↔ GN d 262 44 ls h (ldI ls 3 fun x => nx 45 ls (.int x :: st) h) Q := G_unf rfl rfl
theorem g262_45 : G d 262 45 ls st h Q ↔ GN d 262 45 ls h (nx 46 ls (.int (-1) :: st) h) Q := G_unf rfl rfl
theorem g262_46 : G d 262 46 ls st h Q ↔ GN d 262 46 ls h (pII st fun x y r => br (x = y) (nx 76 ls r h) (nx 49 ls r h)) Q := G_unf rfl rfl
theorem g262_49 : G d 262 49 ls st h Q ↔ GN d 262 49 ls h (ldI ls 5 fun x => nx 51 ls (.int x :: st) h) Q := G_unf rfl rfl
theorem g262_51 : G d 262 51 ls st h Q ↔ GN d 262 51 ls h (ldI ls 3 fun x => nx 52 ls (.int x :: st) h) Q := G_unf rfl rfl
theorem g262_52 : G d 262 52 ls st h Q ↔ GN d 262 52 ls h (pA 1 st fun as r => ck (r.length ≤ 4) (cll 206 as r)) Q := G_unf rfl rfl
theorem g262_55 : G d 262 55 ls st h Q ↔ GN d 262 55 ls h (pII st fun x y r => br (y < x) (nx 92 ls r h) (nx 58 ls r h)) Q := G_unf rfl rfl
theorem g262_58 : G d 262 58 ls st h Q ↔ GN d 262 58 ls h (ldI ls 5 fun x => nx 60 ls (.int x :: st) h) Q := G_unf rfl rfl
theorem g262_60 : G d 262 60 ls st h Q ↔ GN d 262 60 ls h (ldI ls 3 fun x => nx 61 ls (.int x :: st) h) Q := G_unf rfl rfl
theorem g262_61 : G d 262 61 ls st h Q ↔ GN d 262 61 ls h (pA 1 st fun as r => ck (r.length ≤ 4) (cll 206 as r)) Q := G_unf rfl rfl
theorem g262_64 : G d 262 64 ls st h Q ↔ GN d 262 64 ls h (pII st fun x y r => br (¬ x = y) (nx 76 ls r h) (nx 67 ls r h)) Q := G_unf rfl rfl
theorem g262_67 : G d 262 67 ls st h Q ↔ GN d 262 67 ls h (ldI ls 4 fun x => nx 69 ls (.int x :: st) h) Q := G_unf rfl rfl
theorem g262_69 : G d 262 69 ls st h Q ↔ GN d 262 69 ls h (ldI ls 3 fun x => nx 70 ls (.int x :: st) h) Q := G_unf rfl rfl
theorem g262_70 : G d 262 70 ls st h Q ↔ GN d 262 70 ls h (pA 2 st fun as r => ck (r.length ≤ 4) (cll 261 as r)) Q := G_unf rfl rfl
theorem g262_73 : G d 262 73 ls st h Q ↔ GN d 262 73 ls h (pI st fun x r => br (x = 0) (nx 92 ls r h) (nx 76 ls r h)) Q := G_unf rfl rfl
theorem g262_76 : G d 262 76 ls st h Q ↔ GN d 262 76 ls h (ldR ls 0 fun a => nx 77 ls (.ref a :: st) h) Q := G_unf rfl rfl
theorem g262_77 : G d 262 77 ls st h Q ↔ GN d 262 77 ls h (ldI ls 4 fun x => nx 79 ls (.int x :: st) h) Q := G_unf rfl rfl
theorem g262_79 : G d 262 79 ls st h Q ↔ GN d 262 79 ls h (ldI ls 1 fun x => nx 80 ls (.int x :: st) h) Q := G_unf rfl rfl
theorem g262_80 : G d 262 80 ls st h Q ↔ GN d 262 80 ls h (pA 2 st fun as r => pR r fun a r => ck (r.length ≤ 4 ∧ arr h a 9) (cll 260 (.ref a :: as) r)) Q := G_unf rfl rfl
theorem g262_83 : G d 262 83 ls st h Q ↔ GN d 262 83 ls h (pI st fun x r => br (¬ x = 0) (nx 89 ls r h) (nx 86 ls r h)) Q := G_unf rfl rfl
theorem g262_86 : G d 262 86 ls st h Q ↔ GN d 262 86 ls h (nx 92 ls st h) Q := G_unf rfl rfl
theorem g262_89 : G d 262 89 ls st h Q ↔ GN d 262 89 ls h (ldI ls 4 fun x => nx 91 ls (.int x :: st) h) Q := G_unf rfl rfl
theorem g262_91 : G d 262 91 ls st h Q ↔ GN d 262 91 ls h (pI st fun x r => ck (3 < ls.length) (nx 92 (st1 ls 3 (.int x)) r h)) Q := G_unf rfl rfl
theorem g262_92 : G d 262 92 ls st h Q ↔ GN d 262 92 ls h (ldI ls 4 fun x => nx 95 (st1 ls 4 (.int (x + (nI 1)))) st h) Q := G_unf rfl rfl
theorem g262_95 : G d 262 95 ls st h Q ↔ GN d 262 95 ls h (nx 15 ls st h) Q := G_unf rfl rfl
theorem g262_98 : G d 262 98 ls st h Q ↔ GN d 262 98 ls h (ldI ls 3 fun x => nx 99 ls (.int x :: st) h) Q := G_unf rfl rfl
theorem g262_99 : G d 262 99 ls st h Q ↔ GN d 262 99 ls h (nx 100 ls (.int (-1) :: st) h) Q := G_unf rfl rfl
theorem g262_100 : G d 262 100 ls st h Q ↔ GN d 262 100 ls h (pII st fun x y r => br (x = y) (nx 108 ls r h) (nx 103 ls r h)) Q := G_unf rfl rfl
theorem g262_103 : G d 262 103 ls st h Q ↔ GN d 262 103 ls h (ldI ls 2 fun x => nx 104 ls (.int x :: st) h) Q := G_unf rfl rfl
theorem g262_104 : G d 262 104 ls st h Q ↔ GN d 262 104 ls h (nx 105 ls (.int (-1) :: st) h) Q := G_unf rfl rfl
theorem g262_105 : G d 262 105 ls st h Q ↔ GN d 262 105 ls h (pII st fun x y r => br (¬ x = y) (nx 122 ls r h) (nx 108 ls r h)) Q := G_unf rfl rfl
theorem g262_108 : G d 262 108 ls st h Q ↔ GN d 262 108 ls h (ldI ls 3 fun x => nx 109 ls (.int x :: st) h) Q := G_unf rfl rfl
theorem g262_109 : G d 262 109 ls st h Q ↔ GN d 262 109 ls h (nx 110 ls (.int (-1) :: st) h) Q := G_unf rfl rfl
theorem g262_110 : G d 262 110 ls st h Q ↔ GN d 262 110 ls h (pII st fun x y r => br (¬ x = y) (nx 117 ls r h) (nx 113 ls r h)) Q := G_unf rfl rfl
theorem g262_113 : G d 262 113 ls st h Q ↔ GN d 262 113 ls h (nx 114 ls (.int (-1) :: st) h) Q := G_unf rfl rfl
theorem g262_114 : G d 262 114 ls st h Q ↔ GN d 262 114 ls h (nx 121 ls st h) Q := G_unf rfl rfl
theorem g262_117 : G d 262 117 ls st h Q ↔ GN d 262 117 ls h (ldI ls 3 fun x => nx 118 ls (.int x :: st) h) Q := G_unf rfl rfl
theorem g262_118 : G d 262 118 ls st h Q ↔ GN d 262 118 ls h (pA 1 st fun as r => ck (r.length ≤ 4) (cll 206 as r)) Q := G_unf rfl rfl
theorem g262_121 : G d 262 121 ls st h Q ↔ GN d 262 121 ls h (pIe st fun x => rtn (some (.int x))) Q := G_unf rfl rfl
theorem g262_122 : G d 262 122 ls st h Q ↔ GN d 262 122 ls h (ldI ls 2 fun x => nx 123 ls (.int x :: st) h) Q := G_unf rfl rfl
theorem g262_123 : G d 262 123 ls st h Q ↔ GN d 262 123 ls h (pI st fun x r => ck (4 < ls.length) (nx 125 (st1 ls 4 (.int x)) r h)) Q := G_unf rfl rfl
theorem g262_125 : G d 262 125 ls st h Q ↔ GN d 262 125 ls h (nx 126 ls (.int (nI 0) :: st) h) Q := G_unf rfl rfl
theorem g262_126 : G d 262 126 ls st h Q ↔ GN d 262 126 ls h (pI st fun x r => ck (5 < ls.length) (nx 128 (st1 ls 5 (.int x)) r h)) Q := G_unf rfl rfl
theorem g262_128 : G d 262 128 ls st h Q ↔ GN d 262 128 ls h (ldI ls 5 fun x => nx 130 ls (.int x :: st) h) Q := G_unf rfl rfl
theorem g262_130 : G d 262 130 ls st h Q ↔ GN d 262 130 ls h (ldR ls 0 fun a => nx 131 ls (.ref a :: st) h) Q := G_unf rfl rfl
theorem g262_131 : G d 262 131 ls st h Q ↔ GN d 262 131 ls h (pR st fun a r => ck (arr h a 9) (nx 134 ls (rv (hR h a 20) :: r) h)) Q := G_unf rfl rfl
theorem g262_134 : G d 262 134 ls st h Q ↔ GN d 262 134 ls h (ldR ls 0 fun a => nx 135 ls (.ref a :: st) h) Q := G_unf rfl rfl
theorem g262_135 : G d 262 135 ls st h Q ↔ GN d 262 135 ls h (pR st fun a r => ck (arr h a 9) (nx 138 ls (.int (hI h a 13) :: r) h)) Q := G_unf rfl rfl
theorem g262_138 : G d 262 138 ls st h Q ↔ GN d 262 138 ls h (pRI st fun a i r => br (a = 1000003) (ck (inb i (hS h).1) (nx 139 ls (.int ((hS h).2 i.toNatClampNeg) :: r) h)) (ck (arr h a 10 ∧ inb i (hLn h a)) (nx 139 ls (.int (hI h a i.toNatClampNeg) :: r) h))) Q := G_unf rfl rfl
theorem g262_139 : G d 262 139 ls st h Q ↔ GN d 262 139 ls h (pII st fun x y r => br (y ≤ x) (nx 171 ls r h) (nx 142 ls r h)) Q := G_unf rfl rfl
theorem g262_142 : G d 262 142 ls st h Q ↔ GN d 262 142 ls h (ldI ls 3 fun x => nx 143 ls (.int x :: st) h) Q := G_unf rfl rfl
theorem g262_143 : G d 262 143 ls st h Q ↔ GN d 262 143 ls h (ldI ls 5 fun x => nx 145 ls (.int x :: st) h) Q := G_unf rfl rfl
theorem g262_145 : G d 262 145 ls st h Q ↔ GN d 262 145 ls h (pA 2 st fun as r => ck (r.length ≤ 4) (cll 205 as r)) Q := G_unf rfl rfl
theorem g262_148 : G d 262 148 ls st h Q ↔ GN d 262 148 ls h (pI st fun x r => br (¬ x = 0) (nx 154 ls r h) (nx 151 ls r h)) Q := G_unf rfl rfl
theorem g262_151 : G d 262 151 ls st h Q ↔ GN d 262 151 ls h (nx 165 ls st h) Q := G_unf rfl rfl
theorem g262_154 : G d 262 154 ls st h Q ↔ GN d 262 154 ls h (ldI ls 4 fun x => nx 156 ls (.int x :: st) h) Q := G_unf rfl rfl
set_option maxRecDepth 100000 in
theorem g262_156 : G d 262 156 ls st h Q ↔ GN d 262 156 ls h (pI st fun x r => br (¬ x = 0) (nx 162 ls r h) (nx 159 ls r h)) Q := G_unf rfl rfl
set_option maxRecDepth 100000 in
theorem g262_159 : G d 262 159 ls st h Q ↔ GN d 262 159 ls h (ldI ls 5 fun x => nx 161 ls (.int x :: st) h) Q := G_unf rfl rfl
set_option maxRecDepth 100000 in
theorem g262_161 : G d 262 161 ls st h Q ↔ GN d 262 161 ls h (pIe st fun x => rtn (some (.int x))) Q := G_unf rfl rfl
set_option maxRecDepth 100000 in
theorem g262_162 : G d 262 162 ls st h Q ↔ GN d 262 162 ls h (ldI ls 4 fun x => nx 165 (st1 ls 4 (.int (x + (-1)))) st h) Q := G_unf rfl rfl
set_option maxRecDepth 100000 in
theorem g262_165 : G d 262 165 ls st h Q ↔ GN d 262 165 ls h (ldI ls 5 fun x => nx 168 (st1 ls 5 (.int (x + (nI 1)))) st h) Q := G_unf rfl rfl
set_option maxRecDepth 100000 in
theorem g262_168 : G d 262 168 ls st h Q ↔ GN d 262 168 ls h (nx 128 ls st h) Q := G_unf rfl rfl
set_option maxRecDepth 100000 in
theorem g262_171 : G d 262 171 ls st h Q ↔ GN d 262 171 ls h (nx 172 ls (.int (-1) :: st) h) Q := G_unf rfl rfl
set_option maxRecDepth 100000 in
theorem g262_172 : G d 262 172 ls st h Q ↔ GN d 262 172 ls h (pIe st fun x => rtn (some (.int x))) Q := G_unf rfl rfl
theorem g263_0 : G d 263 0 ls st h Q ↔ GN d 263 0 ls h (ldI ls 1 fun x => nx 1 ls (.int x :: st) h) Q := G_unf rfl rfl
theorem g263_1 : G d 263 1 ls st h Q ↔ GN d 263 1 ls h (pI st fun x r => br (x < 0) (nx 13 ls r h) (nx 4 ls r h)) Q := G_unf rfl rfl
theorem g263_4 : G d 263 4 ls st h Q ↔ GN d 263 4 ls h (ldI ls 2 fun x => nx 5 ls (.int x :: st) h) Q := G_unf rfl rfl
theorem g263_5 : G d 263 5 ls st h Q ↔ GN d 263 5 ls h (nx 6 ls (.int (nI 0) :: st) h) Q := G_unf rfl rfl
theorem g263_6 : G d 263 6 ls st h Q ↔ GN d 263 6 ls h (nx 7 ls (.int (nI 2) :: st) h) Q := G_unf rfl rfl
theorem g263_7 : G d 263 7 ls st h Q ↔ GN d 263 7 ls h (pA 3 st fun as r => ck (r.length ≤ 4) (cll 156 as r)) Q := G_unf rfl rfl
theorem g263_10 : G d 263 10 ls st h Q ↔ GN d 263 10 ls h (pI st fun x r => br (¬ x = 0) (nx 15 ls r h) (nx 13 ls r h)) Q := G_unf rfl rfl
theorem g263_13 : G d 263 13 ls st h Q ↔ GN d 263 13 ls h (nx 14 ls (.int (-1) :: st) h) Q := G_unf rfl rfl
theorem g263_14 : G d 263 14 ls st h Q ↔ GN d 263 14 ls h (pIe st fun x => rtn (some (.int x))) Q := G_unf rfl rfl
theorem g263_15 : G d 263 15 ls st h Q ↔ GN d 263 15 ls h (nx 16 ls (.int (nI 0) :: st) h) Q := G_unf rfl rfl
theorem g263_16 : G d 263 16 ls st h Q ↔ GN d 263 16 ls h (pI st fun x r => ck (3 < ls.length) (nx 17 (st1 ls 3 (.int x)) r h)) Q := G_unf rfl rfl
theorem g263_17 : G d 263 17 ls st h Q ↔ GN d 263 17 ls h (nx 18 ls (.int (nI 1) :: st) h) Q := G_unf rfl rfl
theorem g263_18 : G d 263 18 ls st h Q ↔ GN d 263 18 ls h (ldR ls 0 fun a => nx 19 ls (.ref a :: st) h) Q := G_unf rfl rfl
theorem g263_19 : G d 263 19 ls st h Q ↔ GN d 263 19 ls h (pR st fun a r => ck (arr h a 9) (nx 22 ls (rv (hR h a 14) :: r) h)) Q := G_unf rfl rfl
theorem g263_22 : G d 263 22 ls st h Q ↔ GN d 263 22 ls h (ldR ls 0 fun a => nx 23 ls (.ref a :: st) h) Q := G_unf rfl rfl
theorem g263_23 : G d 263 23 ls st h Q ↔ GN d 263 23 ls h (pR st fun a r => ck (arr h a 9) (nx 26 ls (.int (hI h a 13) :: r) h)) Q := G_unf rfl rfl
theorem g263_26 : G d 263 26 ls st h Q ↔ GN d 263 26 ls h (pRI st fun a i r => br (a = 1000003) (ck (inb i (hS h).1) (nx 27 ls (.int ((hS h).2 i.toNatClampNeg) :: r) h)) (ck (arr h a 10 ∧ inb i (hLn h a)) (nx 27 ls (.int (hI h a i.toNatClampNeg) :: r) h))) Q := G_unf rfl rfl
theorem g263_27 : G d 263 27 ls st h Q ↔ GN d 263 27 ls h (pII st fun x y r => nx 28 ls (.int (x <<< (y &&& 31)) :: r) h) Q := G_unf rfl rfl
theorem g263_28 : G d 263 28 ls st h Q ↔ GN d 263 28 ls h (nx 29 ls (.int (nI 1) :: st) h) Q := G_unf rfl rfl
theorem g263_29 : G d 263 29 ls st h Q ↔ GN d 263 29 ls h (pII st fun x y r => nx 30 ls (.int (x - y) :: r) h) Q := G_unf rfl rfl
theorem g263_30 : G d 263 30 ls st h Q ↔ GN d 263 30 ls h (pI st fun x r => ck (4 < ls.length) (nx 32 (st1 ls 4 (.int x)) r h)) Q := G_unf rfl rfl
theorem g263_32 : G d 263 32 ls st h Q ↔ GN d 263 32 ls h (nx 33 ls (.int (nI 0) :: st) h) Q := G_unf rfl rfl
theorem g263_33 : G d 263 33 ls st h Q ↔ GN d 263 33 ls h (pI st fun x r => ck (5 < ls.length) (nx 35 (st1 ls 5 (.int x)) r h)) Q := G_unf rfl rfl
theorem g263_35 : G d 263 35 ls st h Q ↔ GN d 263 35 ls h (ldR ls 0 fun a => nx 36 ls (.ref a :: st) h) Q := G_unf rfl rfl
theorem g263_36 : G d 263 36 ls st h Q ↔ GN d 263 36 ls h (ldR ls 0 fun a => nx 37 ls (.ref a :: st) h) Q := G_unf rfl rfl
theorem g263_37 : G d 263 37 ls st h Q ↔ GN d 263 37 ls h (pR st fun a r => ck (arr h a 9) (nx 40 ls (rv (hR h a 51) :: r) h)) Q := G_unf rfl rfl
theorem g263_40 : G d 263 40 ls st h Q ↔ GN d 263 40 ls h (nx 41 ls (.int (nI 0) :: st) h) Q := G_unf rfl rfl
theorem g263_41 : G d 263 41 ls st h Q ↔ GN d 263 41 ls h (pRI st fun a i r => br (a = 1000003) (ck (inb i (hS h).1) (nx 42 ls (.int ((hS h).2 i.toNatClampNeg) :: r) h)) (ck (arr h a 10 ∧ inb i (hLn h a)) (nx 42 ls (.int (hI h a i.toNatClampNeg) :: r) h))) Q := G_unf rfl rfl
theorem g263_42 : G d 263 42 ls st h Q ↔ GN d 263 42 ls h (pA 1 st fun as r => pR r fun a r => ck (r.length ≤ 4 ∧ arr h a 9) (cll 215 (.ref a :: as) r)) Q := G_unf rfl rfl
theorem g263_45 : G d 263 45 ls st h Q ↔ GN d 263 45 ls h (pI st fun x r => ck (6 < ls.length) (nx 47 (st1 ls 6 (.int x)) r h)) Q := G_unf rfl rfl
theorem g263_47 : G d 263 47 ls st h Q ↔ GN d 263 47 ls h (nx 48 ls (.int (nI 0) :: st) h) Q := G_unf rfl rfl
theorem g263_48 : G d 263 48 ls st h Q ↔ GN d 263 48 ls h (pI st fun x r => ck (7 < ls.length) (nx 50 (st1 ls 7 (.int x)) r h)) Q := G_unf rfl rfl
theorem g263_50 : G d 263 50 ls st h Q ↔ GN d 263 50 ls h (ldI ls 7 fun x => nx 52 ls (.int x :: st) h) Q := G_unf rfl rfl
theorem g263_52 : G d 263 52 ls st h Q ↔ GN d 263 52 ls h (nx 53 ls (.int (nI 1) :: st) h) Q := G_unf rfl rfl
theorem g263_53 : G d 263 53 ls st h Q ↔ GN d 263 53 ls h (ldR ls 0 fun a => nx 54 ls (.ref a :: st) h) Q := G_unf rfl rfl
theorem g263_54 : G d 263 54 ls st h Q ↔ GN d 263 54 ls h (pR st fun a r => ck (arr h a 9) (nx 57 ls (rv (hR h a 14) :: r) h)) Q := G_unf rfl rfl
theorem g263_57 : G d 263 57 ls st h Q ↔ GN d 263 57 ls h (ldR ls 0 fun a => nx 58 ls (.ref a :: st) h) Q := G_unf rfl rfl
theorem g263_58 : G d 263 58 ls st h Q ↔ GN d 263 58 ls h (pR st fun a r => ck (arr h a 9) (nx 61 ls (.int (hI h a 13) :: r) h)) Q := G_unf rfl rfl
theorem g263_61 : G d 263 61 ls st h Q ↔ GN d 263 61 ls h (pRI st fun a i r => br (a = 1000003) (ck (inb i (hS h).1) (nx 62 ls (.int ((hS h).2 i.toNatClampNeg) :: r) h)) (ck (arr h a 10 ∧ inb i (hLn h a)) (nx 62 ls (.int (hI h a i.toNatClampNeg) :: r) h))) Q := G_unf rfl rfl
theorem g263_62 : G d 263 62 ls st h Q ↔ GN d 263 62 ls h (pII st fun x y r => nx 63 ls (.int (x <<< (y &&& 31)) :: r) h) Q := G_unf rfl rfl
theorem g263_63 : G d 263 63 ls st h Q ↔ GN d 263 63 ls h (pII st fun x y r => br (y ≤ x) (nx 118 ls r h) (nx 66 ls r h)) Q := G_unf rfl rfl
theorem g263_66 : G d 263 66 ls st h Q ↔ GN d 263 66 ls h (ldR ls 0 fun a => nx 67 ls (.ref a :: st) h) Q := G_unf rfl rfl
theorem g263_67 : G d 263 67 ls st h Q ↔ GN d 263 67 ls h (ldI ls 6 fun x => nx 69 ls (.int x :: st) h) Q := G_unf rfl rfl
theorem g263_69 : G d 263 69 ls st h Q ↔ GN d 263 69 ls h (ldI ls 7 fun x => nx 71 ls (.int x :: st) h) Q := G_unf rfl rfl
theorem g263_71 : G d 263 71 ls st h Q ↔ GN d 263 71 ls h (nx 72 ls (.int (-1) :: st) h) Q := G_unf rfl rfl
theorem g263_72 : G d 263 72 ls st h Q ↔ GN d 263 72 ls h (pII st fun x y r => nx 73 ls (.int (x ^^^ y) :: r) h) Q := G_unf rfl rfl
theorem g263_73 : G d 263 73 ls st h Q ↔ GN d 263 73 ls h (pII st fun x y r => nx 74 ls (.int (x &&& y) :: r) h) Q := G_unf rfl rfl
theorem g263_74 : G d 263 74 ls st h Q ↔ GN d 263 74 ls h (pA 1 st fun as r => pR r fun a r => ck (r.length ≤ 4 ∧ arr h a 9) (cll 216 (.ref a :: as) r)) Q := G_unf rfl rfl
theorem g263_77 : G d 263 77 ls st h Q ↔ GN d 263 77 ls h (ldI ls 1 fun x => nx 78 ls (.int x :: st) h) Q := G_unf rfl rfl
theorem g263_78 : G d 263 78 ls st h Q ↔ GN d 263 78 ls h (pII st fun x y r => br (¬ x = y) (nx 112 ls r h) (nx 81 ls r h)) Q := G_unf rfl rfl
theorem g263_81 : G d 263 81 ls st h Q ↔ GN d 263 81 ls h (ldR ls 0 fun a => nx 82 ls (.ref a :: st) h) Q := G_unf rfl rfl
theorem g263_82 : G d 263 82 ls st h Q ↔ GN d 263 82 ls h (ldI ls 7 fun x => nx 84 ls (.int x :: st) h) Q := G_unf rfl rfl
theorem g263_84 : G d 263 84 ls st h Q ↔ GN d 263 84 ls h (pA 1 st fun as r => pR r fun a r => ck (r.length ≤ 4 ∧ arr h a 9) (cll 255 (.ref a :: as) r)) Q := G_unf rfl rfl
theorem g263_87 : G d 263 87 ls st h Q ↔ GN d 263 87 ls h (ldI ls 7 fun x => nx 89 ls (.int x :: st) h) Q := G_unf rfl rfl
theorem g263_89 : G d 263 89 ls st h Q ↔ GN d 263 89 ls h (pII st fun x y r => br (x = y) (nx 95 ls r h) (nx 92 ls r h)) Q := G_unf rfl rfl
theorem g263_92 : G d 263 92 ls st h Q ↔ GN d 263 92 ls h (nx 112 ls st h) Q := G_unf rfl rfl
theorem g263_95 : G d 263 95 ls st h Q ↔ GN d 263 95 ls h (ldI ls 3 fun x => nx 98 (st1 ls 3 (.int (x + (nI 1)))) st h) Q := G_unf rfl rfl
theorem g263_98 : G d 263 98 ls st h Q ↔ GN d 263 98 ls h (ldI ls 4 fun x => nx 100 ls (.int x :: st) h) Q := G_unf rfl rfl
theorem g263_100 : G d 263 100 ls st h Q ↔ GN d 263 100 ls h (ldI ls 7 fun x => nx 102 ls (.int x :: st) h) Q := G_unf rfl rfl
theorem g263_102 : G d 263 102 ls st h Q ↔ GN d 263 102 ls h (pII st fun x y r => nx 103 ls (.int (x &&& y) :: r) h) Q := G_unf rfl rfl
theorem g263_103 : G d 263 103 ls st h Q ↔ GN d 263 103 ls h (pI st fun x r => ck (4 < ls.length) (nx 105 (st1 ls 4 (.int x)) r h)) Q := G_unf rfl rfl
theorem g263_105 : G d 263 105 ls st h Q ↔ GN d 263 105 ls h (ldI ls 5 fun x => nx 107 ls (.int x :: st) h) Q := G_unf rfl rfl
theorem g263_107 : G d 263 107 ls st h Q ↔ GN d 263 107 ls h (ldI ls 7 fun x => nx 109 ls (.int x :: st) h) Q := G_unf rfl rfl
theorem g263_109 : G d 263 109 ls st h Q ↔ GN d 263 109 ls h (pII st fun x y r => nx 110 ls (.int (x ||| y) :: r) h) Q := G_unf rfl rfl
theorem g263_110 : G d 263 110 ls st h Q ↔ GN d 263 110 ls h (pI st fun x r => ck (5 < ls.length) (nx 112 (st1 ls 5 (.int x)) r h)) Q := G_unf rfl rfl
theorem g263_112 : G d 263 112 ls st h Q ↔ GN d 263 112 ls h (ldI ls 7 fun x => nx 115 (st1 ls 7 (.int (x + (nI 1)))) st h) Q := G_unf rfl rfl
theorem g263_115 : G d 263 115 ls st h Q ↔ GN d 263 115 ls h (nx 50 ls st h) Q := G_unf rfl rfl
theorem g263_118 : G d 263 118 ls st h Q ↔ GN d 263 118 ls h (ldI ls 2 fun x => nx 119 ls (.int x :: st) h) Q := G_unf rfl rfl
theorem g263_119 : G d 263 119 ls st h Q ↔ GN d 263 119 ls h (pI st fun x r => br (¬ x = 0) (nx 126 ls r h) (nx 122 ls r h)) Q := G_unf rfl rfl
theorem g263_122 : G d 263 122 ls st h Q ↔ GN d 263 122 ls h (ldI ls 3 fun x => nx 123 ls (.int x :: st) h) Q := G_unf rfl rfl
theorem g263_123 : G d 263 123 ls st h Q ↔ GN d 263 123 ls h (nx 146 ls st h) Q := G_unf rfl rfl
theorem g263_126 : G d 263 126 ls st h Q ↔ GN d 263 126 ls h (ldI ls 2 fun x => nx 127 ls (.int x :: st) h) Q := G_unf rfl rfl
theorem g263_127 : G d 263 127 ls st h Q ↔ GN d 263 127 ls h (nx 128 ls (.int (nI 1) :: st) h) Q := G_unf rfl rfl
theorem g263_128 : G d 263 128 ls st h Q ↔ GN d 263 128 ls h (pII st fun x y r => br (¬ x = y) (nx 144 ls r h) (nx 131 ls r h)) Q := G_unf rfl rfl
theorem g263_131 : G d 263 131 ls st h Q ↔ GN d 263 131 ls h (ldI ls 3 fun x => nx 132 ls (.int x :: st) h) Q := G_unf rfl rfl
theorem g263_132 : G d 263 132 ls st h Q ↔ GN d 263 132 ls h (pI st fun x r => br (¬ x = 0) (nx 139 ls r h) (nx 135 ls r h)) Q := G_unf rfl rfl
theorem g263_135 : G d 263 135 ls st h Q ↔ GN d 263 135 ls h (nx 136 ls (.int (nI 0) :: st) h) Q := G_unf rfl rfl
theorem g263_136 : G d 263 136 ls st h Q ↔ GN d 263 136 ls h (nx 146 ls st h) Q := G_unf rfl rfl
theorem g263_139 : G d 263 139 ls st h Q ↔ GN d 263 139 ls h (ldI ls 4 fun x => nx 141 ls (.int x :: st) h) Q := G_unf rfl rfl
theorem g263_141 : G d 263 141 ls st h Q ↔ GN d 263 141 ls h (nx 146 ls st h) Q := G_unf rfl rfl
theorem g263_144 : G d 263 144 ls st h Q ↔ GN d 263 144 ls h (ldI ls 5 fun x => nx 146 ls (.int x :: st) h) Q := G_unf rfl rfl
set_option maxRecDepth 100000 in
theorem g263_146 : G d 263 146 ls st h Q ↔ GN d 263 146 ls h (pIe st fun x => rtn (some (.int x))) Q := G_unf rfl rfl
theorem g264_0 : G d 264 0 ls st h Q ↔ GN d 264 0 ls h (nx 1 ls (.int (-1) :: st) h) Q := G_unf rfl rfl
theorem g264_1 : G d 264 1 ls st h Q ↔ GN d 264 1 ls h (pI st fun x r => ck (2 < ls.length) (nx 2 (st1 ls 2 (.int x)) r h)) Q := G_unf rfl rfl
theorem g264_2 : G d 264 2 ls st h Q ↔ GN d 264 2 ls h (nx 3 ls (.int (nI 0) :: st) h) Q := G_unf rfl rfl
theorem g264_3 : G d 264 3 ls st h Q ↔ GN d 264 3 ls h (pI st fun x r => ck (3 < ls.length) (nx 4 (st1 ls 3 (.int x)) r h)) Q := G_unf rfl rfl
theorem g264_4 : G d 264 4 ls st h Q ↔ GN d 264 4 ls h (ldR ls 0 fun a => nx 5 ls (.ref a :: st) h) Q := G_unf rfl rfl
theorem g264_5 : G d 264 5 ls st h Q ↔ GN d 264 5 ls h (nx 6 ls (.int (nI 1) :: st) h) Q := G_unf rfl rfl
theorem g264_6 : G d 264 6 ls st h Q ↔ GN d 264 6 ls h (pA 1 st fun as r => pR r fun a r => ck (r.length ≤ 4 ∧ arr h a 9) (cll 214 (.ref a :: as) r)) Q := G_unf rfl rfl
theorem g264_9 : G d 264 9 ls st h Q ↔ GN d 264 9 ls h (pI st fun x r => br (x = 0) (nx 27 ls r h) (nx 12 ls r h)) Q := G_unf rfl rfl
theorem g264_12 : G d 264 12 ls st h Q ↔ GN d 264 12 ls h (ldR ls 0 fun a => nx 13 ls (.ref a :: st) h) Q := G_unf rfl rfl
theorem g264_13 : G d 264 13 ls st h Q ↔ GN d 264 13 ls h (pR st fun a r => ck (arr h a 9) (nx 16 ls (rv (hR h a 51) :: r) h)) Q := G_unf rfl rfl
theorem g264_16 : G d 264 16 ls st h Q ↔ GN d 264 16 ls h (nx 17 ls (.int (nI 1) :: st) h) Q := G_unf rfl rfl
theorem g264_17 : G d 264 17 ls st h Q ↔ GN d 264 17 ls h (pRI st fun a i r => br (a = 1000003) (ck (inb i (hS h).1) (nx 18 ls (.int ((hS h).2 i.toNatClampNeg) :: r) h)) (ck (arr h a 10 ∧ inb i (hLn h a)) (nx 18 ls (.int (hI h a i.toNatClampNeg) :: r) h))) Q := G_unf rfl rfl
theorem g264_18 : G d 264 18 ls st h Q ↔ GN d 264 18 ls h (nx 20 ls (.int (nI 6) :: st) h) Q := G_unf rfl rfl
theorem g264_20 : G d 264 20 ls st h Q ↔ GN d 264 20 ls h (pII st fun x y r => nx 21 ls (.int (x + y) :: r) h) Q := G_unf rfl rfl
theorem g264_21 : G d 264 21 ls st h Q ↔ GN d 264 21 ls h (nx 24 ls (.int (nI 999) :: st) h) Q := G_unf rfl rfl
theorem g264_24 : G d 264 24 ls st h Q ↔ GN d 264 24 ls h (pII st fun x y r => br (x ≤ y) (nx 29 ls r h) (nx 27 ls r h)) Q := G_unf rfl rfl
theorem g264_27 : G d 264 27 ls st h Q ↔ GN d 264 27 ls h (nx 28 ls (.int (-1) :: st) h) Q := G_unf rfl rfl
theorem g264_28 : G d 264 28 ls st h Q ↔ GN d 264 28 ls h (pIe st fun x => rtn (some (.int x))) Q := G_unf rfl rfl
theorem g264_29 : G d 264 29 ls st h Q ↔ GN d 264 29 ls h (ldR ls 0 fun a => nx 30 ls (.ref a :: st) h) Q := G_unf rfl rfl
theorem g264_30 : G d 264 30 ls st h Q ↔ GN d 264 30 ls h (ldR ls 0 fun a => nx 31 ls (.ref a :: st) h) Q := G_unf rfl rfl
theorem g264_31 : G d 264 31 ls st h Q ↔ GN d 264 31 ls h (pR st fun a r => ck (arr h a 9) (nx 34 ls (rv (hR h a 51) :: r) h)) Q := G_unf rfl rfl
theorem g264_34 : G d 264 34 ls st h Q ↔ GN d 264 34 ls h (nx 35 ls (.int (nI 1) :: st) h) Q := G_unf rfl rfl
theorem g264_35 : G d 264 35 ls st h Q ↔ GN d 264 35 ls h (pRI st fun a i r => br (a = 1000003) (ck (inb i (hS h).1) (nx 36 ls (.int ((hS h).2 i.toNatClampNeg) :: r) h)) (ck (arr h a 10 ∧ inb i (hLn h a)) (nx 36 ls (.int (hI h a i.toNatClampNeg) :: r) h))) Q := G_unf rfl rfl
theorem g264_36 : G d 264 36 ls st h Q ↔ GN d 264 36 ls h (pA 1 st fun as r => pR r fun a r => ck (r.length ≤ 4 ∧ arr h a 9) (cll 215 (.ref a :: as) r)) Q := G_unf rfl rfl
theorem g264_39 : G d 264 39 ls st h Q ↔ GN d 264 39 ls h (ldR ls 0 fun a => nx 40 ls (.ref a :: st) h) Q := G_unf rfl rfl
theorem g264_40 : G d 264 40 ls st h Q ↔ GN d 264 40 ls h (pR st fun a r => ck (arr h a 9) (nx 43 ls (rv (hR h a 52) :: r) h)) Q := G_unf rfl rfl
theorem g264_43 : G d 264 43 ls st h Q ↔ GN d 264 43 ls h (nx 45 ls (.int (nI 8) :: st) h) Q := G_unf rfl rfl
theorem g264_45 : G d 264 45 ls st h Q ↔ GN d 264 45 ls h (ldI ls 1 fun x => nx 46 ls (.int x :: st) h) Q := G_unf rfl rfl
theorem g264_46 : G d 264 46 ls st h Q ↔ GN d 264 46 ls h (pII st fun x y r => nx 47 ls (.int (x + y) :: r) h) Q := G_unf rfl rfl
theorem g264_47 : G d 264 47 ls st h Q ↔ GN d 264 47 ls h (pRI st fun a i r => br (a = 1000003) (ck (inb i (hS h).1) (nx 48 ls (.int ((hS h).2 i.toNatClampNeg) :: r) h)) (ck (arr h a 10 ∧ inb i (hLn h a)) (nx 48 ls (.int (hI h a i.toNatClampNeg) :: r) h))) Q := G_unf rfl rfl
theorem g264_48 : G d 264 48 ls st h Q ↔ GN d 264 48 ls h (nx 49 ls (.int (-1) :: st) h) Q := G_unf rfl rfl
theorem g264_49 : G d 264 49 ls st h Q ↔ GN d 264 49 ls h (pII st fun x y r => nx 50 ls (.int (x ^^^ y) :: r) h) Q := G_unf rfl rfl
theorem g264_50 : G d 264 50 ls st h Q ↔ GN d 264 50 ls h (pII st fun x y r => nx 51 ls (.int (x &&& y) :: r) h) Q := G_unf rfl rfl
theorem g264_51 : G d 264 51 ls st h Q ↔ GN d 264 51 ls h (ldR ls 0 fun a => nx 52 ls (.ref a :: st) h) Q := G_unf rfl rfl
theorem g264_52 : G d 264 52 ls st h Q ↔ GN d 264 52 ls h (nx 53 ls (.int (nI 1) :: st) h) Q := G_unf rfl rfl
theorem g264_53 : G d 264 53 ls st h Q ↔ GN d 264 53 ls h (ldI ls 1 fun x => nx 54 ls (.int x :: st) h) Q := G_unf rfl rfl
theorem g264_54 : G d 264 54 ls st h Q ↔ GN d 264 54 ls h (pA 2 st fun as r => pR r fun a r => ck (r.length ≤ 4 ∧ arr h a 9) (cll 213 (.ref a :: as) r)) Q := G_unf rfl rfl
theorem g264_57 : G d 264 57 ls st h Q ↔ GN d 264 57 ls h (nx 58 ls (.int (-1) :: st) h) Q := G_unf rfl rfl
theorem g264_58 : G d 264 58 ls st h Q ↔ GN d 264 58 ls h (pII st fun x y r => nx 59 ls (.int (x ^^^ y) :: r) h) Q := G_unf rfl rfl
theorem g264_59 : G d 264 59 ls st h Q ↔ GN d 264 59 ls h (pII st fun x y r => nx 60 ls (.int (x &&& y) :: r) h) Q := G_unf rfl rfl
theorem g264_60 : G d 264 60 ls st h Q ↔ GN d 264 60 ls h (pI st fun x r => ck (4 < ls.length) (nx 62 (st1 ls 4 (.int x)) r h)) Q := G_unf rfl rfl
theorem g264_62 : G d 264 62 ls st h Q ↔ GN d 264 62 ls h (nx 63 ls (.int (nI 0) :: st) h) Q := G_unf rfl rfl
theorem g264_63 : G d 264 63 ls st h Q ↔ GN d 264 63 ls h (pI st fun x r => ck (5 < ls.length) (nx 65 (st1 ls 5 (.int x)) r h)) Q := G_unf rfl rfl
theorem g264_65 : G d 264 65 ls st h Q ↔ GN d 264 65 ls h (ldI ls 5 fun x => nx 67 ls (.int x :: st) h) Q := G_unf rfl rfl
theorem g264_67 : G d 264 67 ls st h Q ↔ GN d 264 67 ls h (ldR ls 0 fun a => nx 68 ls (.ref a :: st) h) Q := G_unf rfl rfl
theorem g264_68 : G d 264 68 ls st h Q ↔ GN d 264 68 ls h (pR st fun a r => ck (arr h a 9) (nx 71 ls (rv (hR h a 14) :: r) h)) Q := G_unf rfl rfl
theorem g264_71 : G d 264 71 ls st h Q ↔ GN d 264 71 ls h (ldR ls 0 fun a => nx 72 ls (.ref a :: st) h) Q := G_unf rfl rfl
theorem g264_72 : G d 264 72 ls st h Q ↔ GN d 264 72 ls h (pR st fun a r => ck (arr h a 9) (nx 75 ls (.int (hI h a 13) :: r) h)) Q := G_unf rfl rfl
theorem g264_75 : G d 264 75 ls st h Q ↔ GN d 264 75 ls h (pRI st fun a i r => br (a = 1000003) (ck (inb i (hS h).1) (nx 76 ls (.int ((hS h).2 i.toNatClampNeg) :: r) h)) (ck (arr h a 10 ∧ inb i (hLn h a)) (nx 76 ls (.int (hI h a i.toNatClampNeg) :: r) h))) Q := G_unf rfl rfl
theorem g264_76 : G d 264 76 ls st h Q ↔ GN d 264 76 ls h (pII st fun x y r => br (y ≤ x) (nx 159 ls r h) (nx 79 ls r h)) Q := G_unf rfl rfl
theorem g264_79 : G d 264 79 ls st h Q ↔ GN d 264 79 ls h (ldI ls 4 fun x => nx 81 ls (.int x :: st) h) Q := G_unf rfl rfl
theorem g264_81 : G d 264 81 ls st h Q ↔ GN d 264 81 ls h (ldI ls 5 fun x => nx 83 ls (.int x :: st) h) Q := G_unf rfl rfl
theorem g264_83 : G d 264 83 ls st h Q ↔ GN d 264 83 ls h (pA 2 st fun as r => ck (r.length ≤ 4) (cll 205 as r)) Q := G_unf rfl rfl
theorem g264_86 : G d 264 86 ls st h Q ↔ GN d 264 86 ls h (pI st fun x r => br (¬ x = 0) (nx 92 ls r h) (nx 89 ls r h)) Q := G_unf rfl rfl
theorem g264_89 : G d 264 89 ls st h Q ↔ GN d 264 89 ls h (nx 153 ls st h) Q := G_unf rfl rfl
theorem g264_92 : G d 264 92 ls st h Q ↔ GN d 264 92 ls h (ldR ls 0 fun a => nx 93 ls (.ref a :: st) h) Q := G_unf rfl rfl
theorem g264_93 : G d 264 93 ls st h Q ↔ GN d 264 93 ls h (nx 94 ls (.int (nI 1) :: st) h) Q := G_unf rfl rfl
theorem g264_94 : G d 264 94 ls st h Q ↔ GN d 264 94 ls h (ldI ls 1 fun x => nx 95 ls (.int x :: st) h) Q := G_unf rfl rfl
theorem g264_95 : G d 264 95 ls st h Q ↔ GN d 264 95 ls h (ldI ls 5 fun x => nx 97 ls (.int x :: st) h) Q := G_unf rfl rfl
theorem g264_97 : G d 264 97 ls st h Q ↔ GN d 264 97 ls h (nx 99 ls (.int (nI 7) :: st) h) Q := G_unf rfl rfl
theorem g264_99 : G d 264 99 ls st h Q ↔ GN d 264 99 ls h (pA 4 st fun as r => pR r fun a r => ck (r.length ≤ 4 ∧ arr h a 9) (cll 223 (.ref a :: as) r)) Q := G_unf rfl rfl
theorem g264_102 : G d 264 102 ls st h Q ↔ GN d 264 102 ls h (pI st fun x r => ck (6 < ls.length) (nx 104 (st1 ls 6 (.int x)) r h)) Q := G_unf rfl rfl
theorem g264_104 : G d 264 104 ls st h Q ↔ GN d 264 104 ls h (ldR ls 0 fun a => nx 105 ls (.ref a :: st) h) Q := G_unf rfl rfl
theorem g264_105 : G d 264 105 ls st h Q ↔ GN d 264 105 ls h (pR st fun a r => ck (arr h a 9) (nx 108 ls (rv (hR h a 16) :: r) h)) Q := G_unf rfl rfl
theorem g264_108 : G d 264 108 ls st h Q ↔ GN d 264 108 ls h (nx 110 ls (.int (nI 12) :: st) h) Q := G_unf rfl rfl
theorem g264_110 : G d 264 110 ls st h Q ↔ GN d 264 110 ls h (ldR ls 0 fun a => nx 111 ls (.ref a :: st) h) Q := G_unf rfl rfl
theorem g264_111 : G d 264 111 ls st h Q ↔ GN d 264 111 ls h (pR st fun a r => ck (arr h a 9) (nx 114 ls (.int (hI h a 13) :: r) h)) Q := G_unf rfl rfl
theorem g264_114 : G d 264 114 ls st h Q ↔ GN d 264 114 ls h (pII st fun x y r => nx 115 ls (.int (x * y) :: r) h) Q := G_unf rfl rfl
theorem g264_115 : G d 264 115 ls st h Q ↔ GN d 264 115 ls h (ldI ls 5 fun x => nx 117 ls (.int x :: st) h) Q := G_unf rfl rfl
theorem g264_117 : G d 264 117 ls st h Q ↔ GN d 264 117 ls h (pII st fun x y r => nx 118 ls (.int (x + y) :: r) h) Q := G_unf rfl rfl
theorem g264_118 : G d 264 118 ls st h Q ↔ GN d 264 118 ls h (pRI st fun a i r => br (a = 1000003) (ck (inb i (hS h).1) (nx 119 ls (.int ((hS h).2 i.toNatClampNeg) :: r) h)) (ck (arr h a 10 ∧ inb i (hLn h a)) (nx 119 ls (.int (hI h a i.toNatClampNeg) :: r) h))) Q := G_unf rfl rfl
theorem g264_119 : G d 264 119 ls st h Q ↔ GN d 264 119 ls h (ldI ls 6 fun x => nx 121 ls (.int x :: st) h) Q := G_unf rfl rfl
theorem g264_121 : G d 264 121 ls st h Q ↔ GN d 264 121 ls h (pII st fun x y r => nx 122 ls (.int (x - y) :: r) h) Q := G_unf rfl rfl
theorem g264_122 : G d 264 122 ls st h Q ↔ GN d 264 122 ls h (pI st fun x r => ck (7 < ls.length) (nx 124 (st1 ls 7 (.int x)) r h)) Q := G_unf rfl rfl
theorem g264_124 : G d 264 124 ls st h Q ↔ GN d 264 124 ls h (ldI ls 7 fun x => nx 126 ls (.int x :: st) h) Q := G_unf rfl rfl
theorem g264_126 : G d 264 126 ls st h Q ↔ GN d 264 126 ls h (ldI ls 3 fun x => nx 127 ls (.int x :: st) h) Q := G_unf rfl rfl
theorem g264_127 : G d 264 127 ls st h Q ↔ GN d 264 127 ls h (pII st fun x y r => br (x ≤ y) (nx 153 ls r h) (nx 130 ls r h)) Q := G_unf rfl rfl
theorem g264_130 : G d 264 130 ls st h Q ↔ GN d 264 130 ls h (ldI ls 6 fun x => nx 132 ls (.int x :: st) h) Q := G_unf rfl rfl
theorem g264_132 : G d 264 132 ls st h Q ↔ GN d 264 132 ls h (ldR ls 0 fun a => nx 133 ls (.ref a :: st) h) Q := G_unf rfl rfl
theorem g264_133 : G d 264 133 ls st h Q ↔ GN d 264 133 ls h (pR st fun a r => ck (arr h a 9) (nx 136 ls (rv (hR h a 53) :: r) h)) Q := G_unf rfl rfl
theorem g264_136 : G d 264 136 ls st h Q ↔ GN d 264 136 ls h (nx 138 ls (.int (nI 8) :: st) h) Q := G_unf rfl rfl
set_option maxRecDepth 100000 in
theorem g264_138 : G d 264 138 ls st h Q ↔ GN d 264 138 ls h (ldI ls 1 fun x => nx 139 ls (.int x :: st) h) Q := G_unf rfl rfl
set_option maxRecDepth 100000 in
theorem g264_139 : G d 264 139 ls st h Q ↔ GN d 264 139 ls h (pII st fun x y r => nx 140 ls (.int (x + y) :: r) h) Q := G_unf rfl rfl
set_option maxRecDepth 100000 in
theorem g264_140 : G d 264 140 ls st h Q ↔ GN d 264 140 ls h (pRI st fun a i r => br (a = 1000003) (ck (inb i (hS h).1) (nx 141 ls (.int ((hS h).2 i.toNatClampNeg) :: r) h)) (ck (arr h a 10 ∧ inb i (hLn h a)) (nx 141 ls (.int (hI h a i.toNatClampNeg) :: r) h))) Q := G_unf rfl rfl
set_option maxRecDepth 100000 in
theorem g264_141 : G d 264 141 ls st h Q ↔ GN d 264 141 ls h (pII st fun x y r => br (x ≤ y) (nx 147 ls r h) (nx 144 ls r h)) Q := G_unf rfl rfl
set_option maxRecDepth 100000 in
theorem g264_144 : G d 264 144 ls st h Q ↔ GN d 264 144 ls h (nx 153 ls st h) Q := G_unf rfl rfl
set_option maxRecDepth 100000 in
theorem g264_147 : G d 264 147 ls st h Q ↔ GN d 264 147 ls h (ldI ls 7 fun x => nx 149 ls (.int x :: st) h) Q := G_unf rfl rfl
set_option maxRecDepth 100000 in
theorem g264_149 : G d 264 149 ls st h Q ↔ GN d 264 149 ls h (pI st fun x r => ck (3 < ls.length) (nx 150 (st1 ls 3 (.int x)) r h)) Q := G_unf rfl rfl
set_option maxRecDepth 100000 in
theorem g264_150 : G d 264 150 ls st h Q ↔ GN d 264 150 ls h (ldI ls 5 fun x => nx 152 ls (.int x :: st) h) Q := G_unf rfl rfl
set_option maxRecDepth 100000 in
theorem g264_152 : G d 264 152 ls st h Q ↔ GN d 264 152 ls h (pI st fun x r => ck (2 < ls.length) (nx 153 (st1 ls 2 (.int x)) r h)) Q := G_unf rfl rfl
set_option maxRecDepth 100000 in
theorem g264_153 : G d 264 153 ls st h Q ↔ GN d 264 153 ls h (ldI ls 5 fun x => nx 156 (st1 ls 5 (.int (x + (nI 1)))) st h) Q := G_unf rfl rfl
set_option maxRecDepth 100000 in
theorem g264_156 : G d 264 156 ls st h Q ↔ GN d 264 156 ls h (nx 65 ls st h) Q := G_unf rfl rfl
set_option maxRecDepth 100000 in
theorem g264_159 : G d 264 159 ls st h Q ↔ GN d 264 159 ls h (ldI ls 2 fun x => nx 160 ls (.int x :: st) h) Q := G_unf rfl rfl
set_option maxRecDepth 100000 in
theorem g264_160 : G d 264 160 ls st h Q ↔ GN d 264 160 ls h (pIe st fun x => rtn (some (.int x))) Q := G_unf rfl rfl
theorem g265_0 : G d 265 0 ls st h Q ↔ GN d 265 0 ls h (ldI ls 1 fun x => nx 1 ls (.int x :: st) h) Q := G_unf rfl rfl
theorem g265_1 : G d 265 1 ls st h Q ↔ GN d 265 1 ls h (nx 2 ls (.int (nI 0) :: st) h) Q := G_unf rfl rfl
theorem g265_2 : G d 265 2 ls st h Q ↔ GN d 265 2 ls h (nx 3 ls (.int (nI 3) :: st) h) Q := G_unf rfl rfl
theorem g265_3 : G d 265 3 ls st h Q ↔ GN d 265 3 ls h (pA 3 st fun as r => ck (r.length ≤ 4) (cll 156 as r)) Q := G_unf rfl rfl
theorem g265_6 : G d 265 6 ls st h Q ↔ GN d 265 6 ls h (pI st fun x r => br (¬ x = 0) (nx 11 ls r h) (nx 9 ls r h)) Q := G_unf rfl rfl
theorem g265_9 : G d 265 9 ls st h Q ↔ GN d 265 9 ls h (nx 10 ls (.int (-1) :: st) h) Q := G_unf rfl rfl
theorem g265_10 : G d 265 10 ls st h Q ↔ GN d 265 10 ls h (pIe st fun x => rtn (some (.int x))) Q := G_unf rfl rfl
theorem g265_11 : G d 265 11 ls st h Q ↔ GN d 265 11 ls h (ldR ls 0 fun a => nx 12 ls (.ref a :: st) h) Q := G_unf rfl rfl
theorem g265_12 : G d 265 12 ls st h Q ↔ GN d 265 12 ls h (nx 13 ls (.int (nI 1) :: st) h) Q := G_unf rfl rfl
theorem g265_13 : G d 265 13 ls st h Q ↔ GN d 265 13 ls h (nx 14 ls (.int (nI 0) :: st) h) Q := G_unf rfl rfl
theorem g265_14 : G d 265 14 ls st h Q ↔ GN d 265 14 ls h (pA 2 st fun as r => pR r fun a r => ck (r.length ≤ 4 ∧ arr h a 9) (cll 207 (.ref a :: as) r)) Q := G_unf rfl rfl
theorem g265_17 : G d 265 17 ls st h Q ↔ GN d 265 17 ls h (nx 18 ls (.int (nI 0) :: st) h) Q := G_unf rfl rfl
theorem g265_18 : G d 265 18 ls st h Q ↔ GN d 265 18 ls h (pI st fun x r => ck (2 < ls.length) (nx 19 (st1 ls 2 (.int x)) r h)) Q := G_unf rfl rfl
theorem g265_19 : G d 265 19 ls st h Q ↔ GN d 265 19 ls h (nx 20 ls (.int (nI 0) :: st) h) Q := G_unf rfl rfl
theorem g265_20 : G d 265 20 ls st h Q ↔ GN d 265 20 ls h (pI st fun x r => ck (3 < ls.length) (nx 21 (st1 ls 3 (.int x)) r h)) Q := G_unf rfl rfl
theorem g265_21 : G d 265 21 ls st h Q ↔ GN d 265 21 ls h (nx 22 ls (.int (nI 0) :: st) h) Q := G_unf rfl rfl
theorem g265_22 : G d 265 22 ls st h Q ↔ GN d 265 22 ls h (pI st fun x r => ck (4 < ls.length) (nx 24 (st1 ls 4 (.int x)) r h)) Q := G_unf rfl rfl
theorem g265_24 : G d 265 24 ls st h Q ↔ GN d 265 24 ls h (nx 25 ls (.int (nI 1) :: st) h) Q := G_unf rfl rfl
theorem g265_25 : G d 265 25 ls st h Q ↔ GN d 265 25 ls h (pI st fun x r => ck (5 < ls.length) (nx 27 (st1 ls 5 (.int x)) r h)) Q := G_unf rfl rfl
theorem g265_27 : G d 265 27 ls st h Q ↔ GN d 265 27 ls h (ldI ls 5 fun x => nx 29 ls (.int x :: st) h) Q := G_unf rfl rfl
theorem g265_29 : G d 265 29 ls st h Q ↔ GN d 265 29 ls h (pI st fun x r => br (x = 0) (nx 147 ls r h) (nx 32 ls r h)) Q := G_unf rfl rfl
theorem g265_32 : G d 265 32 ls st h Q ↔ GN d 265 32 ls h (nx 33 ls (.int (nI 0) :: st) h) Q := G_unf rfl rfl
theorem g265_33 : G d 265 33 ls st h Q ↔ GN d 265 33 ls h (pI st fun x r => ck (5 < ls.length) (nx 35 (st1 ls 5 (.int x)) r h)) Q := G_unf rfl rfl
theorem g265_35 : G d 265 35 ls st h Q ↔ GN d 265 35 ls h (ldI ls 2 fun x => nx 38 (st1 ls 2 (.int (x + (nI 1)))) st h) Q := G_unf rfl rfl
theorem g265_38 : G d 265 38 ls st h Q ↔ GN d 265 38 ls h (nx 39 ls (.int (nI 0) :: st) h) Q := G_unf rfl rfl
theorem g265_39 : G d 265 39 ls st h Q ↔ GN d 265 39 ls h (pI st fun x r => ck (6 < ls.length) (nx 41 (st1 ls 6 (.int x)) r h)) Q := G_unf rfl rfl
theorem g265_41 : G d 265 41 ls st h Q ↔ GN d 265 41 ls h (ldI ls 6 fun x => nx 43 ls (.int x :: st) h) Q := G_unf rfl rfl
theorem g265_43 : G d 265 43 ls st h Q ↔ GN d 265 43 ls h (ldR ls 0 fun a => nx 44 ls (.ref a :: st) h) Q := G_unf rfl rfl
theorem g265_44 : G d 265 44 ls st h Q ↔ GN d 265 44 ls h (pR st fun a r => ck (arr h a 9) (nx 47 ls (rv (hR h a 20) :: r) h)) Q := G_unf rfl rfl
theorem g265_47 : G d 265 47 ls st h Q ↔ GN d 265 47 ls h (ldR ls 0 fun a => nx 48 ls (.ref a :: st) h) Q := G_unf rfl rfl
theorem g265_48 : G d 265 48 ls st h Q ↔ GN d 265 48 ls h (pR st fun a r => ck (arr h a 9) (nx 51 ls (.int (hI h a 13) :: r) h)) Q := G_unf rfl rfl
theorem g265_51 : G d 265 51 ls st h Q ↔ GN d 265 51 ls h (pRI st fun a i r => br (a = 1000003) (ck (inb i (hS h).1) (nx 52 ls (.int ((hS h).2 i.toNatClampNeg) :: r) h)) (ck (arr h a 10 ∧ inb i (hLn h a)) (nx 52 ls (.int (hI h a i.toNatClampNeg) :: r) h))) Q := G_unf rfl rfl
theorem g265_52 : G d 265 52 ls st h Q ↔ GN d 265 52 ls h (pII st fun x y r => br (y ≤ x) (nx 144 ls r h) (nx 55 ls r h)) Q := G_unf rfl rfl
theorem g265_55 : G d 265 55 ls st h Q ↔ GN d 265 55 ls h (ldR ls 0 fun a => nx 56 ls (.ref a :: st) h) Q := G_unf rfl rfl
theorem g265_56 : G d 265 56 ls st h Q ↔ GN d 265 56 ls h (ldI ls 6 fun x => nx 58 ls (.int x :: st) h) Q := G_unf rfl rfl
theorem g265_58 : G d 265 58 ls st h Q ↔ GN d 265 58 ls h (pA 1 st fun as r => pR r fun a r => ck (r.length ≤ 4 ∧ arr h a 9) (cll 264 (.ref a :: as) r)) Q := G_unf rfl rfl
theorem g265_61 : G d 265 61 ls st h Q ↔ GN d 265 61 ls h (pI st fun x r => ck (7 < ls.length) (nx 63 (st1 ls 7 (.int x)) r h)) Q := G_unf rfl rfl
theorem g265_63 : G d 265 63 ls st h Q ↔ GN d 265 63 ls h (ldI ls 7 fun x => nx 65 ls (.int x :: st) h) Q := G_unf rfl rfl
theorem g265_65 : G d 265 65 ls st h Q ↔ GN d 265 65 ls h (nx 66 ls (.int (-1) :: st) h) Q := G_unf rfl rfl
theorem g265_66 : G d 265 66 ls st h Q ↔ GN d 265 66 ls h (pII st fun x y r => br (¬ x = y) (nx 72 ls r h) (nx 69 ls r h)) Q := G_unf rfl rfl
theorem g265_69 : G d 265 69 ls st h Q ↔ GN d 265 69 ls h (nx 138 ls st h) Q := G_unf rfl rfl
theorem g265_72 : G d 265 72 ls st h Q ↔ GN d 265 72 ls h (ldR ls 0 fun a => nx 73 ls (.ref a :: st) h) Q := G_unf rfl rfl
theorem g265_73 : G d 265 73 ls st h Q ↔ GN d 265 73 ls h (nx 74 ls (.int (nI 1) :: st) h) Q := G_unf rfl rfl
theorem g265_74 : G d 265 74 ls st h Q ↔ GN d 265 74 ls h (ldI ls 6 fun x => nx 76 ls (.int x :: st) h) Q := G_unf rfl rfl
theorem g265_76 : G d 265 76 ls st h Q ↔ GN d 265 76 ls h (ldI ls 7 fun x => nx 78 ls (.int x :: st) h) Q := G_unf rfl rfl
theorem g265_78 : G d 265 78 ls st h Q ↔ GN d 265 78 ls h (nx 80 ls (.int (nI 7) :: st) h) Q := G_unf rfl rfl
theorem g265_80 : G d 265 80 ls st h Q ↔ GN d 265 80 ls h (pA 4 st fun as r => pR r fun a r => ck (r.length ≤ 4 ∧ arr h a 9) (cll 223 (.ref a :: as) r)) Q := G_unf rfl rfl
theorem g265_83 : G d 265 83 ls st h Q ↔ GN d 265 83 ls h (pI st fun x r => ck (8 < ls.length) (nx 85 (st1 ls 8 (.int x)) r h)) Q := G_unf rfl rfl
theorem g265_85 : G d 265 85 ls st h Q ↔ GN d 265 85 ls h (ldR ls 0 fun a => nx 86 ls (.ref a :: st) h) Q := G_unf rfl rfl
theorem g265_86 : G d 265 86 ls st h Q ↔ GN d 265 86 ls h (pR st fun a r => ck (arr h a 9) (nx 89 ls (rv (hR h a 53) :: r) h)) Q := G_unf rfl rfl
theorem g265_89 : G d 265 89 ls st h Q ↔ GN d 265 89 ls h (nx 91 ls (.int (nI 8) :: st) h) Q := G_unf rfl rfl
theorem g265_91 : G d 265 91 ls st h Q ↔ GN d 265 91 ls h (ldI ls 6 fun x => nx 93 ls (.int x :: st) h) Q := G_unf rfl rfl
theorem g265_93 : G d 265 93 ls st h Q ↔ GN d 265 93 ls h (pII st fun x y r => nx 94 ls (.int (x + y) :: r) h) Q := G_unf rfl rfl
theorem g265_94 : G d 265 94 ls st h Q ↔ GN d 265 94 ls h (p11 st fun v w r => nx 95 ls (v :: w :: v :: w :: r) h) Q := G_unf rfl rfl
theorem g265_95 : G d 265 95 ls st h Q ↔ GN d 265 95 ls h (pRI st fun a i r => br (a = 1000003) (ck (inb i (hS h).1) (nx 96 ls (.int ((hS h).2 i.toNatClampNeg) :: r) h)) (ck (arr h a 10 ∧ inb i (hLn h a)) (nx 96 ls (.int (hI h a i.toNatClampNeg) :: r) h))) Q := G_unf rfl rfl
theorem g265_96 : G d 265 96 ls st h Q ↔ GN d 265 96 ls h (ldI ls 8 fun x => nx 98 ls (.int x :: st) h) Q := G_unf rfl rfl
theorem g265_98 : G d 265 98 ls st h Q ↔ GN d 265 98 ls h (pII st fun x y r => nx 99 ls (.int (x - y) :: r) h) Q := G_unf rfl rfl
theorem g265_99 : G d 265 99 ls st h Q ↔ GN d 265 99 ls h (pRII st fun a i x r => ck (arr h a 10 ∧ inb i (hLn h a)) (nx 100 ls r (sI h a i.toNatClampNeg x))) Q := G_unf rfl rfl
theorem g265_100 : G d 265 100 ls st h Q ↔ GN d 265 100 ls h (ldR ls 0 fun a => nx 101 ls (.ref a :: st) h) Q := G_unf rfl rfl
theorem g265_101 : G d 265 101 ls st h Q ↔ GN d 265 101 ls h (pR st fun a r => ck (arr h a 9) (nx 104 ls (rv (hR h a 54) :: r) h)) Q := G_unf rfl rfl
theorem g265_104 : G d 265 104 ls st h Q ↔ GN d 265 104 ls h (nx 106 ls (.int (nI 96) :: st) h) Q := G_unf rfl rfl
theorem g265_106 : G d 265 106 ls st h Q ↔ GN d 265 106 ls h (nx 108 ls (.int (nI 12) :: st) h) Q := G_unf rfl rfl
theorem g265_108 : G d 265 108 ls st h Q ↔ GN d 265 108 ls h (ldI ls 6 fun x => nx 110 ls (.int x :: st) h) Q := G_unf rfl rfl
theorem g265_110 : G d 265 110 ls st h Q ↔ GN d 265 110 ls h (pII st fun x y r => nx 111 ls (.int (x * y) :: r) h) Q := G_unf rfl rfl
theorem g265_111 : G d 265 111 ls st h Q ↔ GN d 265 111 ls h (pII st fun x y r => nx 112 ls (.int (x + y) :: r) h) Q := G_unf rfl rfl
theorem g265_112 : G d 265 112 ls st h Q ↔ GN d 265 112 ls h (ldI ls 7 fun x => nx 114 ls (.int x :: st) h) Q := G_unf rfl rfl
theorem g265_114 : G d 265 114 ls st h Q ↔ GN d 265 114 ls h (pII st fun x y r => nx 115 ls (.int (x + y) :: r) h) Q := G_unf rfl rfl
theorem g265_115 : G d 265 115 ls st h Q ↔ GN d 265 115 ls h (ldR ls 0 fun a => nx 116 ls (.ref a :: st) h) Q := G_unf rfl rfl
theorem g265_116 : G d 265 116 ls st h Q ↔ GN d 265 116 ls h (pR st fun a r => ck (arr h a 9) (nx 119 ls (rv (hR h a 51) :: r) h)) Q := G_unf rfl rfl
theorem g265_119 : G d 265 119 ls st h Q ↔ GN d 265 119 ls h (nx 120 ls (.int (nI 1) :: st) h) Q := G_unf rfl rfl
theorem g265_120 : G d 265 120 ls st h Q ↔ GN d 265 120 ls h (pRI st fun a i r => br (a = 1000003) (ck (inb i (hS h).1) (nx 121 ls (.int ((hS h).2 i.toNatClampNeg) :: r) h)) (ck (arr h a 10 ∧ inb i (hLn h a)) (nx 121 ls (.int (hI h a i.toNatClampNeg) :: r) h))) Q := G_unf rfl rfl
theorem g265_121 : G d 265 121 ls st h Q ↔ GN d 265 121 ls h (nx 123 ls (.int (nI 6) :: st) h) Q := G_unf rfl rfl
theorem g265_123 : G d 265 123 ls st h Q ↔ GN d 265 123 ls h (pII st fun x y r => nx 124 ls (.int (x + y) :: r) h) Q := G_unf rfl rfl
theorem g265_124 : G d 265 124 ls st h Q ↔ GN d 265 124 ls h (pRII st fun a i x r => ck (arr h a 10 ∧ inb i (hLn h a)) (nx 125 ls r (sI h a i.toNatClampNeg x))) Q := G_unf rfl rfl
theorem g265_125 : G d 265 125 ls st h Q ↔ GN d 265 125 ls h (ldI ls 3 fun x => nx 128 (st1 ls 3 (.int (x + (nI 1)))) st h) Q := G_unf rfl rfl
theorem g265_128 : G d 265 128 ls st h Q ↔ GN d 265 128 ls h (ldI ls 4 fun x => nx 130 ls (.int x :: st) h) Q := G_unf rfl rfl
theorem g265_130 : G d 265 130 ls st h Q ↔ GN d 265 130 ls h (ldI ls 8 fun x => nx 132 ls (.int x :: st) h) Q := G_unf rfl rfl
theorem g265_132 : G d 265 132 ls st h Q ↔ GN d 265 132 ls h (pII st fun x y r => nx 133 ls (.int (x + y) :: r) h) Q := G_unf rfl rfl
theorem g265_133 : G d 265 133 ls st h Q ↔ GN d 265 133 ls h (pI st fun x r => ck (4 < ls.length) (nx 135 (st1 ls 4 (.int x)) r h)) Q := G_unf rfl rfl
theorem g265_135 : G d 265 135 ls st h Q ↔ GN d 265 135 ls h (nx 136 ls (.int (nI 1) :: st) h) Q := G_unf rfl rfl
theorem g265_136 : G d 265 136 ls st h Q ↔ GN d 265 136 ls h (pI st fun x r => ck (5 < ls.length) (nx 138 (st1 ls 5 (.int x)) r h)) Q := G_unf rfl rfl
set_option maxRecDepth 100000 in
theorem g265_138 : G d 265 138 ls st h Q ↔ GN d 265 138 ls h (ldI ls 6 fun x => nx 141 (st1 ls 6 (.int (x + (nI 1)))) st h) Q := G_unf rfl rfl
set_option maxRecDepth 100000 in
theorem g265_141 : G d 265 141 ls st h Q ↔ GN d 265 141 ls h (nx 41 ls st h) Q := G_unf rfl rfl
set_option maxRecDepth 100000 in
theorem g265_144 : G d 265 144 ls st h Q ↔ GN d 265 144 ls h (nx 27 ls st h) Q := G_unf rfl rfl
set_option maxRecDepth 100000 in
theorem g265_147 : G d 265 147 ls st h Q ↔ GN d 265 147 ls h (ldI ls 1 fun x => nx 148 ls (.int x :: st) h) Q := G_unf rfl rfl
set_option maxRecDepth 100000 in
theorem g265_148 : G d 265 148 ls st h Q ↔ GN d 265 148 ls h (pI st fun x r => br (¬ x = 0) (nx 155 ls r h) (nx 151 ls r h)) Q := G_unf rfl rfl
set_option maxRecDepth 100000 in
theorem g265_151 : G d 265 151 ls st h Q ↔ GN d 265 151 ls h (ldI ls 2 fun x => nx 152 ls (.int x :: st) h) Q := G_unf rfl rfl
set_option maxRecDepth 100000 in
theorem g265_152 : G d 265 152 ls st h Q ↔ GN d 265 152 ls h (nx 179 ls st h) Q := G_unf rfl rfl
set_option maxRecDepth 100000 in
theorem g265_155 : G d 265 155 ls st h Q ↔ GN d 265 155 ls h (ldI ls 1 fun x => nx 156 ls (.int x :: st) h) Q := G_unf rfl rfl
set_option maxRecDepth 100000 in
theorem g265_156 : G d 265 156 ls st h Q ↔ GN d 265 156 ls h (nx 157 ls (.int (nI 1) :: st) h) Q := G_unf rfl rfl
set_option maxRecDepth 100000 in
theorem g265_157 : G d 265 157 ls st h Q ↔ GN d 265 157 ls h (pII st fun x y r => br (¬ x = y) (nx 164 ls r h) (nx 160 ls r h)) Q := G_unf rfl rfl
set_option maxRecDepth 100000 in
theorem g265_160 : G d 265 160 ls st h Q ↔ GN d 265 160 ls h (ldI ls 3 fun x => nx 161 ls (.int x :: st) h) Q := G_unf rfl rfl
set_option maxRecDepth 100000 in
theorem g265_161 : G d 265 161 ls st h Q ↔ GN d 265 161 ls h (nx 179 ls st h) Q := G_unf rfl rfl
set_option maxRecDepth 100000 in
theorem g265_164 : G d 265 164 ls st h Q ↔ GN d 265 164 ls h (ldI ls 1 fun x => nx 165 ls (.int x :: st) h) Q := G_unf rfl rfl
set_option maxRecDepth 100000 in
theorem g265_165 : G d 265 165 ls st h Q ↔ GN d 265 165 ls h (nx 166 ls (.int (nI 2) :: st) h) Q := G_unf rfl rfl
set_option maxRecDepth 100000 in
theorem g265_166 : G d 265 166 ls st h Q ↔ GN d 265 166 ls h (pII st fun x y r => br (¬ x = y) (nx 174 ls r h) (nx 169 ls r h)) Q := G_unf rfl rfl
set_option maxRecDepth 100000 in
theorem g265_169 : G d 265 169 ls st h Q ↔ GN d 265 169 ls h (ldI ls 4 fun x => nx 171 ls (.int x :: st) h) Q := G_unf rfl rfl
set_option maxRecDepth 100000 in
theorem g265_171 : G d 265 171 ls st h Q ↔ GN d 265 171 ls h (nx 179 ls st h) Q := G_unf rfl rfl
set_option maxRecDepth 100000 in
theorem g265_174 : G d 265 174 ls st h Q ↔ GN d 265 174 ls h (ldR ls 0 fun a => nx 175 ls (.ref a :: st) h) Q := G_unf rfl rfl
set_option maxRecDepth 100000 in
theorem g265_175 : G d 265 175 ls st h Q ↔ GN d 265 175 ls h (nx 176 ls (.int (nI 1) :: st) h) Q := G_unf rfl rfl
set_option maxRecDepth 100000 in
theorem g265_176 : G d 265 176 ls st h Q ↔ GN d 265 176 ls h (pA 1 st fun as r => pR r fun a r => ck (r.length ≤ 4 ∧ arr h a 9) (cll 214 (.ref a :: as) r)) Q := G_unf rfl rfl
set_option maxRecDepth 100000 in
theorem g265_179 : G d 265 179 ls st h Q ↔ GN d 265 179 ls h (pIe st fun x => rtn (some (.int x))) Q := G_unf rfl rfl
theorem g266_0 : G d 266 0 ls st h Q ↔ GN d 266 0 ls h (ldR ls 0 fun a => nx 1 ls (.ref a :: st) h) Q := G_unf rfl rfl
theorem g266_1 : G d 266 1 ls st h Q ↔ GN d 266 1 ls h (pR st fun a r => ck (arr h a 9) (nx 4 ls (rv (hR h a 77) :: r) h)) Q := G_unf rfl rfl
theorem g266_4 : G d 266 4 ls st h Q ↔ GN d 266 4 ls h (ldR ls 0 fun a => nx 5 ls (.ref a :: st) h) Q := G_unf rfl rfl
theorem g266_5 : G d 266 5 ls st h Q ↔ GN d 266 5 ls h (pR st fun a r => ck (arr h a 9) (nx 8 ls (.int (hI h a 78) :: r) h)) Q := G_unf rfl rfl
theorem g266_8 : G d 266 8 ls st h Q ↔ GN d 266 8 ls h (ldI ls 1 fun x => nx 9 ls (.int x :: st) h) Q := G_unf rfl rfl
theorem g266_9 : G d 266 9 ls st h Q ↔ GN d 266 9 ls h (nx 12 ls (.int (nI 255) :: st) h) Q := G_unf rfl rfl
theorem g266_12 : G d 266 12 ls st h Q ↔ GN d 266 12 ls h (pII st fun x y r => nx 13 ls (.int (x &&& y) :: r) h) Q := G_unf rfl rfl
theorem g266_13 : G d 266 13 ls st h Q ↔ GN d 266 13 ls h (pRII st fun a i x r => ck (arr h a 10 ∧ inb i (hLn h a)) (nx 14 ls r (sI h a i.toNatClampNeg x))) Q := G_unf rfl rfl
theorem g266_14 : G d 266 14 ls st h Q ↔ GN d 266 14 ls h (ldR ls 0 fun a => nx 15 ls (.ref a :: st) h) Q := G_unf rfl rfl
theorem g266_15 : G d 266 15 ls st h Q ↔ GN d 266 15 ls h (p1 st fun v r => nx 16 ls (v :: v :: r) h) Q := G_unf rfl rfl
theorem g266_16 : G d 266 16 ls st h Q ↔ GN d 266 16 ls h (pR st fun a r => ck (arr h a 9) (nx 19 ls (.int (hI h a 78) :: r) h)) Q := G_unf rfl rfl
theorem g266_19 : G d 266 19 ls st h Q ↔ GN d 266 19 ls h (nx 20 ls (.int (nI 1) :: st) h) Q := G_unf rfl rfl
theorem g266_20 : G d 266 20 ls st h Q ↔ GN d 266 20 ls h (pII st fun x y r => nx 21 ls (.int (x + y) :: r) h) Q := G_unf rfl rfl
theorem g266_21 : G d 266 21 ls st h Q ↔ GN d 266 21 ls h (pRI st fun a x r => ck (arr h a 9) (nx 24 ls r (sI h a 78 x))) Q := G_unf rfl rfl
theorem g266_24 : G d 266 24 ls st h Q ↔ GN d 266 24 ls h (pE st (rtn none)) Q := G_unf rfl rfl
theorem g267_0 : G d 267 0 ls st h Q ↔ GN d 267 0 ls h (ldR ls 0 fun a => nx 1 ls (.ref a :: st) h) Q := G_unf rfl rfl
theorem g267_1 : G d 267 1 ls st h Q ↔ GN d 267 1 ls h (ldI ls 1 fun x => nx 2 ls (.int x :: st) h) Q := G_unf rfl rfl
theorem g267_2 : G d 267 2 ls st h Q ↔ GN d 267 2 ls h (nx 4 ls (.int (nI 8) :: st) h) Q := G_unf rfl rfl
theorem g267_4 : G d 267 4 ls st h Q ↔ GN d 267 4 ls h (pII st fun x y r => nx 5 ls (.int (x >>> (y &&& 31)) :: r) h) Q := G_unf rfl rfl
theorem g267_5 : G d 267 5 ls st h Q ↔ GN d 267 5 ls h (pA 1 st fun as r => pR r fun a r => ck (r.length ≤ 4 ∧ arr h a 9) (cll 266 (.ref a :: as) r)) Q := G_unf rfl rfl
theorem g267_8 : G d 267 8 ls st h Q ↔ GN d 267 8 ls h (ldR ls 0 fun a => nx 9 ls (.ref a :: st) h) Q := G_unf rfl rfl
theorem g267_9 : G d 267 9 ls st h Q ↔ GN d 267 9 ls h (ldI ls 1 fun x => nx 10 ls (.int x :: st) h) Q := G_unf rfl rfl
theorem g267_10 : G d 267 10 ls st h Q ↔ GN d 267 10 ls h (pA 1 st fun as r => pR r fun a r => ck (r.length ≤ 4 ∧ arr h a 9) (cll 266 (.ref a :: as) r)) Q := G_unf rfl rfl
theorem g267_13 : G d 267 13 ls st h Q ↔ GN d 267 13 ls h (pE st (rtn none)) Q := G_unf rfl rfl
theorem g268_0 : G d 268 0 ls st h Q ↔ GN d 268 0 ls h (ldR ls 0 fun a => nx 1 ls (.ref a :: st) h) Q := G_unf rfl rfl
theorem g268_1 : G d 268 1 ls st h Q ↔ GN d 268 1 ls h (nx 2 ls (.int (nI 0) :: st) h) Q := G_unf rfl rfl
theorem g268_2 : G d 268 2 ls st h Q ↔ GN d 268 2 ls h (pRI st fun a x r => ck (arr h a 9) (nx 5 ls r (sI h a 78 x))) Q := G_unf rfl rfl
theorem g268_5 : G d 268 5 ls st h Q ↔ GN d 268 5 ls h (ldR ls 0 fun a => nx 6 ls (.ref a :: st) h) Q := G_unf rfl rfl
theorem g268_6 : G d 268 6 ls st h Q ↔ GN d 268 6 ls h (ldR ls 0 fun a => nx 7 ls (.ref a :: st) h) Q := G_unf rfl rfl
theorem g268_7 : G d 268 7 ls st h Q ↔ GN d 268 7 ls h (pR st fun a r => ck (arr h a 9) (nx 10 ls (rv (hR h a 51) :: r) h)) Q := G_unf rfl rfl
theorem g268_10 : G d 268 10 ls st h Q ↔ GN d 268 10 ls h (nx 11 ls (.int (nI 0) :: st) h) Q := G_unf rfl rfl
theorem g268_11 : G d 268 11 ls st h Q ↔ GN d 268 11 ls h (pRI st fun a i r => br (a = 1000003) (ck (inb i (hS h).1) (nx 12 ls (.int ((hS h).2 i.toNatClampNeg) :: r) h)) (ck (arr h a 10 ∧ inb i (hLn h a)) (nx 12 ls (.int (hI h a i.toNatClampNeg) :: r) h))) Q := G_unf rfl rfl
theorem g268_12 : G d 268 12 ls st h Q ↔ GN d 268 12 ls h (pA 1 st fun as r => pR r fun a r => ck (r.length ≤ 4 ∧ arr h a 9) (cll 267 (.ref a :: as) r)) Q := G_unf rfl rfl
theorem g268_15 : G d 268 15 ls st h Q ↔ GN d 268 15 ls h (nx 16 ls (.int (nI 0) :: st) h) Q := G_unf rfl rfl
theorem g268_16 : G d 268 16 ls st h Q ↔ GN d 268 16 ls h (pI st fun x r => ck (1 < ls.length) (nx 17 (st1 ls 1 (.int x)) r h)) Q := G_unf rfl rfl
theorem g268_17 : G d 268 17 ls st h Q ↔ GN d 268 17 ls h (ldI ls 1 fun x => nx 18 ls (.int x :: st) h) Q := G_unf rfl rfl
theorem g268_18 : G d 268 18 ls st h Q ↔ GN d 268 18 ls h (ldR ls 0 fun a => nx 19 ls (.ref a :: st) h) Q := G_unf rfl rfl
theorem g268_19 : G d 268 19 ls st h Q ↔ GN d 268 19 ls h (pR st fun a r => ck (arr h a 9) (nx 22 ls (rv (hR h a 20) :: r) h)) Q := G_unf rfl rfl
theorem g268_22 : G d 268 22 ls st h Q ↔ GN d 268 22 ls h (ldR ls 0 fun a => nx 23 ls (.ref a :: st) h) Q := G_unf rfl rfl
theorem g268_23 : G d 268 23 ls st h Q ↔ GN d 268 23 ls h (pR st fun a r => ck (arr h a 9) (nx 26 ls (.int (hI h a 13) :: r) h)) Q := G_unf rfl rfl
theorem g268_26 : G d 268 26 ls st h Q ↔ GN d 268 26 ls h (pRI st fun a i r => br (a = 1000003) (ck (inb i (hS h).1) (nx 27 ls (.int ((hS h).2 i.toNatClampNeg) :: r) h)) (ck (arr h a 10 ∧ inb i (hLn h a)) (nx 27 ls (.int (hI h a i.toNatClampNeg) :: r) h))) Q := G_unf rfl rfl
theorem g268_27 : G d 268 27 ls st h Q ↔ GN d 268 27 ls h (pII st fun x y r => br (y ≤ x) (nx 108 ls r h) (nx 30 ls r h)) Q := G_unf rfl rfl
theorem g268_30 : G d 268 30 ls st h Q ↔ GN d 268 30 ls h (ldR ls 0 fun a => nx 31 ls (.ref a :: st) h) Q := G_unf rfl rfl
theorem g268_31 : G d 268 31 ls st h Q ↔ GN d 268 31 ls h (ldR ls 0 fun a => nx 32 ls (.ref a :: st) h) Q := G_unf rfl rfl
theorem g268_32 : G d 268 32 ls st h Q ↔ GN d 268 32 ls h (pR st fun a r => ck (arr h a 9) (nx 35 ls (rv (hR h a 52) :: r) h)) Q := G_unf rfl rfl
theorem g268_35 : G d 268 35 ls st h Q ↔ GN d 268 35 ls h (ldI ls 1 fun x => nx 36 ls (.int x :: st) h) Q := G_unf rfl rfl
theorem g268_36 : G d 268 36 ls st h Q ↔ GN d 268 36 ls h (pRI st fun a i r => br (a = 1000003) (ck (inb i (hS h).1) (nx 37 ls (.int ((hS h).2 i.toNatClampNeg) :: r) h)) (ck (arr h a 10 ∧ inb i (hLn h a)) (nx 37 ls (.int (hI h a i.toNatClampNeg) :: r) h))) Q := G_unf rfl rfl
theorem g268_37 : G d 268 37 ls st h Q ↔ GN d 268 37 ls h (pA 1 st fun as r => pR r fun a r => ck (r.length ≤ 4 ∧ arr h a 9) (cll 267 (.ref a :: as) r)) Q := G_unf rfl rfl
theorem g268_40 : G d 268 40 ls st h Q ↔ GN d 268 40 ls h (ldR ls 0 fun a => nx 41 ls (.ref a :: st) h) Q := G_unf rfl rfl
theorem g268_41 : G d 268 41 ls st h Q ↔ GN d 268 41 ls h (ldR ls 0 fun a => nx 42 ls (.ref a :: st) h) Q := G_unf rfl rfl
theorem g268_42 : G d 268 42 ls st h Q ↔ GN d 268 42 ls h (pR st fun a r => ck (arr h a 9) (nx 45 ls (rv (hR h a 53) :: r) h)) Q := G_unf rfl rfl
theorem g268_45 : G d 268 45 ls st h Q ↔ GN d 268 45 ls h (ldI ls 1 fun x => nx 46 ls (.int x :: st) h) Q := G_unf rfl rfl
theorem g268_46 : G d 268 46 ls st h Q ↔ GN d 268 46 ls h (pRI st fun a i r => br (a = 1000003) (ck (inb i (hS h).1) (nx 47 ls (.int ((hS h).2 i.toNatClampNeg) :: r) h)) (ck (arr h a 10 ∧ inb i (hLn h a)) (nx 47 ls (.int (hI h a i.toNatClampNeg) :: r) h))) Q := G_unf rfl rfl
theorem g268_47 : G d 268 47 ls st h Q ↔ GN d 268 47 ls h (pA 1 st fun as r => pR r fun a r => ck (r.length ≤ 4 ∧ arr h a 9) (cll 267 (.ref a :: as) r)) Q := G_unf rfl rfl
theorem g268_50 : G d 268 50 ls st h Q ↔ GN d 268 50 ls h (nx 51 ls (.int (nI 0) :: st) h) Q := G_unf rfl rfl
theorem g268_51 : G d 268 51 ls st h Q ↔ GN d 268 51 ls h (pI st fun x r => ck (2 < ls.length) (nx 52 (st1 ls 2 (.int x)) r h)) Q := G_unf rfl rfl
theorem g268_52 : G d 268 52 ls st h Q ↔ GN d 268 52 ls h (ldI ls 2 fun x => nx 53 ls (.int x :: st) h) Q := G_unf rfl rfl
theorem g268_53 : G d 268 53 ls st h Q ↔ GN d 268 53 ls h (ldR ls 0 fun a => nx 54 ls (.ref a :: st) h) Q := G_unf rfl rfl
theorem g268_54 : G d 268 54 ls st h Q ↔ GN d 268 54 ls h (pR st fun a r => ck (arr h a 9) (nx 57 ls (rv (hR h a 14) :: r) h)) Q := G_unf rfl rfl
theorem g268_57 : G d 268 57 ls st h Q ↔ GN d 268 57 ls h (ldR ls 0 fun a => nx 58 ls (.ref a :: st) h) Q := G_unf rfl rfl
theorem g268_58 : G d 268 58 ls st h Q ↔ GN d 268 58 ls h (pR st fun a r => ck (arr h a 9) (nx 61 ls (.int (hI h a 13) :: r) h)) Q := G_unf rfl rfl
theorem g268_61 : G d 268 61 ls st h Q ↔ GN d 268 61 ls h (pRI st fun a i r => br (a = 1000003) (ck (inb i (hS h).1) (nx 62 ls (.int ((hS h).2 i.toNatClampNeg) :: r) h)) (ck (arr h a 10 ∧ inb i (hLn h a)) (nx 62 ls (.int (hI h a i.toNatClampNeg) :: r) h))) Q := G_unf rfl rfl
theorem g268_62 : G d 268 62 ls st h Q ↔ GN d 268 62 ls h (pII st fun x y r => br (y ≤ x) (nx 102 ls r h) (nx 65 ls r h)) Q := G_unf rfl rfl
theorem g268_65 : G d 268 65 ls st h Q ↔ GN d 268 65 ls h (ldR ls 0 fun a => nx 66 ls (.ref a :: st) h) Q := G_unf rfl rfl
theorem g268_66 : G d 268 66 ls st h Q ↔ GN d 268 66 ls h (ldR ls 0 fun a => nx 67 ls (.ref a :: st) h) Q := G_unf rfl rfl
theorem g268_67 : G d 268 67 ls st h Q ↔ GN d 268 67 ls h (nx 68 ls (.int (nI 0) :: st) h) Q := G_unf rfl rfl
theorem g268_68 : G d 268 68 ls st h Q ↔ GN d 268 68 ls h (ldI ls 1 fun x => nx 69 ls (.int x :: st) h) Q := G_unf rfl rfl
theorem g268_69 : G d 268 69 ls st h Q ↔ GN d 268 69 ls h (ldI ls 2 fun x => nx 70 ls (.int x :: st) h) Q := G_unf rfl rfl
theorem g268_70 : G d 268 70 ls st h Q ↔ GN d 268 70 ls h (pA 3 st fun as r => pR r fun a r => ck (r.length ≤ 4 ∧ arr h a 9) (cll 212 (.ref a :: as) r)) Q := G_unf rfl rfl
theorem g268_73 : G d 268 73 ls st h Q ↔ GN d 268 73 ls h (pI st fun x r => br (x = 0) (nx 92 ls r h) (nx 76 ls r h)) Q := G_unf rfl rfl
theorem g268_76 : G d 268 76 ls st h Q ↔ GN d 268 76 ls h (ldR ls 0 fun a => nx 77 ls (.ref a :: st) h) Q := G_unf rfl rfl
theorem g268_77 : G d 268 77 ls st h Q ↔ GN d 268 77 ls h (pR st fun a r => ck (arr h a 9) (nx 80 ls (rv (hR h a 54) :: r) h)) Q := G_unf rfl rfl
theorem g268_80 : G d 268 80 ls st h Q ↔ GN d 268 80 ls h (nx 82 ls (.int (nI 12) :: st) h) Q := G_unf rfl rfl
theorem g268_82 : G d 268 82 ls st h Q ↔ GN d 268 82 ls h (ldI ls 1 fun x => nx 83 ls (.int x :: st) h) Q := G_unf rfl rfl
theorem g268_83 : G d 268 83 ls st h Q ↔ GN d 268 83 ls h (pII st fun x y r => nx 84 ls (.int (x * y) :: r) h) Q := G_unf rfl rfl
theorem g268_84 : G d 268 84 ls st h Q ↔ GN d 268 84 ls h (ldI ls 2 fun x => nx 85 ls (.int x :: st) h) Q := G_unf rfl rfl
theorem g268_85 : G d 268 85 ls st h Q ↔ GN d 268 85 ls h (pII st fun x y r => nx 86 ls (.int (x + y) :: r) h) Q := G_unf rfl rfl
theorem g268_86 : G d 268 86 ls st h Q ↔ GN d 268 86 ls h (pRI st fun a i r => br (a = 1000003) (ck (inb i (hS h).1) (nx 87 ls (.int ((hS h).2 i.toNatClampNeg) :: r) h)) (ck (arr h a 10 ∧ inb i (hLn h a)) (nx 87 ls (.int (hI h a i.toNatClampNeg) :: r) h))) Q := G_unf rfl rfl
theorem g268_87 : G d 268 87 ls st h Q ↔ GN d 268 87 ls h (nx 88 ls (.int (nI 1) :: st) h) Q := G_unf rfl rfl
theorem g268_88 : G d 268 88 ls st h Q ↔ GN d 268 88 ls h (pII st fun x y r => nx 89 ls (.int (x + y) :: r) h) Q := G_unf rfl rfl
theorem g268_89 : G d 268 89 ls st h Q ↔ GN d 268 89 ls h (nx 93 ls st h) Q := G_unf rfl rfl
theorem g268_92 : G d 268 92 ls st h Q ↔ GN d 268 92 ls h (nx 93 ls (.int (nI 0) :: st) h) Q := G_unf rfl rfl
theorem g268_93 : G d 268 93 ls st h Q ↔ GN d 268 93 ls h (pA 1 st fun as r => pR r fun a r => ck (r.length ≤ 4 ∧ arr h a 9) (cll 267 (.ref a :: as) r)) Q := G_unf rfl rfl
theorem g268_96 : G d 268 96 ls st h Q ↔ GN d 268 96 ls h (ldI ls 2 fun x => nx 99 (st1 ls 2 (.int (x + (nI 1)))) st h) Q := G_unf rfl rfl
theorem g268_99 : G d 268 99 ls st h Q ↔ GN d 268 99 ls h (nx 52 ls st h) Q := G_unf rfl rfl
theorem g268_102 : G d 268 102 ls st h Q ↔ GN d 268 102 ls h (ldI ls 1 fun x => nx 105 (st1 ls 1 (.int (x + (nI 1)))) st h) Q := G_unf rfl rfl
theorem g268_105 : G d 268 105 ls st h Q ↔ GN d 268 105 ls h (nx 17 ls st h) Q := G_unf rfl rfl
theorem g268_108 : G d 268 108 ls st h Q ↔ GN d 268 108 ls h (nx 110 ls (.int (nI 101) :: st) h) Q := G_unf rfl rfl
theorem g268_110 : G d 268 110 ls st h Q ↔ GN d 268 110 ls h (pI st fun x r => ck (1 < ls.length) (nx 111 (st1 ls 1 (.int x)) r h)) Q := G_unf rfl rfl
theorem g268_111 : G d 268 111 ls st h Q ↔ GN d 268 111 ls h (nx 112 ls (.int (nI 0) :: st) h) Q := G_unf rfl rfl
theorem g268_112 : G d 268 112 ls st h Q ↔ GN d 268 112 ls h (pI st fun x r => ck (2 < ls.length) (nx 113 (st1 ls 2 (.int x)) r h)) Q := G_unf rfl rfl
theorem g268_113 : G d 268 113 ls st h Q ↔ GN d 268 113 ls h (ldI ls 2 fun x => nx 114 ls (.int x :: st) h) Q := G_unf rfl rfl
theorem g268_114 : G d 268 114 ls st h Q ↔ GN d 268 114 ls h (ldR ls 0 fun a => nx 115 ls (.ref a :: st) h) Q := G_unf rfl rfl
theorem g268_115 : G d 268 115 ls st h Q ↔ GN d 268 115 ls h (pR st fun a r => ck (arr h a 9) (nx 118 ls (.int (hI h a 78) :: r) h)) Q := G_unf rfl rfl
theorem g268_118 : G d 268 118 ls st h Q ↔ GN d 268 118 ls h (pII st fun x y r => br (y ≤ x) (nx 142 ls r h) (nx 121 ls r h)) Q := G_unf rfl rfl
theorem g268_121 : G d 268 121 ls st h Q ↔ GN d 268 121 ls h (nx 122 ls (.int (nI 5) :: st) h) Q := G_unf rfl rfl
theorem g268_122 : G d 268 122 ls st h Q ↔ GN d 268 122 ls h (ldI ls 1 fun x => nx 123 ls (.int x :: st) h) Q := G_unf rfl rfl
theorem g268_123 : G d 268 123 ls st h Q ↔ GN d 268 123 ls h (pII st fun x y r => nx 124 ls (.int (x * y) :: r) h) Q := G_unf rfl rfl
theorem g268_124 : G d 268 124 ls st h Q ↔ GN d 268 124 ls h (ldR ls 0 fun a => nx 125 ls (.ref a :: st) h) Q := G_unf rfl rfl
theorem g268_125 : G d 268 125 ls st h Q ↔ GN d 268 125 ls h (pR st fun a r => ck (arr h a 9) (nx 128 ls (rv (hR h a 77) :: r) h)) Q := G_unf rfl rfl
theorem g268_128 : G d 268 128 ls st h Q ↔ GN d 268 128 ls h (ldI ls 2 fun x => nx 129 ls (.int x :: st) h) Q := G_unf rfl rfl
theorem g268_129 : G d 268 129 ls st h Q ↔ GN d 268 129 ls h (pRI st fun a i r => br (a = 1000003) (ck (inb i (hS h).1) (nx 130 ls (.int ((hS h).2 i.toNatClampNeg) :: r) h)) (ck (arr h a 10 ∧ inb i (hLn h a)) (nx 130 ls (.int (hI h a i.toNatClampNeg) :: r) h))) Q := G_unf rfl rfl
theorem g268_130 : G d 268 130 ls st h Q ↔ GN d 268 130 ls h (pII st fun x y r => nx 131 ls (.int (x + y) :: r) h) Q := G_unf rfl rfl
theorem g268_131 : G d 268 131 ls st h Q ↔ GN d 268 131 ls h (nx 134 ls (.int (nI 251) :: st) h) Q := G_unf rfl rfl
theorem g268_134 : G d 268 134 ls st h Q ↔ GN d 268 134 ls h (pII st fun x y r => ck (¬ y = 0) (nx 135 ls (.int (x - x / y * y) :: r) h)) Q := G_unf rfl rfl
set_option maxRecDepth 100000 in
theorem g268_135 : G d 268 135 ls st h Q ↔ GN d 268 135 ls h (pI st fun x r => ck (1 < ls.length) (nx 136 (st1 ls 1 (.int x)) r h)) Q := G_unf rfl rfl
set_option maxRecDepth 100000 in
theorem g268_136 : G d 268 136 ls st h Q ↔ GN d 268 136 ls h (ldI ls 2 fun x => nx 139 (st1 ls 2 (.int (x + (nI 1)))) st h) Q := G_unf rfl rfl
set_option maxRecDepth 100000 in
theorem g268_139 : G d 268 139 ls st h Q ↔ GN d 268 139 ls h (nx 113 ls st h) Q := G_unf rfl rfl
set_option maxRecDepth 100000 in
theorem g268_142 : G d 268 142 ls st h Q ↔ GN d 268 142 ls h (ldR ls 0 fun a => nx 143 ls (.ref a :: st) h) Q := G_unf rfl rfl
set_option maxRecDepth 100000 in
theorem g268_143 : G d 268 143 ls st h Q ↔ GN d 268 143 ls h (ldI ls 1 fun x => nx 144 ls (.int x :: st) h) Q := G_unf rfl rfl
set_option maxRecDepth 100000 in
theorem g268_144 : G d 268 144 ls st h Q ↔ GN d 268 144 ls h (pA 1 st fun as r => pR r fun a r => ck (r.length ≤ 4 ∧ arr h a 9) (cll 266 (.ref a :: as) r)) Q := G_unf rfl rfl
set_option maxRecDepth 100000 in
theorem g268_147 : G d 268 147 ls st h Q ↔ GN d 268 147 ls h (ldR ls 0 fun a => nx 148 ls (.ref a :: st) h) Q := G_unf rfl rfl
set_option maxRecDepth 100000 in
theorem g268_148 : G d 268 148 ls st h Q ↔ GN d 268 148 ls h (pR st fun a r => ck (arr h a 9) (nx 151 ls (.int (hI h a 78) :: r) h)) Q := G_unf rfl rfl
set_option maxRecDepth 100000 in
theorem g268_151 : G d 268 151 ls st h Q ↔ GN d 268 151 ls h (pIe st fun x => rtn (some (.int x))) Q := G_unf rfl rfl
theorem g269_0 : G d 269 0 ls st h Q ↔ GN d 269 0 ls h (ldI ls 1 fun x => nx 1 ls (.int x :: st) h) Q := G_unf rfl rfl
theorem g269_1 : G d 269 1 ls st h Q ↔ GN d 269 1 ls h (nx 2 ls (.int (nI 0) :: st) h) Q := G_unf rfl rfl
theorem g269_2 : G d 269 2 ls st h Q ↔ GN d 269 2 ls h (ldR ls 0 fun a => nx 3 ls (.ref a :: st) h) Q := G_unf rfl rfl
theorem g269_3 : G d 269 3 ls st h Q ↔ GN d 269 3 ls h (pR st fun a r => ck (arr h a 9) (nx 6 ls (.int (hI h a 78) :: r) h)) Q := G_unf rfl rfl
theorem g269_6 : G d 269 6 ls st h Q ↔ GN d 269 6 ls h (nx 7 ls (.int (nI 1) :: st) h) Q := G_unf rfl rfl
theorem g269_7 : G d 269 7 ls st h Q ↔ GN d 269 7 ls h (pII st fun x y r => nx 8 ls (.int (x - y) :: r) h) Q := G_unf rfl rfl
theorem g269_8 : G d 269 8 ls st h Q ↔ GN d 269 8 ls h (pA 3 st fun as r => ck (r.length ≤ 4) (cll 156 as r)) Q := G_unf rfl rfl
theorem g269_11 : G d 269 11 ls st h Q ↔ GN d 269 11 ls h (pI st fun x r => br (x = 0) (nx 23 ls r h) (nx 14 ls r h)) Q := G_unf rfl rfl
theorem g269_14 : G d 269 14 ls st h Q ↔ GN d 269 14 ls h (ldR ls 0 fun a => nx 15 ls (.ref a :: st) h) Q := G_unf rfl rfl
theorem g269_15 : G d 269 15 ls st h Q ↔ GN d 269 15 ls h (pR st fun a r => ck (arr h a 9) (nx 18 ls (rv (hR h a 77) :: r) h)) Q := G_unf rfl rfl
theorem g269_18 : G d 269 18 ls st h Q ↔ GN d 269 18 ls h (ldI ls 1 fun x => nx 19 ls (.int x :: st) h) Q := G_unf rfl rfl
theorem g269_19 : G d 269 19 ls st h Q ↔ GN d 269 19 ls h (pRI st fun a i r => br (a = 1000003) (ck (inb i (hS h).1) (nx 20 ls (.int ((hS h).2 i.toNatClampNeg) :: r) h)) (ck (arr h a 10 ∧ inb i (hLn h a)) (nx 20 ls (.int (hI h a i.toNatClampNeg) :: r) h))) Q := G_unf rfl rfl
theorem g269_20 : G d 269 20 ls st h Q ↔ GN d 269 20 ls h (nx 24 ls st h) Q := G_unf rfl rfl
theorem g269_23 : G d 269 23 ls st h Q ↔ GN d 269 23 ls h (nx 24 ls (.int (-1) :: st) h) Q := G_unf rfl rfl
theorem g269_24 : G d 269 24 ls st h Q ↔ GN d 269 24 ls h (pIe st fun x => rtn (some (.int x))) Q := G_unf rfl rfl
theorem g270_0 : G d 270 0 ls st h Q ↔ GN d 270 0 ls h (ldR ls 0 fun a => nx 1 ls (.ref a :: st) h) Q := G_unf rfl rfl
theorem g270_1 : G d 270 1 ls st h Q ↔ GN d 270 1 ls h (pR st fun a r => ck (arr h a 9) (nx 4 ls (rv (hR h a 0) :: r) h)) Q := G_unf rfl rfl
theorem g270_4 : G d 270 4 ls st h Q ↔ GN d 270 4 ls h (ldI ls 1 fun x => nx 5 ls (.int x :: st) h) Q := G_unf rfl rfl
theorem g270_5 : G d 270 5 ls st h Q ↔ GN d 270 5 ls h (pRI st fun a i r => br (a = 1000003) (ck (inb i (hS h).1) (nx 6 ls (.int ((hS h).2 i.toNatClampNeg) :: r) h)) (ck (arr h a 10 ∧ inb i (hLn h a)) (nx 6 ls (.int (hI h a i.toNatClampNeg) :: r) h))) Q := G_unf rfl rfl
theorem g270_6 : G d 270 6 ls st h Q ↔ GN d 270 6 ls h (nx 8 ls (.int (nI 8) :: st) h) Q := G_unf rfl rfl
theorem g270_8 : G d 270 8 ls st h Q ↔ GN d 270 8 ls h (pII st fun x y r => nx 9 ls (.int (x <<< (y &&& 31)) :: r) h) Q := G_unf rfl rfl
theorem g270_9 : G d 270 9 ls st h Q ↔ GN d 270 9 ls h (ldR ls 0 fun a => nx 10 ls (.ref a :: st) h) Q := G_unf rfl rfl
theorem g270_10 : G d 270 10 ls st h Q ↔ GN d 270 10 ls h (pR st fun a r => ck (arr h a 9) (nx 13 ls (rv (hR h a 0) :: r) h)) Q := G_unf rfl rfl
theorem g270_13 : G d 270 13 ls st h Q ↔ GN d 270 13 ls h (ldI ls 1 fun x => nx 14 ls (.int x :: st) h) Q := G_unf rfl rfl
theorem g270_14 : G d 270 14 ls st h Q ↔ GN d 270 14 ls h (nx 15 ls (.int (nI 1) :: st) h) Q := G_unf rfl rfl
theorem g270_15 : G d 270 15 ls st h Q ↔ GN d 270 15 ls h (pII st fun x y r => nx 16 ls (.int (x + y) :: r) h) Q := G_unf rfl rfl
theorem g270_16 : G d 270 16 ls st h Q ↔ GN d 270 16 ls h (pRI st fun a i r => br (a = 1000003) (ck (inb i (hS h).1) (nx 17 ls (.int ((hS h).2 i.toNatClampNeg) :: r) h)) (ck (arr h a 10 ∧ inb i (hLn h a)) (nx 17 ls (.int (hI h a i.toNatClampNeg) :: r) h))) Q := G_unf rfl rfl
theorem g270_17 : G d 270 17 ls st h Q ↔ GN d 270 17 ls h (pII st fun x y r => nx 18 ls (.int (x ||| y) :: r) h) Q := G_unf rfl rfl
theorem g270_18 : G d 270 18 ls st h Q ↔ GN d 270 18 ls h (pIe st fun x => rtn (some (.int x))) Q := G_unf rfl rfl
theorem g271_0 : G d 271 0 ls st h Q ↔ GN d 271 0 ls h (nx 1 ls (.int (nI 4) :: st) h) Q := G_unf rfl rfl
theorem g271_1 : G d 271 1 ls st h Q ↔ GN d 271 1 ls h (nx 2 ls (.int (nI 2) :: st) h) Q := G_unf rfl rfl
theorem g271_2 : G d 271 2 ls st h Q ↔ GN d 271 2 ls h (ldR ls 0 fun a => nx 3 ls (.ref a :: st) h) Q := G_unf rfl rfl
theorem g271_3 : G d 271 3 ls st h Q ↔ GN d 271 3 ls h (pR st fun a r => ck (arr h a 9) (nx 6 ls (rv (hR h a 14) :: r) h)) Q := G_unf rfl rfl
theorem g271_6 : G d 271 6 ls st h Q ↔ GN d 271 6 ls h (ldR ls 0 fun a => nx 7 ls (.ref a :: st) h) Q := G_unf rfl rfl
theorem g271_7 : G d 271 7 ls st h Q ↔ GN d 271 7 ls h (pR st fun a r => ck (arr h a 9) (nx 10 ls (.int (hI h a 13) :: r) h)) Q := G_unf rfl rfl
theorem g271_10 : G d 271 10 ls st h Q ↔ GN d 271 10 ls h (pRI st fun a i r => br (a = 1000003) (ck (inb i (hS h).1) (nx 11 ls (.int ((hS h).2 i.toNatClampNeg) :: r) h)) (ck (arr h a 10 ∧ inb i (hLn h a)) (nx 11 ls (.int (hI h a i.toNatClampNeg) :: r) h))) Q := G_unf rfl rfl
theorem g271_11 : G d 271 11 ls st h Q ↔ GN d 271 11 ls h (pII st fun x y r => nx 12 ls (.int (x * y) :: r) h) Q := G_unf rfl rfl
theorem g271_12 : G d 271 12 ls st h Q ↔ GN d 271 12 ls h (pII st fun x y r => nx 13 ls (.int (x + y) :: r) h) Q := G_unf rfl rfl
theorem g271_13 : G d 271 13 ls st h Q ↔ GN d 271 13 ls h (pI st fun x r => ck (2 < ls.length) (nx 14 (st1 ls 2 (.int x)) r h)) Q := G_unf rfl rfl
theorem g271_14 : G d 271 14 ls st h Q ↔ GN d 271 14 ls h (ldI ls 1 fun x => nx 15 ls (.int x :: st) h) Q := G_unf rfl rfl
theorem g271_15 : G d 271 15 ls st h Q ↔ GN d 271 15 ls h (nx 16 ls (.int (nI 3) :: st) h) Q := G_unf rfl rfl
theorem g271_16 : G d 271 16 ls st h Q ↔ GN d 271 16 ls h (ldI ls 2 fun x => nx 17 ls (.int x :: st) h) Q := G_unf rfl rfl
theorem g271_17 : G d 271 17 ls st h Q ↔ GN d 271 17 ls h (ldR ls 0 fun a => nx 18 ls (.ref a :: st) h) Q := G_unf rfl rfl
theorem g271_18 : G d 271 18 ls st h Q ↔ GN d 271 18 ls h (pR st fun a r => ck (arr h a 9) (nx 21 ls (rv (hR h a 20) :: r) h)) Q := G_unf rfl rfl
theorem g271_21 : G d 271 21 ls st h Q ↔ GN d 271 21 ls h (ldR ls 0 fun a => nx 22 ls (.ref a :: st) h) Q := G_unf rfl rfl
theorem g271_22 : G d 271 22 ls st h Q ↔ GN d 271 22 ls h (pR st fun a r => ck (arr h a 9) (nx 25 ls (.int (hI h a 13) :: r) h)) Q := G_unf rfl rfl
theorem g271_25 : G d 271 25 ls st h Q ↔ GN d 271 25 ls h (pRI st fun a i r => br (a = 1000003) (ck (inb i (hS h).1) (nx 26 ls (.int ((hS h).2 i.toNatClampNeg) :: r) h)) (ck (arr h a 10 ∧ inb i (hLn h a)) (nx 26 ls (.int (hI h a i.toNatClampNeg) :: r) h))) Q := G_unf rfl rfl
theorem g271_26 : G d 271 26 ls st h Q ↔ GN d 271 26 ls h (pII st fun x y r => nx 27 ls (.int (x * y) :: r) h) Q := G_unf rfl rfl
theorem g271_27 : G d 271 27 ls st h Q ↔ GN d 271 27 ls h (pII st fun x y r => nx 28 ls (.int (x + y) :: r) h) Q := G_unf rfl rfl
theorem g271_28 : G d 271 28 ls st h Q ↔ GN d 271 28 ls h (pII st fun x y r => br (¬ x = y) (nx 42 ls r h) (nx 31 ls r h)) Q := G_unf rfl rfl
theorem g271_31 : G d 271 31 ls st h Q ↔ GN d 271 31 ls h (ldR ls 0 fun a => nx 32 ls (.ref a :: st) h) Q := G_unf rfl rfl
theorem g271_32 : G d 271 32 ls st h Q ↔ GN d 271 32 ls h (nx 33 ls (.int (nI 0) :: st) h) Q := G_unf rfl rfl
theorem g271_33 : G d 271 33 ls st h Q ↔ GN d 271 33 ls h (pA 1 st fun as r => pR r fun a r => ck (r.length ≤ 4 ∧ arr h a 9) (cll 270 (.ref a :: as) r)) Q := G_unf rfl rfl
theorem g271_36 : G d 271 36 ls st h Q ↔ GN d 271 36 ls h (nx 39 ls (.int (nI 999) :: st) h) Q := G_unf rfl rfl
theorem g271_39 : G d 271 39 ls st h Q ↔ GN d 271 39 ls h (pII st fun x y r => br (x ≤ y) (nx 44 ls r h) (nx 42 ls r h)) Q := G_unf rfl rfl
theorem g271_42 : G d 271 42 ls st h Q ↔ GN d 271 42 ls h (nx 43 ls (.int (nI 0) :: st) h) Q := G_unf rfl rfl
theorem g271_43 : G d 271 43 ls st h Q ↔ GN d 271 43 ls h (pIe st fun x => ck (x = 0 ∨ x = 1) (rtn (some (.int x)))) Q := G_unf rfl rfl
theorem g271_44 : G d 271 44 ls st h Q ↔ GN d 271 44 ls h (nx 46 ls (.int (nI 101) :: st) h) Q := G_unf rfl rfl
theorem g271_46 : G d 271 46 ls st h Q ↔ GN d 271 46 ls h (pI st fun x r => ck (3 < ls.length) (nx 47 (st1 ls 3 (.int x)) r h)) Q := G_unf rfl rfl
theorem g271_47 : G d 271 47 ls st h Q ↔ GN d 271 47 ls h (nx 48 ls (.int (nI 0) :: st) h) Q := G_unf rfl rfl
theorem g271_48 : G d 271 48 ls st h Q ↔ GN d 271 48 ls h (pI st fun x r => ck (4 < ls.length) (nx 50 (st1 ls 4 (.int x)) r h)) Q := G_unf rfl rfl
theorem g271_50 : G d 271 50 ls st h Q ↔ GN d 271 50 ls h (ldI ls 4 fun x => nx 52 ls (.int x :: st) h) Q := G_unf rfl rfl
theorem g271_52 : G d 271 52 ls st h Q ↔ GN d 271 52 ls h (ldI ls 1 fun x => nx 53 ls (.int x :: st) h) Q := G_unf rfl rfl
theorem g271_53 : G d 271 53 ls st h Q ↔ GN d 271 53 ls h (nx 54 ls (.int (nI 1) :: st) h) Q := G_unf rfl rfl
theorem g271_54 : G d 271 54 ls st h Q ↔ GN d 271 54 ls h (pII st fun x y r => nx 55 ls (.int (x - y) :: r) h) Q := G_unf rfl rfl
theorem g271_55 : G d 271 55 ls st h Q ↔ GN d 271 55 ls h (pII st fun x y r => br (y ≤ x) (nx 80 ls r h) (nx 58 ls r h)) Q := G_unf rfl rfl
theorem g271_58 : G d 271 58 ls st h Q ↔ GN d 271 58 ls h (nx 59 ls (.int (nI 5) :: st) h) Q := G_unf rfl rfl
theorem g271_59 : G d 271 59 ls st h Q ↔ GN d 271 59 ls h (ldI ls 3 fun x => nx 60 ls (.int x :: st) h) Q := G_unf rfl rfl
theorem g271_60 : G d 271 60 ls st h Q ↔ GN d 271 60 ls h (pII st fun x y r => nx 61 ls (.int (x * y) :: r) h) Q := G_unf rfl rfl
theorem g271_61 : G d 271 61 ls st h Q ↔ GN d 271 61 ls h (ldR ls 0 fun a => nx 62 ls (.ref a :: st) h) Q := G_unf rfl rfl
theorem g271_62 : G d 271 62 ls st h Q ↔ GN d 271 62 ls h (pR st fun a r => ck (arr h a 9) (nx 65 ls (rv (hR h a 0) :: r) h)) Q := G_unf rfl rfl
theorem g271_65 : G d 271 65 ls st h Q ↔ GN d 271 65 ls h (ldI ls 4 fun x => nx 67 ls (.int x :: st) h) Q := G_unf rfl rfl
theorem g271_67 : G d 271 67 ls st h Q ↔ GN d 271 67 ls h (pRI st fun a i r => br (a = 1000003) (ck (inb i (hS h).1) (nx 68 ls (.int ((hS h).2 i.toNatClampNeg) :: r) h)) (ck (arr h a 10 ∧ inb i (hLn h a)) (nx 68 ls (.int (hI h a i.toNatClampNeg) :: r) h))) Q := G_unf rfl rfl
theorem g271_68 : G d 271 68 ls st h Q ↔ GN d 271 68 ls h (pII st fun x y r => nx 69 ls (.int (x + y) :: r) h) Q := G_unf rfl rfl
theorem g271_69 : G d 271 69 ls st h Q ↔ GN d 271 69 ls h (nx 72 ls (.int (nI 251) :: st) h) Q := G_unf rfl rfl
theorem g271_72 : G d 271 72 ls st h Q ↔ GN d 271 72 ls h (pII st fun x y r => ck (¬ y = 0) (nx 73 ls (.int (x - x / y * y) :: r) h)) Q := G_unf rfl rfl
theorem g271_73 : G d 271 73 ls st h Q ↔ GN d 271 73 ls h (pI st fun x r => ck (3 < ls.length) (nx 74 (st1 ls 3 (.int x)) r h)) Q := G_unf rfl rfl
theorem g271_74 : G d 271 74 ls st h Q ↔ GN d 271 74 ls h (ldI ls 4 fun x => nx 77 (st1 ls 4 (.int (x + (nI 1)))) st h) Q := G_unf rfl rfl
theorem g271_77 : G d 271 77 ls st h Q ↔ GN d 271 77 ls h (nx 50 ls st h) Q := G_unf rfl rfl
theorem g271_80 : G d 271 80 ls st h Q ↔ GN d 271 80 ls h (ldR ls 0 fun a => nx 81 ls (.ref a :: st) h) Q := G_unf rfl rfl
theorem g271_81 : G d 271 81 ls st h Q ↔ GN d 271 81 ls h (pR st fun a r => ck (arr h a 9) (nx 84 ls (rv (hR h a 0) :: r) h)) Q := G_unf rfl rfl
theorem g271_84 : G d 271 84 ls st h Q ↔ GN d 271 84 ls h (ldI ls 1 fun x => nx 85 ls (.int x :: st) h) Q := G_unf rfl rfl
theorem g271_85 : G d 271 85 ls st h Q ↔ GN d 271 85 ls h (nx 86 ls (.int (nI 1) :: st) h) Q := G_unf rfl rfl
theorem g271_86 : G d 271 86 ls st h Q ↔ GN d 271 86 ls h (pII st fun x y r => nx 87 ls (.int (x - y) :: r) h) Q := G_unf rfl rfl
theorem g271_87 : G d 271 87 ls st h Q ↔ GN d 271 87 ls h (pRI st fun a i r => br (a = 1000003) (ck (inb i (hS h).1) (nx 88 ls (.int ((hS h).2 i.toNatClampNeg) :: r) h)) (ck (arr h a 10 ∧ inb i (hLn h a)) (nx 88 ls (.int (hI h a i.toNatClampNeg) :: r) h))) Q := G_unf rfl rfl
theorem g271_88 : G d 271 88 ls st h Q ↔ GN d 271 88 ls h (ldI ls 3 fun x => nx 89 ls (.int x :: st) h) Q := G_unf rfl rfl
theorem g271_89 : G d 271 89 ls st h Q ↔ GN d 271 89 ls h (pII st fun x y r => br (x = y) (nx 94 ls r h) (nx 92 ls r h)) Q := G_unf rfl rfl
theorem g271_92 : G d 271 92 ls st h Q ↔ GN d 271 92 ls h (nx 93 ls (.int (nI 0) :: st) h) Q := G_unf rfl rfl
theorem g271_93 : G d 271 93 ls st h Q ↔ GN d 271 93 ls h (pIe st fun x => ck (x = 0 ∨ x = 1) (rtn (some (.int x)))) Q := G_unf rfl rfl
theorem g271_94 : G d 271 94 ls st h Q ↔ GN d 271 94 ls h (ldR ls 0 fun a => nx 95 ls (.ref a :: st) h) Q := G_unf rfl rfl
theorem g271_95 : G d 271 95 ls st h Q ↔ GN d 271 95 ls h (nx 96 ls (.int (nI 1) :: st) h) Q := G_unf rfl rfl
theorem g271_96 : G d 271 96 ls st h Q ↔ GN d 271 96 ls h (nx 97 ls (.int (nI 0) :: st) h) Q := G_unf rfl rfl
theorem g271_97 : G d 271 97 ls st h Q ↔ GN d 271 97 ls h (pA 2 st fun as r => pR r fun a r => ck (r.length ≤ 4 ∧ arr h a 9) (cll 207 (.ref a :: as) r)) Q := G_unf rfl rfl
theorem g271_100 : G d 271 100 ls st h Q ↔ GN d 271 100 ls h (ldR ls 0 fun a => nx 101 ls (.ref a :: st) h) Q := G_unf rfl rfl
theorem g271_101 : G d 271 101 ls st h Q ↔ GN d 271 101 ls h (pR st fun a r => ck (arr h a 9) (nx 104 ls (rv (hR h a 51) :: r) h)) Q := G_unf rfl rfl
theorem g271_104 : G d 271 104 ls st h Q ↔ GN d 271 104 ls h (nx 105 ls (.int (nI 1) :: st) h) Q := G_unf rfl rfl
theorem g271_105 : G d 271 105 ls st h Q ↔ GN d 271 105 ls h (ldR ls 0 fun a => nx 106 ls (.ref a :: st) h) Q := G_unf rfl rfl
theorem g271_106 : G d 271 106 ls st h Q ↔ GN d 271 106 ls h (nx 107 ls (.int (nI 0) :: st) h) Q := G_unf rfl rfl
theorem g271_107 : G d 271 107 ls st h Q ↔ GN d 271 107 ls h (pA 1 st fun as r => pR r fun a r => ck (r.length ≤ 4 ∧ arr h a 9) (cll 270 (.ref a :: as) r)) Q := G_unf rfl rfl
theorem g271_110 : G d 271 110 ls st h Q ↔ GN d 271 110 ls h (pRII st fun a i x r => ck (arr h a 10 ∧ inb i (hLn h a)) (nx 111 ls r (sI h a i.toNatClampNeg x))) Q := G_unf rfl rfl
theorem g271_111 : G d 271 111 ls st h Q ↔ GN d 271 111 ls h (ldR ls 0 fun a => nx 112 ls (.ref a :: st) h) Q := G_unf rfl rfl
theorem g271_112 : G d 271 112 ls st h Q ↔ GN d 271 112 ls h (pR st fun a r => ck (arr h a 9) (nx 115 ls (rv (hR h a 55) :: r) h)) Q := G_unf rfl rfl
theorem g271_115 : G d 271 115 ls st h Q ↔ GN d 271 115 ls h (nx 116 ls (.int (nI 1) :: st) h) Q := G_unf rfl rfl
theorem g271_116 : G d 271 116 ls st h Q ↔ GN d 271 116 ls h (nx 117 ls (.int (nI 0) :: st) h) Q := G_unf rfl rfl
theorem g271_117 : G d 271 117 ls st h Q ↔ GN d 271 117 ls h (pRII st fun a i x r => ck (arr h a 10 ∧ inb i (hLn h a)) (nx 118 ls r (sI h a i.toNatClampNeg x))) Q := G_unf rfl rfl
theorem g271_118 : G d 271 118 ls st h Q ↔ GN d 271 118 ls h (nx 119 ls (.int (nI 0) :: st) h) Q := G_unf rfl rfl
theorem g271_119 : G d 271 119 ls st h Q ↔ GN d 271 119 ls h (pI st fun x r => ck (4 < ls.length) (nx 121 (st1 ls 4 (.int x)) r h)) Q := G_unf rfl rfl
theorem g271_121 : G d 271 121 ls st h Q ↔ GN d 271 121 ls h (ldI ls 4 fun x => nx 123 ls (.int x :: st) h) Q := G_unf rfl rfl
theorem g271_123 : G d 271 123 ls st h Q ↔ GN d 271 123 ls h (ldR ls 0 fun a => nx 124 ls (.ref a :: st) h) Q := G_unf rfl rfl
theorem g271_124 : G d 271 124 ls st h Q ↔ GN d 271 124 ls h (pR st fun a r => ck (arr h a 9) (nx 127 ls (rv (hR h a 20) :: r) h)) Q := G_unf rfl rfl
set_option maxRecDepth 100000 in
theorem g271_127 : G d 271 127 ls st h Q ↔ GN d 271 127 ls h (ldR ls 0 fun a => nx 128 ls (.ref a :: st) h) Q := G_unf rfl rfl
set_option maxRecDepth 100000 in
theorem g271_128 : G d 271 128 ls st h Q ↔ GN d 271 128 ls h (pR st fun a r => ck (arr h a 9) (nx 131 ls (.int (hI h a 13) :: r) h)) Q := G_unf rfl rfl
set_option maxRecDepth 100000 in
theorem g271_131 : G d 271 131 ls st h Q ↔ GN d 271 131 ls h (pRI st fun a i r => br (a = 1000003) (ck (inb i (hS h).1) (nx 132 ls (.int ((hS h).2 i.toNatClampNeg) :: r) h)) (ck (arr h a 10 ∧ inb i (hLn h a)) (nx 132 ls (.int (hI h a i.toNatClampNeg) :: r) h))) Q := G_unf rfl rfl
set_option maxRecDepth 100000 in
theorem g271_132 : G d 271 132 ls st h Q ↔ GN d 271 132 ls h (pII st fun x y r => br (y ≤ x) (nx 280 ls r h) (nx 135 ls r h)) Q := G_unf rfl rfl
set_option maxRecDepth 100000 in
theorem g271_135 : G d 271 135 ls st h Q ↔ GN d 271 135 ls h (nx 136 ls (.int (nI 2) :: st) h) Q := G_unf rfl rfl
set_option maxRecDepth 100000 in
theorem g271_136 : G d 271 136 ls st h Q ↔ GN d 271 136 ls h (ldI ls 2 fun x => nx 137 ls (.int x :: st) h) Q := G_unf rfl rfl
set_option maxRecDepth 100000 in
theorem g271_137 : G d 271 137 ls st h Q ↔ GN d 271 137 ls h (ldI ls 4 fun x => nx 139 ls (.int x :: st) h) Q := G_unf rfl rfl
set_option maxRecDepth 100000 in
theorem g271_139 : G d 271 139 ls st h Q ↔ GN d 271 139 ls h (pII st fun x y r => nx 140 ls (.int (x * y) :: r) h) Q := G_unf rfl rfl
set_option maxRecDepth 100000 in
theorem g271_140 : G d 271 140 ls st h Q ↔ GN d 271 140 ls h (pII st fun x y r => nx 141 ls (.int (x + y) :: r) h) Q := G_unf rfl rfl
set_option maxRecDepth 100000 in
theorem g271_141 : G d 271 141 ls st h Q ↔ GN d 271 141 ls h (pI st fun x r => ck (5 < ls.length) (nx 143 (st1 ls 5 (.int x)) r h)) Q := G_unf rfl rfl
set_option maxRecDepth 100000 in
theorem g271_143 : G d 271 143 ls st h Q ↔ GN d 271 143 ls h (ldR ls 0 fun a => nx 144 ls (.ref a :: st) h) Q := G_unf rfl rfl
set_option maxRecDepth 100000 in
theorem g271_144 : G d 271 144 ls st h Q ↔ GN d 271 144 ls h (pR st fun a r => ck (arr h a 9) (nx 147 ls (rv (hR h a 52) :: r) h)) Q := G_unf rfl rfl
set_option maxRecDepth 100000 in
theorem g271_147 : G d 271 147 ls st h Q ↔ GN d 271 147 ls h (nx 149 ls (.int (nI 8) :: st) h) Q := G_unf rfl rfl
set_option maxRecDepth 100000 in
theorem g271_149 : G d 271 149 ls st h Q ↔ GN d 271 149 ls h (ldI ls 4 fun x => nx 151 ls (.int x :: st) h) Q := G_unf rfl rfl
set_option maxRecDepth 100000 in
theorem g271_151 : G d 271 151 ls st h Q ↔ GN d 271 151 ls h (pII st fun x y r => nx 152 ls (.int (x + y) :: r) h) Q := G_unf rfl rfl
set_option maxRecDepth 100000 in
theorem g271_152 : G d 271 152 ls st h Q ↔ GN d 271 152 ls h (ldR ls 0 fun a => nx 153 ls (.ref a :: st) h) Q := G_unf rfl rfl
set_option maxRecDepth 100000 in
theorem g271_153 : G d 271 153 ls st h Q ↔ GN d 271 153 ls h (ldI ls 5 fun x => nx 155 ls (.int x :: st) h) Q := G_unf rfl rfl
set_option maxRecDepth 100000 in
theorem g271_155 : G d 271 155 ls st h Q ↔ GN d 271 155 ls h (pA 1 st fun as r => pR r fun a r => ck (r.length ≤ 4 ∧ arr h a 9) (cll 270 (.ref a :: as) r)) Q := G_unf rfl rfl
set_option maxRecDepth 100000 in
theorem g271_158 : G d 271 158 ls st h Q ↔ GN d 271 158 ls h (pRII st fun a i x r => ck (arr h a 10 ∧ inb i (hLn h a)) (nx 159 ls r (sI h a i.toNatClampNeg x))) Q := G_unf rfl rfl
set_option maxRecDepth 100000 in
theorem g271_159 : G d 271 159 ls st h Q ↔ GN d 271 159 ls h (ldR ls 0 fun a => nx 160 ls (.ref a :: st) h) Q := G_unf rfl rfl
set_option maxRecDepth 100000 in
theorem g271_160 : G d 271 160 ls st h Q ↔ GN d 271 160 ls h (pR st fun a r => ck (arr h a 9) (nx 163 ls (rv (hR h a 53) :: r) h)) Q := G_unf rfl rfl
set_option maxRecDepth 100000 in
theorem g271_163 : G d 271 163 ls st h Q ↔ GN d 271 163 ls h (nx 165 ls (.int (nI 8) :: st) h) Q := G_unf rfl rfl
set_option maxRecDepth 100000 in
theorem g271_165 : G d 271 165 ls st h Q ↔ GN d 271 165 ls h (ldI ls 4 fun x => nx 167 ls (.int x :: st) h) Q := G_unf rfl rfl
set_option maxRecDepth 100000 in
theorem g271_167 : G d 271 167 ls st h Q ↔ GN d 271 167 ls h (pII st fun x y r => nx 168 ls (.int (x + y) :: r) h) Q := G_unf rfl rfl
set_option maxRecDepth 100000 in
theorem g271_168 : G d 271 168 ls st h Q ↔ GN d 271 168 ls h (ldR ls 0 fun a => nx 169 ls (.ref a :: st) h) Q := G_unf rfl rfl
set_option maxRecDepth 100000 in
theorem g271_169 : G d 271 169 ls st h Q ↔ GN d 271 169 ls h (ldI ls 5 fun x => nx 171 ls (.int x :: st) h) Q := G_unf rfl rfl
set_option maxRecDepth 100000 in
theorem g271_171 : G d 271 171 ls st h Q ↔ GN d 271 171 ls h (nx 172 ls (.int (nI 2) :: st) h) Q := G_unf rfl rfl
set_option maxRecDepth 100000 in
theorem g271_172 : G d 271 172 ls st h Q ↔ GN d 271 172 ls h (pII st fun x y r => nx 173 ls (.int (x + y) :: r) h) Q := G_unf rfl rfl
set_option maxRecDepth 100000 in
theorem g271_173 : G d 271 173 ls st h Q ↔ GN d 271 173 ls h (pA 1 st fun as r => pR r fun a r => ck (r.length ≤ 4 ∧ arr h a 9) (cll 270 (.ref a :: as) r)) Q := G_unf rfl rfl
set_option maxRecDepth 100000 in
theorem g271_176 : G d 271 176 ls st h Q ↔ GN d 271 176 ls h (pRII st fun a i x r => ck (arr h a 10 ∧ inb i (hLn h a)) (nx 177 ls r (sI h a i.toNatClampNeg x))) Q := G_unf rfl rfl
set_option maxRecDepth 100000 in
theorem g271_177 : G d 271 177 ls st h Q ↔ GN d 271 177 ls h (ldR ls 0 fun a => nx 178 ls (.ref a :: st) h) Q := G_unf rfl rfl
set_option maxRecDepth 100000 in
theorem g271_178 : G d 271 178 ls st h Q ↔ GN d 271 178 ls h (ldR ls 0 fun a => nx 179 ls (.ref a :: st) h) Q := G_unf rfl rfl
set_option maxRecDepth 100000 in
theorem g271_179 : G d 271 179 ls st h Q ↔ GN d 271 179 ls h (ldI ls 5 fun x => nx 181 ls (.int x :: st) h) Q := G_unf rfl rfl
set_option maxRecDepth 100000 in
theorem g271_181 : G d 271 181 ls st h Q ↔ GN d 271 181 ls h (pA 1 st fun as r => pR r fun a r => ck (r.length ≤ 4 ∧ arr h a 9) (cll 270 (.ref a :: as) r)) Q := G_unf rfl rfl
set_option maxRecDepth 100000 in
theorem g271_184 : G d 271 184 ls st h Q ↔ GN d 271 184 ls h (pA 1 st fun as r => pR r fun a r => ck (r.length ≤ 4 ∧ arr h a 9) (cll 204 (.ref a :: as) r)) Q := G_unf rfl rfl
set_option maxRecDepth 100000 in
theorem g271_187 : G d 271 187 ls st h Q ↔ GN d 271 187 ls h (pI st fun x r => br (x = 0) (nx 204 ls r h) (nx 190 ls r h)) Q := G_unf rfl rfl
set_option maxRecDepth 100000 in
theorem g271_190 : G d 271 190 ls st h Q ↔ GN d 271 190 ls h (ldR ls 0 fun a => nx 191 ls (.ref a :: st) h) Q := G_unf rfl rfl
set_option maxRecDepth 100000 in
theorem g271_191 : G d 271 191 ls st h Q ↔ GN d 271 191 ls h (ldI ls 5 fun x => nx 193 ls (.int x :: st) h) Q := G_unf rfl rfl
set_option maxRecDepth 100000 in
theorem g271_193 : G d 271 193 ls st h Q ↔ GN d 271 193 ls h (nx 194 ls (.int (nI 2) :: st) h) Q := G_unf rfl rfl
set_option maxRecDepth 100000 in
theorem g271_194 : G d 271 194 ls st h Q ↔ GN d 271 194 ls h (pII st fun x y r => nx 195 ls (.int (x + y) :: r) h) Q := G_unf rfl rfl
set_option maxRecDepth 100000 in
theorem g271_195 : G d 271 195 ls st h Q ↔ GN d 271 195 ls h (pA 1 st fun as r => pR r fun a r => ck (r.length ≤ 4 ∧ arr h a 9) (cll 270 (.ref a :: as) r)) Q := G_unf rfl rfl
set_option maxRecDepth 100000 in
theorem g271_198 : G d 271 198 ls st h Q ↔ GN d 271 198 ls h (nx 201 ls (.int (nI 999) :: st) h) Q := G_unf rfl rfl
set_option maxRecDepth 100000 in
theorem g271_201 : G d 271 201 ls st h Q ↔ GN d 271 201 ls h (pII st fun x y r => br (x ≤ y) (nx 206 ls r h) (nx 204 ls r h)) Q := G_unf rfl rfl
set_option maxRecDepth 100000 in
theorem g271_204 : G d 271 204 ls st h Q ↔ GN d 271 204 ls h (nx 205 ls (.int (nI 0) :: st) h) Q := G_unf rfl rfl
set_option maxRecDepth 100000 in
theorem g271_205 : G d 271 205 ls st h Q ↔ GN d 271 205 ls h (pIe st fun x => ck (x = 0 ∨ x = 1) (rtn (some (.int x)))) Q := G_unf rfl rfl
set_option maxRecDepth 100000 in
theorem g271_206 : G d 271 206 ls st h Q ↔ GN d 271 206 ls h (nx 207 ls (.int (nI 0) :: st) h) Q := G_unf rfl rfl
set_option maxRecDepth 100000 in
theorem g271_207 : G d 271 207 ls st h Q ↔ GN d 271 207 ls h (pI st fun x r => ck (6 < ls.length) (nx 209 (st1 ls 6 (.int x)) r h)) Q := G_unf rfl rfl
set_option maxRecDepth 100000 in
theorem g271_209 : G d 271 209 ls st h Q ↔ GN d 271 209 ls h (ldI ls 6 fun x => nx 211 ls (.int x :: st) h) Q := G_unf rfl rfl
set_option maxRecDepth 100000 in
theorem g271_211 : G d 271 211 ls st h Q ↔ GN d 271 211 ls h (ldR ls 0 fun a => nx 212 ls (.ref a :: st) h) Q := G_unf rfl rfl
set_option maxRecDepth 100000 in
theorem g271_212 : G d 271 212 ls st h Q ↔ GN d 271 212 ls h (pR st fun a r => ck (arr h a 9) (nx 215 ls (rv (hR h a 14) :: r) h)) Q := G_unf rfl rfl
set_option maxRecDepth 100000 in
theorem g271_215 : G d 271 215 ls st h Q ↔ GN d 271 215 ls h (ldR ls 0 fun a => nx 216 ls (.ref a :: st) h) Q := G_unf rfl rfl
set_option maxRecDepth 100000 in
theorem g271_216 : G d 271 216 ls st h Q ↔ GN d 271 216 ls h (pR st fun a r => ck (arr h a 9) (nx 219 ls (.int (hI h a 13) :: r) h)) Q := G_unf rfl rfl
set_option maxRecDepth 100000 in
theorem g271_219 : G d 271 219 ls st h Q ↔ GN d 271 219 ls h (pRI st fun a i r => br (a = 1000003) (ck (inb i (hS h).1) (nx 220 ls (.int ((hS h).2 i.toNatClampNeg) :: r) h)) (ck (arr h a 10 ∧ inb i (hLn h a)) (nx 220 ls (.int (hI h a i.toNatClampNeg) :: r) h))) Q := G_unf rfl rfl
set_option maxRecDepth 100000 in
theorem g271_220 : G d 271 220 ls st h Q ↔ GN d 271 220 ls h (pII st fun x y r => br (y ≤ x) (nx 274 ls r h) (nx 223 ls r h)) Q := G_unf rfl rfl
set_option maxRecDepth 100000 in
theorem g271_223 : G d 271 223 ls st h Q ↔ GN d 271 223 ls h (ldR ls 0 fun a => nx 224 ls (.ref a :: st) h) Q := G_unf rfl rfl
set_option maxRecDepth 100000 in
theorem g271_224 : G d 271 224 ls st h Q ↔ GN d 271 224 ls h (ldI ls 5 fun x => nx 226 ls (.int x :: st) h) Q := G_unf rfl rfl
set_option maxRecDepth 100000 in
theorem g271_226 : G d 271 226 ls st h Q ↔ GN d 271 226 ls h (nx 227 ls (.int (nI 4) :: st) h) Q := G_unf rfl rfl
set_option maxRecDepth 100000 in
theorem g271_227 : G d 271 227 ls st h Q ↔ GN d 271 227 ls h (pII st fun x y r => nx 228 ls (.int (x + y) :: r) h) Q := G_unf rfl rfl
set_option maxRecDepth 100000 in
theorem g271_228 : G d 271 228 ls st h Q ↔ GN d 271 228 ls h (nx 229 ls (.int (nI 2) :: st) h) Q := G_unf rfl rfl
set_option maxRecDepth 100000 in
theorem g271_229 : G d 271 229 ls st h Q ↔ GN d 271 229 ls h (ldI ls 6 fun x => nx 231 ls (.int x :: st) h) Q := G_unf rfl rfl
set_option maxRecDepth 100000 in
theorem g271_231 : G d 271 231 ls st h Q ↔ GN d 271 231 ls h (pII st fun x y r => nx 232 ls (.int (x * y) :: r) h) Q := G_unf rfl rfl
set_option maxRecDepth 100000 in
theorem g271_232 : G d 271 232 ls st h Q ↔ GN d 271 232 ls h (pII st fun x y r => nx 233 ls (.int (x + y) :: r) h) Q := G_unf rfl rfl
set_option maxRecDepth 100000 in
theorem g271_233 : G d 271 233 ls st h Q ↔ GN d 271 233 ls h (pA 1 st fun as r => pR r fun a r => ck (r.length ≤ 4 ∧ arr h a 9) (cll 270 (.ref a :: as) r)) Q := G_unf rfl rfl
set_option maxRecDepth 100000 in
theorem g271_236 : G d 271 236 ls st h Q ↔ GN d 271 236 ls h (nx 237 ls (.int (nI 1) :: st) h) Q := G_unf rfl rfl
set_option maxRecDepth 100000 in
theorem g271_237 : G d 271 237 ls st h Q ↔ GN d 271 237 ls h (pII st fun x y r => nx 238 ls (.int (x - y) :: r) h) Q := G_unf rfl rfl
set_option maxRecDepth 100000 in
theorem g271_238 : G d 271 238 ls st h Q ↔ GN d 271 238 ls h (pI st fun x r => ck (7 < ls.length) (nx 240 (st1 ls 7 (.int x)) r h)) Q := G_unf rfl rfl
set_option maxRecDepth 100000 in
theorem g271_240 : G d 271 240 ls st h Q ↔ GN d 271 240 ls h (ldR ls 0 fun a => nx 241 ls (.ref a :: st) h) Q := G_unf rfl rfl
set_option maxRecDepth 100000 in
theorem g271_241 : G d 271 241 ls st h Q ↔ GN d 271 241 ls h (pR st fun a r => ck (arr h a 9) (nx 244 ls (rv (hR h a 54) :: r) h)) Q := G_unf rfl rfl
set_option maxRecDepth 100000 in
theorem g271_244 : G d 271 244 ls st h Q ↔ GN d 271 244 ls h (nx 246 ls (.int (nI 96) :: st) h) Q := G_unf rfl rfl
set_option maxRecDepth 100000 in
theorem g271_246 : G d 271 246 ls st h Q ↔ GN d 271 246 ls h (nx 248 ls (.int (nI 12) :: st) h) Q := G_unf rfl rfl
set_option maxRecDepth 100000 in
theorem g271_248 : G d 271 248 ls st h Q ↔ GN d 271 248 ls h (ldI ls 4 fun x => nx 250 ls (.int x :: st) h) Q := G_unf rfl rfl
set_option maxRecDepth 100000 in
theorem g271_250 : G d 271 250 ls st h Q ↔ GN d 271 250 ls h (pII st fun x y r => nx 251 ls (.int (x * y) :: r) h) Q := G_unf rfl rfl
set_option maxRecDepth 100000 in
theorem g271_251 : G d 271 251 ls st h Q ↔ GN d 271 251 ls h (pII st fun x y r => nx 252 ls (.int (x + y) :: r) h) Q := G_unf rfl rfl
set_option maxRecDepth 100000 in
theorem g271_252 : G d 271 252 ls st h Q ↔ GN d 271 252 ls h (ldI ls 6 fun x => nx 254 ls (.int x :: st) h) Q := G_unf rfl rfl
set_option maxRecDepth 100000 in
theorem g271_254 : G d 271 254 ls st h Q ↔ GN d 271 254 ls h (pII st fun x y r => nx 255 ls (.int (x + y) :: r) h) Q := G_unf rfl rfl
set_option maxRecDepth 100000 in
theorem g271_255 : G d 271 255 ls st h Q ↔ GN d 271 255 ls h (ldI ls 7 fun x => nx 257 ls (.int x :: st) h) Q := G_unf rfl rfl
set_option maxRecDepth 100000 in
theorem g271_257 : G d 271 257 ls st h Q ↔ GN d 271 257 ls h (pRII st fun a i x r => ck (arr h a 10 ∧ inb i (hLn h a)) (nx 258 ls r (sI h a i.toNatClampNeg x))) Q := G_unf rfl rfl
set_option maxRecDepth 100000 in
theorem g271_258 : G d 271 258 ls st h Q ↔ GN d 271 258 ls h (ldI ls 7 fun x => nx 260 ls (.int x :: st) h) Q := G_unf rfl rfl
set_option maxRecDepth 100000 in
theorem g271_260 : G d 271 260 ls st h Q ↔ GN d 271 260 ls h (nx 263 ls (.int (nI 999) :: st) h) Q := G_unf rfl rfl
set_option maxRecDepth 100000 in
theorem g271_263 : G d 271 263 ls st h Q ↔ GN d 271 263 ls h (pII st fun x y r => br (x ≤ y) (nx 268 ls r h) (nx 266 ls r h)) Q := G_unf rfl rfl
set_option maxRecDepth 100000 in
theorem g271_266 : G d 271 266 ls st h Q ↔ GN d 271 266 ls h (nx 267 ls (.int (nI 0) :: st) h) Q := G_unf rfl rfl
set_option maxRecDepth 100000 in
theorem g271_267 : G d 271 267 ls st h Q ↔ GN d 271 267 ls h (pIe st fun x => ck (x = 0 ∨ x = 1) (rtn (some (.int x)))) Q := G_unf rfl rfl
set_option maxRecDepth 100000 in
theorem g271_268 : G d 271 268 ls st h Q ↔ GN d 271 268 ls h (ldI ls 6 fun x => nx 271 (st1 ls 6 (.int (x + (nI 1)))) st h) Q := G_unf rfl rfl
set_option maxRecDepth 100000 in
theorem g271_271 : G d 271 271 ls st h Q ↔ GN d 271 271 ls h (nx 209 ls st h) Q := G_unf rfl rfl
set_option maxRecDepth 100000 in
theorem g271_274 : G d 271 274 ls st h Q ↔ GN d 271 274 ls h (ldI ls 4 fun x => nx 277 (st1 ls 4 (.int (x + (nI 1)))) st h) Q := G_unf rfl rfl
set_option maxRecDepth 100000 in
theorem g271_277 : G d 271 277 ls st h Q ↔ GN d 271 277 ls h (nx 121 ls st h) Q := G_unf rfl rfl
set_option maxRecDepth 100000 in
theorem g271_280 : G d 271 280 ls st h Q ↔ GN d 271 280 ls h (ldR ls 0 fun a => nx 281 ls (.ref a :: st) h) Q := G_unf rfl rfl
set_option maxRecDepth 100000 in
theorem g271_281 : G d 271 281 ls st h Q ↔ GN d 271 281 ls h (nx 282 ls (.int (nI 1) :: st) h) Q := G_unf rfl rfl
set_option maxRecDepth 100000 in
theorem g271_282 : G d 271 282 ls st h Q ↔ GN d 271 282 ls h (pA 1 st fun as r => pR r fun a r => ck (r.length ≤ 4 ∧ arr h a 9) (cll 214 (.ref a :: as) r)) Q := G_unf rfl rfl
set_option maxRecDepth 100000 in
theorem g271_285 : G d 271 285 ls st h Q ↔ GN d 271 285 ls h (pI st fun x r => br (x < 0) (nx 292 ls r h) (nx 288 ls r h)) Q := G_unf rfl rfl
set_option maxRecDepth 100000 in
theorem g271_288 : G d 271 288 ls st h Q ↔ GN d 271 288 ls h (nx 289 ls (.int (nI 1) :: st) h) Q := G_unf rfl rfl
set_option maxRecDepth 100000 in
theorem g271_289 : G d 271 289 ls st h Q ↔ GN d 271 289 ls h (nx 293 ls st h) Q := G_unf rfl rfl
set_option maxRecDepth 100000 in
theorem g271_292 : G d 271 292 ls st h Q ↔ GN d 271 292 ls h (nx 293 ls (.int (nI 0) :: st) h) Q := G_unf rfl rfl
set_option maxRecDepth 100000 in
theorem g271_293 : G d 271 293 ls st h Q ↔ GN d 271 293 ls h (pIe st fun x => ck (x = 0 ∨ x = 1) (rtn (some (.int x)))) Q := G_unf rfl rfl
theorem g272_0 : G d 272 0 ls st h Q ↔ GN d 272 0 ls h (ldR ls 0 fun a => nx 1 ls (.ref a :: st) h) Q := G_unf rfl rfl
theorem g272_1 : G d 272 1 ls st h Q ↔ GN d 272 1 ls h (pR st fun a r => ck (arr h a 9) (nx 4 ls (.int (hI h a 1) :: r) h)) Q := G_unf rfl rfl
theorem g272_4 : G d 272 4 ls st h Q ↔ GN d 272 4 ls h (pI st fun x r => ck (1 < ls.length) (nx 5 (st1 ls 1 (.int x)) r h)) Q := G_unf rfl rfl
theorem g272_5 : G d 272 5 ls st h Q ↔ GN d 272 5 ls h (ldR ls 0 fun a => nx 6 ls (.ref a :: st) h) Q := G_unf rfl rfl
theorem g272_6 : G d 272 6 ls st h Q ↔ GN d 272 6 ls h (nx 7 ls (.int (nI 0) :: st) h) Q := G_unf rfl rfl
theorem g272_7 : G d 272 7 ls st h Q ↔ GN d 272 7 ls h (pRI st fun a x r => ck (arr h a 9) (nx 10 ls r (sI h a 1 x))) Q := G_unf rfl rfl
theorem g272_10 : G d 272 10 ls st h Q ↔ GN d 272 10 ls h (ldR ls 0 fun a => nx 11 ls (.ref a :: st) h) Q := G_unf rfl rfl
theorem g272_11 : G d 272 11 ls st h Q ↔ GN d 272 11 ls h (ldI ls 1 fun x => nx 12 ls (.int x :: st) h) Q := G_unf rfl rfl
theorem g272_12 : G d 272 12 ls st h Q ↔ GN d 272 12 ls h (pA 1 st fun as r => pR r fun a r => ck (r.length ≤ 4 ∧ arr h a 9) (cll 271 (.ref a :: as) r)) Q := G_unf rfl rfl
theorem g272_15 : G d 272 15 ls st h Q ↔ GN d 272 15 ls h (pI st fun x r => br (¬ x = 0) (nx 32 ls r h) (nx 18 ls r h)) Q := G_unf rfl rfl
theorem g272_18 : G d 272 18 ls st h Q ↔ GN d 272 18 ls h (ldR ls 0 fun a => nx 19 ls (.ref a :: st) h) Q := G_unf rfl rfl
theorem g272_19 : G d 272 19 ls st h Q ↔ GN d 272 19 ls h (nx 20 ls (.int (nI 5) :: st) h) Q := G_unf rfl rfl
theorem g272_20 : G d 272 20 ls st h Q ↔ GN d 272 20 ls h (pA 1 st fun as r => pR r fun a r => ck (r.length ≤ 4 ∧ arr h a 9) (cll 200 (.ref a :: as) r)) Q := G_unf rfl rfl
theorem g272_23 : G d 272 23 ls st h Q ↔ GN d 272 23 ls h (pI st fun x r => br (x < 0) (nx 30 ls r h) (nx 26 ls r h)) Q := G_unf rfl rfl
theorem g272_26 : G d 272 26 ls st h Q ↔ GN d 272 26 ls h (nx 27 ls (.int (nI 1) :: st) h) Q := G_unf rfl rfl
theorem g272_27 : G d 272 27 ls st h Q ↔ GN d 272 27 ls h (nx 31 ls st h) Q := G_unf rfl rfl
theorem g272_30 : G d 272 30 ls st h Q ↔ GN d 272 30 ls h (nx 31 ls (.int (nI 0) :: st) h) Q := G_unf rfl rfl
theorem g272_31 : G d 272 31 ls st h Q ↔ GN d 272 31 ls h (pIe st fun x => ck (x = 0 ∨ x = 1) (rtn (some (.int x)))) Q := G_unf rfl rfl
theorem g272_32 : G d 272 32 ls st h Q ↔ GN d 272 32 ls h (ldR ls 0 fun a => nx 33 ls (.ref a :: st) h) Q := G_unf rfl rfl
theorem g272_33 : G d 272 33 ls st h Q ↔ GN d 272 33 ls h (nx 34 ls (.int (nI 0) :: st) h) Q := G_unf rfl rfl
theorem g272_34 : G d 272 34 ls st h Q ↔ GN d 272 34 ls h (nx 35 ls (.int (nI 1) :: st) h) Q := G_unf rfl rfl
theorem g272_35 : G d 272 35 ls st h Q ↔ GN d 272 35 ls h (pA 2 st fun as r => pR r fun a r => ck (r.length ≤ 4 ∧ arr h a 9) (cll 207 (.ref a :: as) r)) Q := G_unf rfl rfl
theorem g272_38 : G d 272 38 ls st h Q ↔ GN d 272 38 ls h (ldR ls 0 fun a => nx 39 ls (.ref a :: st) h) Q := G_unf rfl rfl
theorem g272_39 : G d 272 39 ls st h Q ↔ GN d 272 39 ls h (nx 40 ls (.int (nI 0) :: st) h) Q := G_unf rfl rfl
theorem g272_40 : G d 272 40 ls st h Q ↔ GN d 272 40 ls h (pRI st fun a x r => ck (arr h a 9) (nx 43 ls r (sI h a 61 x))) Q := G_unf rfl rfl
theorem g272_43 : G d 272 43 ls st h Q ↔ GN d 272 43 ls h (nx 44 ls (.int (nI 1) :: st) h) Q := G_unf rfl rfl
theorem g272_44 : G d 272 44 ls st h Q ↔ GN d 272 44 ls h (pIe st fun x => ck (x = 0 ∨ x = 1) (rtn (some (.int x)))) Q := G_unf rfl rfl
end GI
