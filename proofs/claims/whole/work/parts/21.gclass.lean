section GI
variable {d : Nat} {ls st : List Value} {h : AH} {Q : Option Value → AH → Prop}
theorem g0_0 : G d 0 0 ls st h Q ↔ GN d 0 0 ls h (ldR ls 0 fun a => nx 1 ls (.ref a :: st) h) Q := G_unf rfl rfl
theorem g0_1 : G d 0 1 ls st h Q ↔ GN d 0 1 ls h (pR st fun _ r => ck (r.length ≤ 4) (nx 4 ls r h)) Q := G_unf rfl rfl
theorem g0_4 : G d 0 4 ls st h Q ↔ GN d 0 4 ls h (ldR ls 0 fun a => nx 5 ls (.ref a :: st) h) Q := G_unf rfl rfl
theorem g0_5 : G d 0 5 ls st h Q ↔ GN d 0 5 ls h (nx 7 ls (.int (nI 12) :: st) h) Q := G_unf rfl rfl
theorem g0_7 : G d 0 7 ls st h Q ↔ GN d 0 7 ls h (pI st fun z r => ck (0 ≤ z.toInt ∧ z.toInt ≤ 1000000 ∧ lay (hN h) = 10) (nx 9 ls (.ref (hN h) :: r) (alc h z.toNatClampNeg z.toNatClampNeg))) Q := G_unf rfl rfl
theorem g0_9 : G d 0 9 ls st h Q ↔ GN d 0 9 ls h (pRR st fun a x r => ck (arr h a 0) (nx 12 ls r (sR h a 0 (some x)))) Q := G_unf rfl rfl
theorem g0_12 : G d 0 12 ls st h Q ↔ GN d 0 12 ls h (ldR ls 0 fun a => nx 13 ls (.ref a :: st) h) Q := G_unf rfl rfl
theorem g0_13 : G d 0 13 ls st h Q ↔ GN d 0 13 ls h (nx 15 ls (.int (nI 12) :: st) h) Q := G_unf rfl rfl
theorem g0_15 : G d 0 15 ls st h Q ↔ GN d 0 15 ls h (pI st fun z r => ck (0 ≤ z.toInt ∧ z.toInt ≤ 1000000 ∧ lay (hN h) = 10) (nx 17 ls (.ref (hN h) :: r) (alc h z.toNatClampNeg z.toNatClampNeg))) Q := G_unf rfl rfl
theorem g0_17 : G d 0 17 ls st h Q ↔ GN d 0 17 ls h (pRR st fun a x r => ck (arr h a 0) (nx 20 ls r (sR h a 1 (some x)))) Q := G_unf rfl rfl
theorem g0_20 : G d 0 20 ls st h Q ↔ GN d 0 20 ls h (ldR ls 0 fun a => nx 21 ls (.ref a :: st) h) Q := G_unf rfl rfl
theorem g0_21 : G d 0 21 ls st h Q ↔ GN d 0 21 ls h (nx 23 ls (.int (nI 12) :: st) h) Q := G_unf rfl rfl
theorem g0_23 : G d 0 23 ls st h Q ↔ GN d 0 23 ls h (pI st fun z r => ck (0 ≤ z.toInt ∧ z.toInt ≤ 1000000 ∧ lay (hN h) = 10) (nx 25 ls (.ref (hN h) :: r) (alc h z.toNatClampNeg z.toNatClampNeg))) Q := G_unf rfl rfl
theorem g0_25 : G d 0 25 ls st h Q ↔ GN d 0 25 ls h (pRR st fun a x r => ck (arr h a 0) (nx 28 ls r (sR h a 2 (some x)))) Q := G_unf rfl rfl
theorem g0_28 : G d 0 28 ls st h Q ↔ GN d 0 28 ls h (ldR ls 0 fun a => nx 29 ls (.ref a :: st) h) Q := G_unf rfl rfl
theorem g0_29 : G d 0 29 ls st h Q ↔ GN d 0 29 ls h (nx 31 ls (.int (nI 16) :: st) h) Q := G_unf rfl rfl
theorem g0_31 : G d 0 31 ls st h Q ↔ GN d 0 31 ls h (pI st fun z r => ck (0 ≤ z.toInt ∧ z.toInt ≤ 1000000 ∧ lay (hN h) = 10) (nx 33 ls (.ref (hN h) :: r) (alc h z.toNatClampNeg z.toNatClampNeg))) Q := G_unf rfl rfl
theorem g0_33 : G d 0 33 ls st h Q ↔ GN d 0 33 ls h (pRR st fun a x r => ck (arr h a 0) (nx 36 ls r (sR h a 4 (some x)))) Q := G_unf rfl rfl
theorem g0_36 : G d 0 36 ls st h Q ↔ GN d 0 36 ls h (ldR ls 0 fun a => nx 37 ls (.ref a :: st) h) Q := G_unf rfl rfl
theorem g0_37 : G d 0 37 ls st h Q ↔ GN d 0 37 ls h (nx 39 ls (.int (nI 16) :: st) h) Q := G_unf rfl rfl
theorem g0_39 : G d 0 39 ls st h Q ↔ GN d 0 39 ls h (pI st fun z r => ck (0 ≤ z.toInt ∧ z.toInt ≤ 1000000 ∧ lay (hN h) = 10) (nx 41 ls (.ref (hN h) :: r) (alc h z.toNatClampNeg z.toNatClampNeg))) Q := G_unf rfl rfl
theorem g0_41 : G d 0 41 ls st h Q ↔ GN d 0 41 ls h (pRR st fun a x r => ck (arr h a 0) (nx 44 ls r (sR h a 5 (some x)))) Q := G_unf rfl rfl
theorem g0_44 : G d 0 44 ls st h Q ↔ GN d 0 44 ls h (ldR ls 0 fun a => nx 45 ls (.ref a :: st) h) Q := G_unf rfl rfl
theorem g0_45 : G d 0 45 ls st h Q ↔ GN d 0 45 ls h (nx 47 ls (.int (nI 8) :: st) h) Q := G_unf rfl rfl
theorem g0_47 : G d 0 47 ls st h Q ↔ GN d 0 47 ls h (pI st fun z r => ck (0 ≤ z.toInt ∧ z.toInt ≤ 1000000 ∧ lay (hN h) = 10) (nx 49 ls (.ref (hN h) :: r) (alc h z.toNatClampNeg z.toNatClampNeg))) Q := G_unf rfl rfl
theorem g0_49 : G d 0 49 ls st h Q ↔ GN d 0 49 ls h (pRR st fun a x r => ck (arr h a 0) (nx 52 ls r (sR h a 7 (some x)))) Q := G_unf rfl rfl
theorem g0_52 : G d 0 52 ls st h Q ↔ GN d 0 52 ls h (ldR ls 0 fun a => nx 53 ls (.ref a :: st) h) Q := G_unf rfl rfl
theorem g0_53 : G d 0 53 ls st h Q ↔ GN d 0 53 ls h (nx 55 ls (.int (nI 8) :: st) h) Q := G_unf rfl rfl
theorem g0_55 : G d 0 55 ls st h Q ↔ GN d 0 55 ls h (pI st fun z r => ck (0 ≤ z.toInt ∧ z.toInt ≤ 1000000 ∧ lay (hN h) = 10) (nx 57 ls (.ref (hN h) :: r) (alc h z.toNatClampNeg z.toNatClampNeg))) Q := G_unf rfl rfl
theorem g0_57 : G d 0 57 ls st h Q ↔ GN d 0 57 ls h (pRR st fun a x r => ck (arr h a 0) (nx 60 ls r (sR h a 8 (some x)))) Q := G_unf rfl rfl
theorem g0_60 : G d 0 60 ls st h Q ↔ GN d 0 60 ls h (ldR ls 0 fun a => nx 61 ls (.ref a :: st) h) Q := G_unf rfl rfl
theorem g0_61 : G d 0 61 ls st h Q ↔ GN d 0 61 ls h (nx 63 ls (.int (nI 8) :: st) h) Q := G_unf rfl rfl
theorem g0_63 : G d 0 63 ls st h Q ↔ GN d 0 63 ls h (pI st fun z r => ck (0 ≤ z.toInt ∧ z.toInt ≤ 1000000 ∧ lay (hN h) = 10) (nx 65 ls (.ref (hN h) :: r) (alc h z.toNatClampNeg z.toNatClampNeg))) Q := G_unf rfl rfl
theorem g0_65 : G d 0 65 ls st h Q ↔ GN d 0 65 ls h (pRR st fun a x r => ck (arr h a 0) (nx 68 ls r (sR h a 9 (some x)))) Q := G_unf rfl rfl
theorem g0_68 : G d 0 68 ls st h Q ↔ GN d 0 68 ls h (ldR ls 0 fun a => nx 69 ls (.ref a :: st) h) Q := G_unf rfl rfl
theorem g0_69 : G d 0 69 ls st h Q ↔ GN d 0 69 ls h (nx 71 ls (.int (nI 16) :: st) h) Q := G_unf rfl rfl
theorem g0_71 : G d 0 71 ls st h Q ↔ GN d 0 71 ls h (pI st fun z r => ck (0 ≤ z.toInt ∧ z.toInt ≤ 1000000 ∧ lay (hN h) = 10) (nx 73 ls (.ref (hN h) :: r) (alc h z.toNatClampNeg z.toNatClampNeg))) Q := G_unf rfl rfl
theorem g0_73 : G d 0 73 ls st h Q ↔ GN d 0 73 ls h (pRR st fun a x r => ck (arr h a 0) (nx 76 ls r (sR h a 11 (some x)))) Q := G_unf rfl rfl
theorem g0_76 : G d 0 76 ls st h Q ↔ GN d 0 76 ls h (ldR ls 0 fun a => nx 77 ls (.ref a :: st) h) Q := G_unf rfl rfl
theorem g0_77 : G d 0 77 ls st h Q ↔ GN d 0 77 ls h (nx 79 ls (.int (nI 16) :: st) h) Q := G_unf rfl rfl
theorem g0_79 : G d 0 79 ls st h Q ↔ GN d 0 79 ls h (pI st fun z r => ck (0 ≤ z.toInt ∧ z.toInt ≤ 1000000 ∧ lay (hN h) = 10) (nx 81 ls (.ref (hN h) :: r) (alc h z.toNatClampNeg z.toNatClampNeg))) Q := G_unf rfl rfl
theorem g0_81 : G d 0 81 ls st h Q ↔ GN d 0 81 ls h (pRR st fun a x r => ck (arr h a 0) (nx 84 ls r (sR h a 12 (some x)))) Q := G_unf rfl rfl
theorem g0_84 : G d 0 84 ls st h Q ↔ GN d 0 84 ls h (ldR ls 0 fun a => nx 85 ls (.ref a :: st) h) Q := G_unf rfl rfl
theorem g0_85 : G d 0 85 ls st h Q ↔ GN d 0 85 ls h (nx 87 ls (.int (nI 16) :: st) h) Q := G_unf rfl rfl
theorem g0_87 : G d 0 87 ls st h Q ↔ GN d 0 87 ls h (pI st fun z r => ck (0 ≤ z.toInt ∧ z.toInt ≤ 1000000 ∧ lay (hN h) = 10) (nx 89 ls (.ref (hN h) :: r) (alc h z.toNatClampNeg z.toNatClampNeg))) Q := G_unf rfl rfl
theorem g0_89 : G d 0 89 ls st h Q ↔ GN d 0 89 ls h (pRR st fun a x r => ck (arr h a 0) (nx 92 ls r (sR h a 13 (some x)))) Q := G_unf rfl rfl
theorem g0_92 : G d 0 92 ls st h Q ↔ GN d 0 92 ls h (ldR ls 0 fun a => nx 93 ls (.ref a :: st) h) Q := G_unf rfl rfl
theorem g0_93 : G d 0 93 ls st h Q ↔ GN d 0 93 ls h (nx 95 ls (.int (nI 96) :: st) h) Q := G_unf rfl rfl
theorem g0_95 : G d 0 95 ls st h Q ↔ GN d 0 95 ls h (pI st fun z r => ck (0 ≤ z.toInt ∧ z.toInt ≤ 1000000 ∧ lay (hN h) = 10) (nx 97 ls (.ref (hN h) :: r) (alc h z.toNatClampNeg z.toNatClampNeg))) Q := G_unf rfl rfl
theorem g0_97 : G d 0 97 ls st h Q ↔ GN d 0 97 ls h (pRR st fun a x r => ck (arr h a 0) (nx 100 ls r (sR h a 15 (some x)))) Q := G_unf rfl rfl
theorem g0_100 : G d 0 100 ls st h Q ↔ GN d 0 100 ls h (ldR ls 0 fun a => nx 101 ls (.ref a :: st) h) Q := G_unf rfl rfl
theorem g0_101 : G d 0 101 ls st h Q ↔ GN d 0 101 ls h (nx 103 ls (.int (nI 20) :: st) h) Q := G_unf rfl rfl
theorem g0_103 : G d 0 103 ls st h Q ↔ GN d 0 103 ls h (pRI st fun a x r => ck (arr h a 0) (nx 106 ls r (sI h a 17 x))) Q := G_unf rfl rfl
theorem g0_106 : G d 0 106 ls st h Q ↔ GN d 0 106 ls h (ldR ls 0 fun a => nx 107 ls (.ref a :: st) h) Q := G_unf rfl rfl
theorem g0_107 : G d 0 107 ls st h Q ↔ GN d 0 107 ls h (nx 110 ls (.ref 1000000 :: st) h) Q := G_unf rfl rfl
theorem g0_110 : G d 0 110 ls st h Q ↔ GN d 0 110 ls h (pRR st fun a x r => ck (arr h a 0) (nx 113 ls r (sR h a 18 (some x)))) Q := G_unf rfl rfl
theorem g0_113 : G d 0 113 ls st h Q ↔ GN d 0 113 ls h (ldR ls 0 fun a => nx 114 ls (.ref a :: st) h) Q := G_unf rfl rfl
theorem g0_114 : G d 0 114 ls st h Q ↔ GN d 0 114 ls h (nx 117 ls (.ref 1000000 :: st) h) Q := G_unf rfl rfl
theorem g0_117 : G d 0 117 ls st h Q ↔ GN d 0 117 ls h (pRR st fun a x r => ck (arr h a 0) (nx 120 ls r (sR h a 19 (some x)))) Q := G_unf rfl rfl
theorem g0_120 : G d 0 120 ls st h Q ↔ GN d 0 120 ls h (pE st (rtn none)) Q := G_unf rfl rfl
theorem g1_0 : G d 1 0 ls st h Q ↔ GN d 1 0 ls h (ldR ls 0 fun a => nx 1 ls (.ref a :: st) h) Q := G_unf rfl rfl
theorem g1_1 : G d 1 1 ls st h Q ↔ GN d 1 1 ls h (nx 2 ls (.int (nI 0) :: st) h) Q := G_unf rfl rfl
theorem g1_2 : G d 1 2 ls st h Q ↔ GN d 1 2 ls h (pRI st fun a x r => ck (arr h a 0) (nx 5 ls r (sI h a 3 x))) Q := G_unf rfl rfl
theorem g1_5 : G d 1 5 ls st h Q ↔ GN d 1 5 ls h (ldR ls 0 fun a => nx 6 ls (.ref a :: st) h) Q := G_unf rfl rfl
theorem g1_6 : G d 1 6 ls st h Q ↔ GN d 1 6 ls h (nx 7 ls (.int (nI 0) :: st) h) Q := G_unf rfl rfl
theorem g1_7 : G d 1 7 ls st h Q ↔ GN d 1 7 ls h (pRI st fun a x r => ck (arr h a 0) (nx 10 ls r (sI h a 6 x))) Q := G_unf rfl rfl
theorem g1_10 : G d 1 10 ls st h Q ↔ GN d 1 10 ls h (ldR ls 0 fun a => nx 11 ls (.ref a :: st) h) Q := G_unf rfl rfl
theorem g1_11 : G d 1 11 ls st h Q ↔ GN d 1 11 ls h (nx 12 ls (.int (nI 0) :: st) h) Q := G_unf rfl rfl
theorem g1_12 : G d 1 12 ls st h Q ↔ GN d 1 12 ls h (pRI st fun a x r => ck (arr h a 0) (nx 15 ls r (sI h a 10 x))) Q := G_unf rfl rfl
theorem g1_15 : G d 1 15 ls st h Q ↔ GN d 1 15 ls h (ldR ls 0 fun a => nx 16 ls (.ref a :: st) h) Q := G_unf rfl rfl
theorem g1_16 : G d 1 16 ls st h Q ↔ GN d 1 16 ls h (nx 17 ls (.int (nI 0) :: st) h) Q := G_unf rfl rfl
theorem g1_17 : G d 1 17 ls st h Q ↔ GN d 1 17 ls h (pRI st fun a x r => ck (arr h a 0) (nx 20 ls r (sI h a 14 x))) Q := G_unf rfl rfl
theorem g1_20 : G d 1 20 ls st h Q ↔ GN d 1 20 ls h (ldR ls 0 fun a => nx 21 ls (.ref a :: st) h) Q := G_unf rfl rfl
theorem g1_21 : G d 1 21 ls st h Q ↔ GN d 1 21 ls h (pR st fun a r => ck (arr h a 0) (nx 24 ls (rv (hR h a 15) :: r) h)) Q := G_unf rfl rfl
theorem g1_24 : G d 1 24 ls st h Q ↔ GN d 1 24 ls h (nx 25 ls (.int (-1) :: st) h) Q := G_unf rfl rfl
theorem g1_25 : G d 1 25 ls st h Q ↔ GN d 1 25 ls h (pA 2 st fun as r => ck (r.length ≤ 4) (cll 288 as r)) Q := G_unf rfl rfl
theorem g1_28 : G d 1 28 ls st h Q ↔ GN d 1 28 ls h (ldR ls 0 fun a => nx 29 ls (.ref a :: st) h) Q := G_unf rfl rfl
theorem g1_29 : G d 1 29 ls st h Q ↔ GN d 1 29 ls h (nx 30 ls (.int (nI 0) :: st) h) Q := G_unf rfl rfl
theorem g1_30 : G d 1 30 ls st h Q ↔ GN d 1 30 ls h (pRI st fun a x r => ck (arr h a 0) (nx 33 ls r (sI h a 16 x))) Q := G_unf rfl rfl
theorem g1_33 : G d 1 33 ls st h Q ↔ GN d 1 33 ls h (ldR ls 0 fun a => nx 34 ls (.ref a :: st) h) Q := G_unf rfl rfl
theorem g1_34 : G d 1 34 ls st h Q ↔ GN d 1 34 ls h (nx 36 ls (.int (nI 20) :: st) h) Q := G_unf rfl rfl
theorem g1_36 : G d 1 36 ls st h Q ↔ GN d 1 36 ls h (pRI st fun a x r => ck (arr h a 0) (nx 39 ls r (sI h a 17 x))) Q := G_unf rfl rfl
theorem g1_39 : G d 1 39 ls st h Q ↔ GN d 1 39 ls h (ldR ls 0 fun a => nx 40 ls (.ref a :: st) h) Q := G_unf rfl rfl
theorem g1_40 : G d 1 40 ls st h Q ↔ GN d 1 40 ls h (nx 43 ls (.ref 1000000 :: st) h) Q := G_unf rfl rfl
theorem g1_43 : G d 1 43 ls st h Q ↔ GN d 1 43 ls h (pRR st fun a x r => ck (arr h a 0) (nx 46 ls r (sR h a 18 (some x)))) Q := G_unf rfl rfl
theorem g1_46 : G d 1 46 ls st h Q ↔ GN d 1 46 ls h (ldR ls 0 fun a => nx 47 ls (.ref a :: st) h) Q := G_unf rfl rfl
theorem g1_47 : G d 1 47 ls st h Q ↔ GN d 1 47 ls h (nx 50 ls (.ref 1000000 :: st) h) Q := G_unf rfl rfl
theorem g1_50 : G d 1 50 ls st h Q ↔ GN d 1 50 ls h (pRR st fun a x r => ck (arr h a 0) (nx 53 ls r (sR h a 19 (some x)))) Q := G_unf rfl rfl
theorem g1_53 : G d 1 53 ls st h Q ↔ GN d 1 53 ls h (pE st (rtn none)) Q := G_unf rfl rfl
theorem g2_0 : G d 2 0 ls st h Q ↔ GN d 2 0 ls h (nx 1 ls (.int (nI 1) :: st) h) Q := G_unf rfl rfl
theorem g2_1 : G d 2 1 ls st h Q ↔ GN d 2 1 ls h (ldR ls 0 fun a => nx 2 ls (.ref a :: st) h) Q := G_unf rfl rfl
theorem g2_2 : G d 2 2 ls st h Q ↔ GN d 2 2 ls h (pR st fun a r => ck (arr h a 0) (nx 5 ls (.int (hI h a 3) :: r) h)) Q := G_unf rfl rfl
theorem g2_5 : G d 2 5 ls st h Q ↔ GN d 2 5 ls h (pII st fun x y r => nx 6 ls (.int (x <<< (y &&& 31)) :: r) h) Q := G_unf rfl rfl
theorem g2_6 : G d 2 6 ls st h Q ↔ GN d 2 6 ls h (nx 7 ls (.int (nI 1) :: st) h) Q := G_unf rfl rfl
theorem g2_7 : G d 2 7 ls st h Q ↔ GN d 2 7 ls h (pII st fun x y r => nx 8 ls (.int (x - y) :: r) h) Q := G_unf rfl rfl
theorem g2_8 : G d 2 8 ls st h Q ↔ GN d 2 8 ls h (pIe st fun x => rtn (some (.int x))) Q := G_unf rfl rfl
theorem g3_0 : G d 3 0 ls st h Q ↔ GN d 3 0 ls h (nx 1 ls (.int (nI 0) :: st) h) Q := G_unf rfl rfl
theorem g3_1 : G d 3 1 ls st h Q ↔ GN d 3 1 ls h (pI st fun x r => ck (2 < ls.length) (nx 2 (st1 ls 2 (.int x)) r h)) Q := G_unf rfl rfl
theorem g3_2 : G d 3 2 ls st h Q ↔ GN d 3 2 ls h (nx 3 ls (.int (nI 0) :: st) h) Q := G_unf rfl rfl
theorem g3_3 : G d 3 3 ls st h Q ↔ GN d 3 3 ls h (pI st fun x r => ck (3 < ls.length) (nx 4 (st1 ls 3 (.int x)) r h)) Q := G_unf rfl rfl
theorem g3_4 : G d 3 4 ls st h Q ↔ GN d 3 4 ls h (ldI ls 3 fun x => nx 5 ls (.int x :: st) h) Q := G_unf rfl rfl
theorem g3_5 : G d 3 5 ls st h Q ↔ GN d 3 5 ls h (ldR ls 0 fun a => nx 6 ls (.ref a :: st) h) Q := G_unf rfl rfl
theorem g3_6 : G d 3 6 ls st h Q ↔ GN d 3 6 ls h (pR st fun a r => ck (arr h a 0) (nx 9 ls (.int (hI h a 3) :: r) h)) Q := G_unf rfl rfl
theorem g3_9 : G d 3 9 ls st h Q ↔ GN d 3 9 ls h (pII st fun x y r => br (y ≤ x) (nx 34 ls r h) (nx 12 ls r h)) Q := G_unf rfl rfl
theorem g3_12 : G d 3 12 ls st h Q ↔ GN d 3 12 ls h (ldR ls 0 fun a => nx 13 ls (.ref a :: st) h) Q := G_unf rfl rfl
theorem g3_13 : G d 3 13 ls st h Q ↔ GN d 3 13 ls h (pR st fun a r => ck (arr h a 0) (nx 16 ls (rv (hR h a 1) :: r) h)) Q := G_unf rfl rfl
theorem g3_16 : G d 3 16 ls st h Q ↔ GN d 3 16 ls h (ldI ls 3 fun x => nx 17 ls (.int x :: st) h) Q := G_unf rfl rfl
theorem g3_17 : G d 3 17 ls st h Q ↔ GN d 3 17 ls h (pRI st fun a i r => br (a = 1000003) (ck (inb i (hS h).1) (nx 18 ls (.int ((hS h).2 i.toNatClampNeg) :: r) h)) (ck (arr h a 10 ∧ inb i (hLn h a)) (nx 18 ls (.int (hI h a i.toNatClampNeg) :: r) h))) Q := G_unf rfl rfl
theorem g3_18 : G d 3 18 ls st h Q ↔ GN d 3 18 ls h (ldI ls 1 fun x => nx 19 ls (.int x :: st) h) Q := G_unf rfl rfl
theorem g3_19 : G d 3 19 ls st h Q ↔ GN d 3 19 ls h (pII st fun x y r => br (y < x) (nx 28 ls r h) (nx 22 ls r h)) Q := G_unf rfl rfl
theorem g3_22 : G d 3 22 ls st h Q ↔ GN d 3 22 ls h (ldI ls 2 fun x => nx 23 ls (.int x :: st) h) Q := G_unf rfl rfl
theorem g3_23 : G d 3 23 ls st h Q ↔ GN d 3 23 ls h (nx 24 ls (.int (nI 1) :: st) h) Q := G_unf rfl rfl
theorem g3_24 : G d 3 24 ls st h Q ↔ GN d 3 24 ls h (ldI ls 3 fun x => nx 25 ls (.int x :: st) h) Q := G_unf rfl rfl
theorem g3_25 : G d 3 25 ls st h Q ↔ GN d 3 25 ls h (pII st fun x y r => nx 26 ls (.int (x <<< (y &&& 31)) :: r) h) Q := G_unf rfl rfl
theorem g3_26 : G d 3 26 ls st h Q ↔ GN d 3 26 ls h (pII st fun x y r => nx 27 ls (.int (x ||| y) :: r) h) Q := G_unf rfl rfl
theorem g3_27 : G d 3 27 ls st h Q ↔ GN d 3 27 ls h (pI st fun x r => ck (2 < ls.length) (nx 28 (st1 ls 2 (.int x)) r h)) Q := G_unf rfl rfl
theorem g3_28 : G d 3 28 ls st h Q ↔ GN d 3 28 ls h (ldI ls 3 fun x => nx 31 (st1 ls 3 (.int (x + (nI 1)))) st h) Q := G_unf rfl rfl
theorem g3_31 : G d 3 31 ls st h Q ↔ GN d 3 31 ls h (nx 4 ls st h) Q := G_unf rfl rfl
theorem g3_34 : G d 3 34 ls st h Q ↔ GN d 3 34 ls h (ldI ls 2 fun x => nx 35 ls (.int x :: st) h) Q := G_unf rfl rfl
theorem g3_35 : G d 3 35 ls st h Q ↔ GN d 3 35 ls h (pIe st fun x => rtn (some (.int x))) Q := G_unf rfl rfl
theorem g4_0 : G d 4 0 ls st h Q ↔ GN d 4 0 ls h (nx 1 ls (.int (nI 0) :: st) h) Q := G_unf rfl rfl
theorem g4_1 : G d 4 1 ls st h Q ↔ GN d 4 1 ls h (pI st fun x r => ck (2 < ls.length) (nx 2 (st1 ls 2 (.int x)) r h)) Q := G_unf rfl rfl
theorem g4_2 : G d 4 2 ls st h Q ↔ GN d 4 2 ls h (nx 3 ls (.int (nI 0) :: st) h) Q := G_unf rfl rfl
theorem g4_3 : G d 4 3 ls st h Q ↔ GN d 4 3 ls h (pI st fun x r => ck (3 < ls.length) (nx 4 (st1 ls 3 (.int x)) r h)) Q := G_unf rfl rfl
theorem g4_4 : G d 4 4 ls st h Q ↔ GN d 4 4 ls h (ldI ls 3 fun x => nx 5 ls (.int x :: st) h) Q := G_unf rfl rfl
theorem g4_5 : G d 4 5 ls st h Q ↔ GN d 4 5 ls h (ldR ls 0 fun a => nx 6 ls (.ref a :: st) h) Q := G_unf rfl rfl
theorem g4_6 : G d 4 6 ls st h Q ↔ GN d 4 6 ls h (pR st fun a r => ck (arr h a 0) (nx 9 ls (.int (hI h a 3) :: r) h)) Q := G_unf rfl rfl
theorem g4_9 : G d 4 9 ls st h Q ↔ GN d 4 9 ls h (pII st fun x y r => br (y ≤ x) (nx 36 ls r h) (nx 12 ls r h)) Q := G_unf rfl rfl
theorem g4_12 : G d 4 12 ls st h Q ↔ GN d 4 12 ls h (ldI ls 1 fun x => nx 13 ls (.int x :: st) h) Q := G_unf rfl rfl
theorem g4_13 : G d 4 13 ls st h Q ↔ GN d 4 13 ls h (ldI ls 3 fun x => nx 14 ls (.int x :: st) h) Q := G_unf rfl rfl
theorem g4_14 : G d 4 14 ls st h Q ↔ GN d 4 14 ls h (pII st fun x y r => nx 15 ls (.int (x >>> (y &&& 31)) :: r) h) Q := G_unf rfl rfl
theorem g4_15 : G d 4 15 ls st h Q ↔ GN d 4 15 ls h (nx 16 ls (.int (nI 1) :: st) h) Q := G_unf rfl rfl
theorem g4_16 : G d 4 16 ls st h Q ↔ GN d 4 16 ls h (pII st fun x y r => nx 17 ls (.int (x &&& y) :: r) h) Q := G_unf rfl rfl
theorem g4_17 : G d 4 17 ls st h Q ↔ GN d 4 17 ls h (nx 18 ls (.int (nI 1) :: st) h) Q := G_unf rfl rfl
theorem g4_18 : G d 4 18 ls st h Q ↔ GN d 4 18 ls h (pII st fun x y r => br (¬ x = y) (nx 30 ls r h) (nx 21 ls r h)) Q := G_unf rfl rfl
theorem g4_21 : G d 4 21 ls st h Q ↔ GN d 4 21 ls h (ldI ls 2 fun x => nx 22 ls (.int x :: st) h) Q := G_unf rfl rfl
theorem g4_22 : G d 4 22 ls st h Q ↔ GN d 4 22 ls h (ldR ls 0 fun a => nx 23 ls (.ref a :: st) h) Q := G_unf rfl rfl
theorem g4_23 : G d 4 23 ls st h Q ↔ GN d 4 23 ls h (pR st fun a r => ck (arr h a 0) (nx 26 ls (rv (hR h a 2) :: r) h)) Q := G_unf rfl rfl
theorem g4_26 : G d 4 26 ls st h Q ↔ GN d 4 26 ls h (ldI ls 3 fun x => nx 27 ls (.int x :: st) h) Q := G_unf rfl rfl
theorem g4_27 : G d 4 27 ls st h Q ↔ GN d 4 27 ls h (pRI st fun a i r => br (a = 1000003) (ck (inb i (hS h).1) (nx 28 ls (.int ((hS h).2 i.toNatClampNeg) :: r) h)) (ck (arr h a 10 ∧ inb i (hLn h a)) (nx 28 ls (.int (hI h a i.toNatClampNeg) :: r) h))) Q := G_unf rfl rfl
theorem g4_28 : G d 4 28 ls st h Q ↔ GN d 4 28 ls h (pII st fun x y r => nx 29 ls (.int (x + y) :: r) h) Q := G_unf rfl rfl
theorem g4_29 : G d 4 29 ls st h Q ↔ GN d 4 29 ls h (pI st fun x r => ck (2 < ls.length) (nx 30 (st1 ls 2 (.int x)) r h)) Q := G_unf rfl rfl
theorem g4_30 : G d 4 30 ls st h Q ↔ GN d 4 30 ls h (ldI ls 3 fun x => nx 33 (st1 ls 3 (.int (x + (nI 1)))) st h) Q := G_unf rfl rfl
theorem g4_33 : G d 4 33 ls st h Q ↔ GN d 4 33 ls h (nx 4 ls st h) Q := G_unf rfl rfl
theorem g4_36 : G d 4 36 ls st h Q ↔ GN d 4 36 ls h (ldI ls 2 fun x => nx 37 ls (.int x :: st) h) Q := G_unf rfl rfl
theorem g4_37 : G d 4 37 ls st h Q ↔ GN d 4 37 ls h (pIe st fun x => rtn (some (.int x))) Q := G_unf rfl rfl
theorem g5_0 : G d 5 0 ls st h Q ↔ GN d 5 0 ls h (nx 1 ls (.int (nI 0) :: st) h) Q := G_unf rfl rfl
theorem g5_1 : G d 5 1 ls st h Q ↔ GN d 5 1 ls h (pI st fun x r => ck (2 < ls.length) (nx 2 (st1 ls 2 (.int x)) r h)) Q := G_unf rfl rfl
theorem g5_2 : G d 5 2 ls st h Q ↔ GN d 5 2 ls h (nx 3 ls (.int (nI 0) :: st) h) Q := G_unf rfl rfl
theorem g5_3 : G d 5 3 ls st h Q ↔ GN d 5 3 ls h (pI st fun x r => ck (3 < ls.length) (nx 4 (st1 ls 3 (.int x)) r h)) Q := G_unf rfl rfl
theorem g5_4 : G d 5 4 ls st h Q ↔ GN d 5 4 ls h (ldI ls 3 fun x => nx 5 ls (.int x :: st) h) Q := G_unf rfl rfl
theorem g5_5 : G d 5 5 ls st h Q ↔ GN d 5 5 ls h (ldR ls 0 fun a => nx 6 ls (.ref a :: st) h) Q := G_unf rfl rfl
theorem g5_6 : G d 5 6 ls st h Q ↔ GN d 5 6 ls h (pR st fun a r => ck (arr h a 0) (nx 9 ls (.int (hI h a 6) :: r) h)) Q := G_unf rfl rfl
theorem g5_9 : G d 5 9 ls st h Q ↔ GN d 5 9 ls h (pII st fun x y r => br (y ≤ x) (nx 31 ls r h) (nx 12 ls r h)) Q := G_unf rfl rfl
theorem g5_12 : G d 5 12 ls st h Q ↔ GN d 5 12 ls h (ldR ls 0 fun a => nx 13 ls (.ref a :: st) h) Q := G_unf rfl rfl
theorem g5_13 : G d 5 13 ls st h Q ↔ GN d 5 13 ls h (pR st fun a r => ck (arr h a 0) (nx 16 ls (rv (hR h a 4) :: r) h)) Q := G_unf rfl rfl
theorem g5_16 : G d 5 16 ls st h Q ↔ GN d 5 16 ls h (ldI ls 3 fun x => nx 17 ls (.int x :: st) h) Q := G_unf rfl rfl
theorem g5_17 : G d 5 17 ls st h Q ↔ GN d 5 17 ls h (pRI st fun a i r => br (a = 1000003) (ck (inb i (hS h).1) (nx 18 ls (.int ((hS h).2 i.toNatClampNeg) :: r) h)) (ck (arr h a 10 ∧ inb i (hLn h a)) (nx 18 ls (.int (hI h a i.toNatClampNeg) :: r) h))) Q := G_unf rfl rfl
theorem g5_18 : G d 5 18 ls st h Q ↔ GN d 5 18 ls h (ldI ls 1 fun x => nx 19 ls (.int x :: st) h) Q := G_unf rfl rfl
theorem g5_19 : G d 5 19 ls st h Q ↔ GN d 5 19 ls h (pII st fun x y r => br (¬ x = y) (nx 25 ls r h) (nx 22 ls r h)) Q := G_unf rfl rfl
theorem g5_22 : G d 5 22 ls st h Q ↔ GN d 5 22 ls h (ldI ls 2 fun x => nx 25 (st1 ls 2 (.int (x + (nI 1)))) st h) Q := G_unf rfl rfl
theorem g5_25 : G d 5 25 ls st h Q ↔ GN d 5 25 ls h (ldI ls 3 fun x => nx 28 (st1 ls 3 (.int (x + (nI 1)))) st h) Q := G_unf rfl rfl
theorem g5_28 : G d 5 28 ls st h Q ↔ GN d 5 28 ls h (nx 4 ls st h) Q := G_unf rfl rfl
theorem g5_31 : G d 5 31 ls st h Q ↔ GN d 5 31 ls h (ldI ls 2 fun x => nx 32 ls (.int x :: st) h) Q := G_unf rfl rfl
theorem g5_32 : G d 5 32 ls st h Q ↔ GN d 5 32 ls h (pIe st fun x => rtn (some (.int x))) Q := G_unf rfl rfl
theorem g6_0 : G d 6 0 ls st h Q ↔ GN d 6 0 ls h (nx 1 ls (.int (nI 0) :: st) h) Q := G_unf rfl rfl
theorem g6_1 : G d 6 1 ls st h Q ↔ GN d 6 1 ls h (pI st fun x r => ck (2 < ls.length) (nx 2 (st1 ls 2 (.int x)) r h)) Q := G_unf rfl rfl
theorem g6_2 : G d 6 2 ls st h Q ↔ GN d 6 2 ls h (nx 3 ls (.int (nI 0) :: st) h) Q := G_unf rfl rfl
theorem g6_3 : G d 6 3 ls st h Q ↔ GN d 6 3 ls h (pI st fun x r => ck (3 < ls.length) (nx 4 (st1 ls 3 (.int x)) r h)) Q := G_unf rfl rfl
theorem g6_4 : G d 6 4 ls st h Q ↔ GN d 6 4 ls h (ldI ls 3 fun x => nx 5 ls (.int x :: st) h) Q := G_unf rfl rfl
theorem g6_5 : G d 6 5 ls st h Q ↔ GN d 6 5 ls h (ldR ls 0 fun a => nx 6 ls (.ref a :: st) h) Q := G_unf rfl rfl
theorem g6_6 : G d 6 6 ls st h Q ↔ GN d 6 6 ls h (pR st fun a r => ck (arr h a 0) (nx 9 ls (.int (hI h a 6) :: r) h)) Q := G_unf rfl rfl
theorem g6_9 : G d 6 9 ls st h Q ↔ GN d 6 9 ls h (pII st fun x y r => br (y ≤ x) (nx 43 ls r h) (nx 12 ls r h)) Q := G_unf rfl rfl
theorem g6_12 : G d 6 12 ls st h Q ↔ GN d 6 12 ls h (ldR ls 0 fun a => nx 13 ls (.ref a :: st) h) Q := G_unf rfl rfl
theorem g6_13 : G d 6 13 ls st h Q ↔ GN d 6 13 ls h (pR st fun a r => ck (arr h a 0) (nx 16 ls (rv (hR h a 5) :: r) h)) Q := G_unf rfl rfl
theorem g6_16 : G d 6 16 ls st h Q ↔ GN d 6 16 ls h (ldI ls 3 fun x => nx 17 ls (.int x :: st) h) Q := G_unf rfl rfl
theorem g6_17 : G d 6 17 ls st h Q ↔ GN d 6 17 ls h (pRI st fun a i r => br (a = 1000003) (ck (inb i (hS h).1) (nx 18 ls (.int ((hS h).2 i.toNatClampNeg) :: r) h)) (ck (arr h a 10 ∧ inb i (hLn h a)) (nx 18 ls (.int (hI h a i.toNatClampNeg) :: r) h))) Q := G_unf rfl rfl
theorem g6_18 : G d 6 18 ls st h Q ↔ GN d 6 18 ls h (ldI ls 1 fun x => nx 19 ls (.int x :: st) h) Q := G_unf rfl rfl
theorem g6_19 : G d 6 19 ls st h Q ↔ GN d 6 19 ls h (pII st fun x y r => nx 20 ls (.int (x >>> (y &&& 31)) :: r) h) Q := G_unf rfl rfl
theorem g6_20 : G d 6 20 ls st h Q ↔ GN d 6 20 ls h (nx 21 ls (.int (nI 1) :: st) h) Q := G_unf rfl rfl
theorem g6_21 : G d 6 21 ls st h Q ↔ GN d 6 21 ls h (pII st fun x y r => nx 22 ls (.int (x &&& y) :: r) h) Q := G_unf rfl rfl
theorem g6_22 : G d 6 22 ls st h Q ↔ GN d 6 22 ls h (nx 23 ls (.int (nI 1) :: st) h) Q := G_unf rfl rfl
theorem g6_23 : G d 6 23 ls st h Q ↔ GN d 6 23 ls h (pII st fun x y r => br (¬ x = y) (nx 37 ls r h) (nx 26 ls r h)) Q := G_unf rfl rfl
theorem g6_26 : G d 6 26 ls st h Q ↔ GN d 6 26 ls h (ldI ls 2 fun x => nx 27 ls (.int x :: st) h) Q := G_unf rfl rfl
theorem g6_27 : G d 6 27 ls st h Q ↔ GN d 6 27 ls h (nx 28 ls (.int (nI 1) :: st) h) Q := G_unf rfl rfl
theorem g6_28 : G d 6 28 ls st h Q ↔ GN d 6 28 ls h (ldR ls 0 fun a => nx 29 ls (.ref a :: st) h) Q := G_unf rfl rfl
theorem g6_29 : G d 6 29 ls st h Q ↔ GN d 6 29 ls h (pR st fun a r => ck (arr h a 0) (nx 32 ls (rv (hR h a 4) :: r) h)) Q := G_unf rfl rfl
theorem g6_32 : G d 6 32 ls st h Q ↔ GN d 6 32 ls h (ldI ls 3 fun x => nx 33 ls (.int x :: st) h) Q := G_unf rfl rfl
theorem g6_33 : G d 6 33 ls st h Q ↔ GN d 6 33 ls h (pRI st fun a i r => br (a = 1000003) (ck (inb i (hS h).1) (nx 34 ls (.int ((hS h).2 i.toNatClampNeg) :: r) h)) (ck (arr h a 10 ∧ inb i (hLn h a)) (nx 34 ls (.int (hI h a i.toNatClampNeg) :: r) h))) Q := G_unf rfl rfl
theorem g6_34 : G d 6 34 ls st h Q ↔ GN d 6 34 ls h (pII st fun x y r => nx 35 ls (.int (x <<< (y &&& 31)) :: r) h) Q := G_unf rfl rfl
theorem g6_35 : G d 6 35 ls st h Q ↔ GN d 6 35 ls h (pII st fun x y r => nx 36 ls (.int (x ||| y) :: r) h) Q := G_unf rfl rfl
theorem g6_36 : G d 6 36 ls st h Q ↔ GN d 6 36 ls h (pI st fun x r => ck (2 < ls.length) (nx 37 (st1 ls 2 (.int x)) r h)) Q := G_unf rfl rfl
theorem g6_37 : G d 6 37 ls st h Q ↔ GN d 6 37 ls h (ldI ls 3 fun x => nx 40 (st1 ls 3 (.int (x + (nI 1)))) st h) Q := G_unf rfl rfl
theorem g6_40 : G d 6 40 ls st h Q ↔ GN d 6 40 ls h (nx 4 ls st h) Q := G_unf rfl rfl
theorem g6_43 : G d 6 43 ls st h Q ↔ GN d 6 43 ls h (ldI ls 2 fun x => nx 44 ls (.int x :: st) h) Q := G_unf rfl rfl
theorem g6_44 : G d 6 44 ls st h Q ↔ GN d 6 44 ls h (pIe st fun x => rtn (some (.int x))) Q := G_unf rfl rfl
theorem g7_0 : G d 7 0 ls st h Q ↔ GN d 7 0 ls h (ldR ls 0 fun a => nx 1 ls (.ref a :: st) h) Q := G_unf rfl rfl
theorem g7_1 : G d 7 1 ls st h Q ↔ GN d 7 1 ls h (pR st fun a r => ck (arr h a 0) (nx 4 ls (rv (hR h a 5) :: r) h)) Q := G_unf rfl rfl
theorem g7_4 : G d 7 4 ls st h Q ↔ GN d 7 4 ls h (ldI ls 1 fun x => nx 5 ls (.int x :: st) h) Q := G_unf rfl rfl
theorem g7_5 : G d 7 5 ls st h Q ↔ GN d 7 5 ls h (pRI st fun a i r => br (a = 1000003) (ck (inb i (hS h).1) (nx 6 ls (.int ((hS h).2 i.toNatClampNeg) :: r) h)) (ck (arr h a 10 ∧ inb i (hLn h a)) (nx 6 ls (.int (hI h a i.toNatClampNeg) :: r) h))) Q := G_unf rfl rfl
theorem g7_6 : G d 7 6 ls st h Q ↔ GN d 7 6 ls h (pI st fun x r => ck (3 < ls.length) (nx 7 (st1 ls 3 (.int x)) r h)) Q := G_unf rfl rfl
theorem g7_7 : G d 7 7 ls st h Q ↔ GN d 7 7 ls h (ldI ls 2 fun x => nx 8 ls (.int x :: st) h) Q := G_unf rfl rfl
theorem g7_8 : G d 7 8 ls st h Q ↔ GN d 7 8 ls h (ldI ls 3 fun x => nx 9 ls (.int x :: st) h) Q := G_unf rfl rfl
theorem g7_9 : G d 7 9 ls st h Q ↔ GN d 7 9 ls h (pII st fun x y r => nx 10 ls (.int (x &&& y) :: r) h) Q := G_unf rfl rfl
theorem g7_10 : G d 7 10 ls st h Q ↔ GN d 7 10 ls h (ldI ls 3 fun x => nx 11 ls (.int x :: st) h) Q := G_unf rfl rfl
theorem g7_11 : G d 7 11 ls st h Q ↔ GN d 7 11 ls h (pII st fun x y r => br (¬ x = y) (nx 31 ls r h) (nx 14 ls r h)) Q := G_unf rfl rfl
theorem g7_14 : G d 7 14 ls st h Q ↔ GN d 7 14 ls h (ldI ls 2 fun x => nx 15 ls (.int x :: st) h) Q := G_unf rfl rfl
theorem g7_15 : G d 7 15 ls st h Q ↔ GN d 7 15 ls h (ldR ls 0 fun a => nx 16 ls (.ref a :: st) h) Q := G_unf rfl rfl
theorem g7_16 : G d 7 16 ls st h Q ↔ GN d 7 16 ls h (pR st fun a r => ck (arr h a 0) (nx 19 ls (rv (hR h a 4) :: r) h)) Q := G_unf rfl rfl
theorem g7_19 : G d 7 19 ls st h Q ↔ GN d 7 19 ls h (ldI ls 1 fun x => nx 20 ls (.int x :: st) h) Q := G_unf rfl rfl
theorem g7_20 : G d 7 20 ls st h Q ↔ GN d 7 20 ls h (pRI st fun a i r => br (a = 1000003) (ck (inb i (hS h).1) (nx 21 ls (.int ((hS h).2 i.toNatClampNeg) :: r) h)) (ck (arr h a 10 ∧ inb i (hLn h a)) (nx 21 ls (.int (hI h a i.toNatClampNeg) :: r) h))) Q := G_unf rfl rfl
theorem g7_21 : G d 7 21 ls st h Q ↔ GN d 7 21 ls h (pII st fun x y r => nx 22 ls (.int (x >>> (y &&& 31)) :: r) h) Q := G_unf rfl rfl
theorem g7_22 : G d 7 22 ls st h Q ↔ GN d 7 22 ls h (nx 23 ls (.int (nI 1) :: st) h) Q := G_unf rfl rfl
theorem g7_23 : G d 7 23 ls st h Q ↔ GN d 7 23 ls h (pII st fun x y r => nx 24 ls (.int (x &&& y) :: r) h) Q := G_unf rfl rfl
theorem g7_24 : G d 7 24 ls st h Q ↔ GN d 7 24 ls h (pI st fun x r => br (¬ x = 0) (nx 31 ls r h) (nx 27 ls r h)) Q := G_unf rfl rfl
theorem g7_27 : G d 7 27 ls st h Q ↔ GN d 7 27 ls h (nx 28 ls (.int (nI 1) :: st) h) Q := G_unf rfl rfl
theorem g7_28 : G d 7 28 ls st h Q ↔ GN d 7 28 ls h (nx 32 ls st h) Q := G_unf rfl rfl
theorem g7_31 : G d 7 31 ls st h Q ↔ GN d 7 31 ls h (nx 32 ls (.int (nI 0) :: st) h) Q := G_unf rfl rfl
theorem g7_32 : G d 7 32 ls st h Q ↔ GN d 7 32 ls h (pIe st fun x => ck (x = 0 ∨ x = 1) (rtn (some (.int x)))) Q := G_unf rfl rfl
theorem g8_0 : G d 8 0 ls st h Q ↔ GN d 8 0 ls h (nx 1 ls (.int (nI 0) :: st) h) Q := G_unf rfl rfl
theorem g8_1 : G d 8 1 ls st h Q ↔ GN d 8 1 ls h (pI st fun x r => ck (2 < ls.length) (nx 2 (st1 ls 2 (.int x)) r h)) Q := G_unf rfl rfl
theorem g8_2 : G d 8 2 ls st h Q ↔ GN d 8 2 ls h (ldI ls 2 fun x => nx 3 ls (.int x :: st) h) Q := G_unf rfl rfl
theorem g8_3 : G d 8 3 ls st h Q ↔ GN d 8 3 ls h (ldR ls 0 fun a => nx 4 ls (.ref a :: st) h) Q := G_unf rfl rfl
theorem g8_4 : G d 8 4 ls st h Q ↔ GN d 8 4 ls h (pR st fun a r => ck (arr h a 0) (nx 7 ls (.int (hI h a 6) :: r) h)) Q := G_unf rfl rfl
theorem g8_7 : G d 8 7 ls st h Q ↔ GN d 8 7 ls h (pII st fun x y r => br (y ≤ x) (nx 27 ls r h) (nx 10 ls r h)) Q := G_unf rfl rfl
theorem g8_10 : G d 8 10 ls st h Q ↔ GN d 8 10 ls h (ldR ls 0 fun a => nx 11 ls (.ref a :: st) h) Q := G_unf rfl rfl
theorem g8_11 : G d 8 11 ls st h Q ↔ GN d 8 11 ls h (ldI ls 2 fun x => nx 12 ls (.int x :: st) h) Q := G_unf rfl rfl
theorem g8_12 : G d 8 12 ls st h Q ↔ GN d 8 12 ls h (ldI ls 1 fun x => nx 13 ls (.int x :: st) h) Q := G_unf rfl rfl
theorem g8_13 : G d 8 13 ls st h Q ↔ GN d 8 13 ls h (pA 2 st fun as r => pR r fun a r => ck (r.length ≤ 4 ∧ arr h a 0) (cll 7 (.ref a :: as) r)) Q := G_unf rfl rfl
theorem g8_16 : G d 8 16 ls st h Q ↔ GN d 8 16 ls h (pI st fun x r => br (x = 0) (nx 21 ls r h) (nx 19 ls r h)) Q := G_unf rfl rfl
theorem g8_19 : G d 8 19 ls st h Q ↔ GN d 8 19 ls h (nx 20 ls (.int (nI 0) :: st) h) Q := G_unf rfl rfl
theorem g8_20 : G d 8 20 ls st h Q ↔ GN d 8 20 ls h (pIe st fun x => ck (x = 0 ∨ x = 1) (rtn (some (.int x)))) Q := G_unf rfl rfl
theorem g8_21 : G d 8 21 ls st h Q ↔ GN d 8 21 ls h (ldI ls 2 fun x => nx 24 (st1 ls 2 (.int (x + (nI 1)))) st h) Q := G_unf rfl rfl
theorem g8_24 : G d 8 24 ls st h Q ↔ GN d 8 24 ls h (nx 2 ls st h) Q := G_unf rfl rfl
theorem g8_27 : G d 8 27 ls st h Q ↔ GN d 8 27 ls h (nx 28 ls (.int (nI 1) :: st) h) Q := G_unf rfl rfl
theorem g8_28 : G d 8 28 ls st h Q ↔ GN d 8 28 ls h (pIe st fun x => ck (x = 0 ∨ x = 1) (rtn (some (.int x)))) Q := G_unf rfl rfl
theorem g9_0 : G d 9 0 ls st h Q ↔ GN d 9 0 ls h (ldI ls 1 fun x => nx 1 ls (.int x :: st) h) Q := G_unf rfl rfl
theorem g9_1 : G d 9 1 ls st h Q ↔ GN d 9 1 ls h (pI st fun x r => ck (2 < ls.length) (nx 2 (st1 ls 2 (.int x)) r h)) Q := G_unf rfl rfl
theorem g9_2 : G d 9 2 ls st h Q ↔ GN d 9 2 ls h (nx 3 ls (.int (nI 0) :: st) h) Q := G_unf rfl rfl
theorem g9_3 : G d 9 3 ls st h Q ↔ GN d 9 3 ls h (pI st fun x r => ck (3 < ls.length) (nx 4 (st1 ls 3 (.int x)) r h)) Q := G_unf rfl rfl
theorem g9_4 : G d 9 4 ls st h Q ↔ GN d 9 4 ls h (ldI ls 3 fun x => nx 5 ls (.int x :: st) h) Q := G_unf rfl rfl
theorem g9_5 : G d 9 5 ls st h Q ↔ GN d 9 5 ls h (nx 7 ls (.int (nI 12) :: st) h) Q := G_unf rfl rfl
theorem g9_7 : G d 9 7 ls st h Q ↔ GN d 9 7 ls h (pII st fun x y r => br (y ≤ x) (nx 68 ls r h) (nx 10 ls r h)) Q := G_unf rfl rfl
theorem g9_10 : G d 9 10 ls st h Q ↔ GN d 9 10 ls h (ldI ls 2 fun x => nx 11 ls (.int x :: st) h) Q := G_unf rfl rfl
theorem g9_11 : G d 9 11 ls st h Q ↔ GN d 9 11 ls h (pI st fun x r => ck (4 < ls.length) (nx 13 (st1 ls 4 (.int x)) r h)) Q := G_unf rfl rfl
theorem g9_13 : G d 9 13 ls st h Q ↔ GN d 9 13 ls h (nx 14 ls (.int (nI 0) :: st) h) Q := G_unf rfl rfl
theorem g9_14 : G d 9 14 ls st h Q ↔ GN d 9 14 ls h (pI st fun x r => ck (5 < ls.length) (nx 16 (st1 ls 5 (.int x)) r h)) Q := G_unf rfl rfl
theorem g9_16 : G d 9 16 ls st h Q ↔ GN d 9 16 ls h (ldI ls 5 fun x => nx 18 ls (.int x :: st) h) Q := G_unf rfl rfl
theorem g9_18 : G d 9 18 ls st h Q ↔ GN d 9 18 ls h (ldR ls 0 fun a => nx 19 ls (.ref a :: st) h) Q := G_unf rfl rfl
theorem g9_19 : G d 9 19 ls st h Q ↔ GN d 9 19 ls h (pR st fun a r => ck (arr h a 0) (nx 22 ls (.int (hI h a 6) :: r) h)) Q := G_unf rfl rfl
theorem g9_22 : G d 9 22 ls st h Q ↔ GN d 9 22 ls h (pII st fun x y r => br (y ≤ x) (nx 53 ls r h) (nx 25 ls r h)) Q := G_unf rfl rfl
theorem g9_25 : G d 9 25 ls st h Q ↔ GN d 9 25 ls h (ldR ls 0 fun a => nx 26 ls (.ref a :: st) h) Q := G_unf rfl rfl
theorem g9_26 : G d 9 26 ls st h Q ↔ GN d 9 26 ls h (ldI ls 5 fun x => nx 28 ls (.int x :: st) h) Q := G_unf rfl rfl
theorem g9_28 : G d 9 28 ls st h Q ↔ GN d 9 28 ls h (ldI ls 2 fun x => nx 29 ls (.int x :: st) h) Q := G_unf rfl rfl
theorem g9_29 : G d 9 29 ls st h Q ↔ GN d 9 29 ls h (pA 2 st fun as r => pR r fun a r => ck (r.length ≤ 4 ∧ arr h a 0) (cll 7 (.ref a :: as) r)) Q := G_unf rfl rfl
theorem g9_32 : G d 9 32 ls st h Q ↔ GN d 9 32 ls h (pI st fun x r => br (x = 0) (nx 47 ls r h) (nx 35 ls r h)) Q := G_unf rfl rfl
theorem g9_35 : G d 9 35 ls st h Q ↔ GN d 9 35 ls h (ldI ls 2 fun x => nx 36 ls (.int x :: st) h) Q := G_unf rfl rfl
theorem g9_36 : G d 9 36 ls st h Q ↔ GN d 9 36 ls h (nx 37 ls (.int (nI 1) :: st) h) Q := G_unf rfl rfl
theorem g9_37 : G d 9 37 ls st h Q ↔ GN d 9 37 ls h (ldR ls 0 fun a => nx 38 ls (.ref a :: st) h) Q := G_unf rfl rfl
theorem g9_38 : G d 9 38 ls st h Q ↔ GN d 9 38 ls h (pR st fun a r => ck (arr h a 0) (nx 41 ls (rv (hR h a 4) :: r) h)) Q := G_unf rfl rfl
theorem g9_41 : G d 9 41 ls st h Q ↔ GN d 9 41 ls h (ldI ls 5 fun x => nx 43 ls (.int x :: st) h) Q := G_unf rfl rfl
theorem g9_43 : G d 9 43 ls st h Q ↔ GN d 9 43 ls h (pRI st fun a i r => br (a = 1000003) (ck (inb i (hS h).1) (nx 44 ls (.int ((hS h).2 i.toNatClampNeg) :: r) h)) (ck (arr h a 10 ∧ inb i (hLn h a)) (nx 44 ls (.int (hI h a i.toNatClampNeg) :: r) h))) Q := G_unf rfl rfl
theorem g9_44 : G d 9 44 ls st h Q ↔ GN d 9 44 ls h (pII st fun x y r => nx 45 ls (.int (x <<< (y &&& 31)) :: r) h) Q := G_unf rfl rfl
theorem g9_45 : G d 9 45 ls st h Q ↔ GN d 9 45 ls h (pII st fun x y r => nx 46 ls (.int (x ||| y) :: r) h) Q := G_unf rfl rfl
theorem g9_46 : G d 9 46 ls st h Q ↔ GN d 9 46 ls h (pI st fun x r => ck (2 < ls.length) (nx 47 (st1 ls 2 (.int x)) r h)) Q := G_unf rfl rfl
theorem g9_47 : G d 9 47 ls st h Q ↔ GN d 9 47 ls h (ldI ls 5 fun x => nx 50 (st1 ls 5 (.int (x + (nI 1)))) st h) Q := G_unf rfl rfl
theorem g9_50 : G d 9 50 ls st h Q ↔ GN d 9 50 ls h (nx 16 ls st h) Q := G_unf rfl rfl
theorem g9_53 : G d 9 53 ls st h Q ↔ GN d 9 53 ls h (ldI ls 2 fun x => nx 54 ls (.int x :: st) h) Q := G_unf rfl rfl
theorem g9_54 : G d 9 54 ls st h Q ↔ GN d 9 54 ls h (ldI ls 4 fun x => nx 56 ls (.int x :: st) h) Q := G_unf rfl rfl
theorem g9_56 : G d 9 56 ls st h Q ↔ GN d 9 56 ls h (pII st fun x y r => br (¬ x = y) (nx 62 ls r h) (nx 59 ls r h)) Q := G_unf rfl rfl
theorem g9_59 : G d 9 59 ls st h Q ↔ GN d 9 59 ls h (nx 68 ls st h) Q := G_unf rfl rfl
theorem g9_62 : G d 9 62 ls st h Q ↔ GN d 9 62 ls h (ldI ls 3 fun x => nx 65 (st1 ls 3 (.int (x + (nI 1)))) st h) Q := G_unf rfl rfl
theorem g9_65 : G d 9 65 ls st h Q ↔ GN d 9 65 ls h (nx 4 ls st h) Q := G_unf rfl rfl
theorem g9_68 : G d 9 68 ls st h Q ↔ GN d 9 68 ls h (ldI ls 2 fun x => nx 69 ls (.int x :: st) h) Q := G_unf rfl rfl
theorem g9_69 : G d 9 69 ls st h Q ↔ GN d 9 69 ls h (pIe st fun x => rtn (some (.int x))) Q := G_unf rfl rfl
theorem g10_0 : G d 10 0 ls st h Q ↔ GN d 10 0 ls h (ldR ls 0 fun a => nx 1 ls (.ref a :: st) h) Q := G_unf rfl rfl
theorem g10_1 : G d 10 1 ls st h Q ↔ GN d 10 1 ls h (pR st fun _ r => ck (r.length ≤ 4) (nx 4 ls r h)) Q := G_unf rfl rfl
theorem g10_4 : G d 10 4 ls st h Q ↔ GN d 10 4 ls h (ldR ls 0 fun a => nx 5 ls (.ref a :: st) h) Q := G_unf rfl rfl
theorem g10_5 : G d 10 5 ls st h Q ↔ GN d 10 5 ls h (ck (lay (hN h) = 0) (nx 8 ls (.ref (hN h) :: st) (alc h 0 20))) Q := G_unf rfl rfl
theorem g10_8 : G d 10 8 ls st h Q ↔ GN d 10 8 ls h (p1 st fun v r => nx 9 ls (v :: v :: r) h) Q := G_unf rfl rfl
theorem g10_9 : G d 10 9 ls st h Q ↔ GN d 10 9 ls h (pA 0 st fun as r => pR r fun a r => ck (r.length ≤ 4 ∧ arr h a 0) (cll 0 (.ref a :: as) r)) Q := G_unf rfl rfl
theorem g10_12 : G d 10 12 ls st h Q ↔ GN d 10 12 ls h (pRR st fun a x r => ck (arr h a 1) (nx 15 ls r (sR h a 0 (some x)))) Q := G_unf rfl rfl
theorem g10_15 : G d 10 15 ls st h Q ↔ GN d 10 15 ls h (ldR ls 0 fun a => nx 16 ls (.ref a :: st) h) Q := G_unf rfl rfl
theorem g10_16 : G d 10 16 ls st h Q ↔ GN d 10 16 ls h (ck (lay (hN h) = 7) (nx 19 ls (.ref (hN h) :: st) (alc h 0 10))) Q := G_unf rfl rfl
theorem g10_19 : G d 10 19 ls st h Q ↔ GN d 10 19 ls h (p1 st fun v r => nx 20 ls (v :: v :: r) h) Q := G_unf rfl rfl
theorem g10_20 : G d 10 20 ls st h Q ↔ GN d 10 20 ls h (pA 0 st fun as r => pR r fun a r => ck (r.length ≤ 4 ∧ arr h a 7) (cll 98 (.ref a :: as) r)) Q := G_unf rfl rfl
theorem g10_23 : G d 10 23 ls st h Q ↔ GN d 10 23 ls h (pRR st fun a x r => ck (arr h a 1) (nx 26 ls r (sR h a 1 (some x)))) Q := G_unf rfl rfl
theorem g10_26 : G d 10 26 ls st h Q ↔ GN d 10 26 ls h (pE st (rtn none)) Q := G_unf rfl rfl
theorem g11_0 : G d 11 0 ls st h Q ↔ GN d 11 0 ls h (ldR ls 1 fun a => nx 1 ls (.ref a :: st) h) Q := G_unf rfl rfl
theorem g11_1 : G d 11 1 ls st h Q ↔ GN d 11 1 ls h (pA 0 st fun as r => pR r fun a r => ck (r.length ≤ 4 ∧ arr h a 6) (cll 84 (.ref a :: as) r)) Q := G_unf rfl rfl
theorem g11_4 : G d 11 4 ls st h Q ↔ GN d 11 4 ls h (ldR ls 0 fun a => nx 5 ls (.ref a :: st) h) Q := G_unf rfl rfl
theorem g11_5 : G d 11 5 ls st h Q ↔ GN d 11 5 ls h (pR st fun a r => ck (arr h a 1) (nx 8 ls (rv (hR h a 0) :: r) h)) Q := G_unf rfl rfl
theorem g11_8 : G d 11 8 ls st h Q ↔ GN d 11 8 ls h (pR st fun a r => ck (arr h a 0) (nx 11 ls (rv (hR h a 15) :: r) h)) Q := G_unf rfl rfl
theorem g11_11 : G d 11 11 ls st h Q ↔ GN d 11 11 ls h (nx 12 ls (.int (nI 0) :: st) h) Q := G_unf rfl rfl
theorem g11_12 : G d 11 12 ls st h Q ↔ GN d 11 12 ls h (ldR ls 1 fun a => nx 13 ls (.ref a :: st) h) Q := G_unf rfl rfl
theorem g11_13 : G d 11 13 ls st h Q ↔ GN d 11 13 ls h (pR st fun a r => ck (arr h a 6) (nx 16 ls (rv (hR h a 3) :: r) h)) Q := G_unf rfl rfl
theorem g11_16 : G d 11 16 ls st h Q ↔ GN d 11 16 ls h (nx 17 ls (.int (nI 0) :: st) h) Q := G_unf rfl rfl
theorem g11_17 : G d 11 17 ls st h Q ↔ GN d 11 17 ls h (nx 19 ls (.int (nI 96) :: st) h) Q := G_unf rfl rfl
theorem g11_19 : G d 11 19 ls st h Q ↔ GN d 11 19 ls h (pCopy st fun a0 sp a dp z r => ck (r.length ≤ 4 ∧ arr h a0 10 ∧ arr h a 10 ∧ (0 ≤ sp.toInt ∧ 0 ≤ dp.toInt ∧ 0 ≤ z.toInt) ∧ sp.toInt + z.toInt ≤ hLn h a0 ∧ dp.toInt + z.toInt ≤ hLn h a) (nx 22 ls r (sA h a (va_cpy (hI h a0) (hI h a) sp.toNatClampNeg dp.toNatClampNeg z.toNatClampNeg)))) Q := G_unf rfl rfl
theorem g11_22 : G d 11 22 ls st h Q ↔ GN d 11 22 ls h (nx 23 ls (.int (nI 0) :: st) h) Q := G_unf rfl rfl
theorem g11_23 : G d 11 23 ls st h Q ↔ GN d 11 23 ls h (pI st fun x r => ck (2 < ls.length) (nx 24 (st1 ls 2 (.int x)) r h)) Q := G_unf rfl rfl
theorem g11_24 : G d 11 24 ls st h Q ↔ GN d 11 24 ls h (ldI ls 2 fun x => nx 25 ls (.int x :: st) h) Q := G_unf rfl rfl
theorem g11_25 : G d 11 25 ls st h Q ↔ GN d 11 25 ls h (ldR ls 0 fun a => nx 26 ls (.ref a :: st) h) Q := G_unf rfl rfl
theorem g11_26 : G d 11 26 ls st h Q ↔ GN d 11 26 ls h (pR st fun a r => ck (arr h a 1) (nx 29 ls (rv (hR h a 0) :: r) h)) Q := G_unf rfl rfl
theorem g11_29 : G d 11 29 ls st h Q ↔ GN d 11 29 ls h (pR st fun a r => ck (arr h a 0) (nx 32 ls (.int (hI h a 10) :: r) h)) Q := G_unf rfl rfl
theorem g11_32 : G d 11 32 ls st h Q ↔ GN d 11 32 ls h (pII st fun x y r => br (y ≤ x) (nx 56 ls r h) (nx 35 ls r h)) Q := G_unf rfl rfl
theorem g11_35 : G d 11 35 ls st h Q ↔ GN d 11 35 ls h (ldR ls 1 fun a => nx 36 ls (.ref a :: st) h) Q := G_unf rfl rfl
theorem g11_36 : G d 11 36 ls st h Q ↔ GN d 11 36 ls h (pR st fun a r => ck (arr h a 6) (nx 39 ls (rv (hR h a 2) :: r) h)) Q := G_unf rfl rfl
theorem g11_39 : G d 11 39 ls st h Q ↔ GN d 11 39 ls h (ldI ls 2 fun x => nx 40 ls (.int x :: st) h) Q := G_unf rfl rfl
theorem g11_40 : G d 11 40 ls st h Q ↔ GN d 11 40 ls h (ldR ls 0 fun a => nx 41 ls (.ref a :: st) h) Q := G_unf rfl rfl
theorem g11_41 : G d 11 41 ls st h Q ↔ GN d 11 41 ls h (pR st fun a r => ck (arr h a 1) (nx 44 ls (rv (hR h a 0) :: r) h)) Q := G_unf rfl rfl
theorem g11_44 : G d 11 44 ls st h Q ↔ GN d 11 44 ls h (pR st fun a r => ck (arr h a 0) (nx 47 ls (rv (hR h a 9) :: r) h)) Q := G_unf rfl rfl
theorem g11_47 : G d 11 47 ls st h Q ↔ GN d 11 47 ls h (ldI ls 2 fun x => nx 48 ls (.int x :: st) h) Q := G_unf rfl rfl
theorem g11_48 : G d 11 48 ls st h Q ↔ GN d 11 48 ls h (pRI st fun a i r => br (a = 1000003) (ck (inb i (hS h).1) (nx 49 ls (.int ((hS h).2 i.toNatClampNeg) :: r) h)) (ck (arr h a 10 ∧ inb i (hLn h a)) (nx 49 ls (.int (hI h a i.toNatClampNeg) :: r) h))) Q := G_unf rfl rfl
theorem g11_49 : G d 11 49 ls st h Q ↔ GN d 11 49 ls h (pRII st fun a i x r => ck (arr h a 10 ∧ inb i (hLn h a)) (nx 50 ls r (sI h a i.toNatClampNeg x))) Q := G_unf rfl rfl
theorem g11_50 : G d 11 50 ls st h Q ↔ GN d 11 50 ls h (ldI ls 2 fun x => nx 53 (st1 ls 2 (.int (x + (nI 1)))) st h) Q := G_unf rfl rfl
theorem g11_53 : G d 11 53 ls st h Q ↔ GN d 11 53 ls h (nx 24 ls st h) Q := G_unf rfl rfl
theorem g11_56 : G d 11 56 ls st h Q ↔ GN d 11 56 ls h (ldR ls 1 fun a => nx 57 ls (.ref a :: st) h) Q := G_unf rfl rfl
theorem g11_57 : G d 11 57 ls st h Q ↔ GN d 11 57 ls h (nx 58 ls (.int (-1) :: st) h) Q := G_unf rfl rfl
theorem g11_58 : G d 11 58 ls st h Q ↔ GN d 11 58 ls h (pRI st fun a x r => ck (arr h a 6) (nx 61 ls r (sI h a 0 x))) Q := G_unf rfl rfl
theorem g11_61 : G d 11 61 ls st h Q ↔ GN d 11 61 ls h (ldR ls 0 fun a => nx 62 ls (.ref a :: st) h) Q := G_unf rfl rfl
theorem g11_62 : G d 11 62 ls st h Q ↔ GN d 11 62 ls h (ldR ls 1 fun a => nx 63 ls (.ref a :: st) h) Q := G_unf rfl rfl
theorem g11_63 : G d 11 63 ls st h Q ↔ GN d 11 63 ls h (pA 1 st fun as r => pR r fun a r => ck (r.length ≤ 4 ∧ arr h a 1) (cll 12 (.ref a :: as) r)) Q := G_unf rfl rfl
theorem g11_66 : G d 11 66 ls st h Q ↔ GN d 11 66 ls h (pE st (rtn none)) Q := G_unf rfl rfl
theorem g12_0 : G d 12 0 ls st h Q ↔ GN d 12 0 ls h (ldR ls 1 fun a => nx 1 ls (.ref a :: st) h) Q := G_unf rfl rfl
theorem g12_1 : G d 12 1 ls st h Q ↔ GN d 12 1 ls h (p1 st fun v r => nx 2 ls (v :: v :: r) h) Q := G_unf rfl rfl
theorem g12_2 : G d 12 2 ls st h Q ↔ GN d 12 2 ls h (pR st fun a r => ck (arr h a 6) (nx 5 ls (.int (hI h a 0) :: r) h)) Q := G_unf rfl rfl
theorem g12_5 : G d 12 5 ls st h Q ↔ GN d 12 5 ls h (nx 6 ls (.int (nI 1) :: st) h) Q := G_unf rfl rfl
theorem g12_6 : G d 12 6 ls st h Q ↔ GN d 12 6 ls h (pII st fun x y r => nx 7 ls (.int (x + y) :: r) h) Q := G_unf rfl rfl
theorem g12_7 : G d 12 7 ls st h Q ↔ GN d 12 7 ls h (pRI st fun a x r => ck (arr h a 6) (nx 10 ls r (sI h a 0 x))) Q := G_unf rfl rfl
theorem g12_10 : G d 12 10 ls st h Q ↔ GN d 12 10 ls h (ldR ls 1 fun a => nx 11 ls (.ref a :: st) h) Q := G_unf rfl rfl
theorem g12_11 : G d 12 11 ls st h Q ↔ GN d 12 11 ls h (pA 0 st fun as r => pR r fun a r => ck (r.length ≤ 4 ∧ arr h a 6) (cll 90 (.ref a :: as) r)) Q := G_unf rfl rfl
theorem g12_14 : G d 12 14 ls st h Q ↔ GN d 12 14 ls h (ldR ls 0 fun a => nx 15 ls (.ref a :: st) h) Q := G_unf rfl rfl
theorem g12_15 : G d 12 15 ls st h Q ↔ GN d 12 15 ls h (pR st fun a r => ck (arr h a 1) (nx 18 ls (rv (hR h a 0) :: r) h)) Q := G_unf rfl rfl
theorem g12_18 : G d 12 18 ls st h Q ↔ GN d 12 18 ls h (ldR ls 1 fun a => nx 19 ls (.ref a :: st) h) Q := G_unf rfl rfl
theorem g12_19 : G d 12 19 ls st h Q ↔ GN d 12 19 ls h (pR st fun a r => ck (arr h a 6) (nx 22 ls (.int (hI h a 0) :: r) h)) Q := G_unf rfl rfl
theorem g12_22 : G d 12 22 ls st h Q ↔ GN d 12 22 ls h (pA 1 st fun as r => pR r fun a r => ck (r.length ≤ 4 ∧ arr h a 0) (cll 3 (.ref a :: as) r)) Q := G_unf rfl rfl
theorem g12_25 : G d 12 25 ls st h Q ↔ GN d 12 25 ls h (pI st fun x r => ck (2 < ls.length) (nx 26 (st1 ls 2 (.int x)) r h)) Q := G_unf rfl rfl
theorem g12_26 : G d 12 26 ls st h Q ↔ GN d 12 26 ls h (nx 27 ls (.int (nI 0) :: st) h) Q := G_unf rfl rfl
theorem g12_27 : G d 12 27 ls st h Q ↔ GN d 12 27 ls h (pI st fun x r => ck (3 < ls.length) (nx 28 (st1 ls 3 (.int x)) r h)) Q := G_unf rfl rfl
theorem g12_28 : G d 12 28 ls st h Q ↔ GN d 12 28 ls h (ldI ls 3 fun x => nx 29 ls (.int x :: st) h) Q := G_unf rfl rfl
theorem g12_29 : G d 12 29 ls st h Q ↔ GN d 12 29 ls h (ldR ls 0 fun a => nx 30 ls (.ref a :: st) h) Q := G_unf rfl rfl
theorem g12_30 : G d 12 30 ls st h Q ↔ GN d 12 30 ls h (pR st fun a r => ck (arr h a 1) (nx 33 ls (rv (hR h a 0) :: r) h)) Q := G_unf rfl rfl
theorem g12_33 : G d 12 33 ls st h Q ↔ GN d 12 33 ls h (pR st fun a r => ck (arr h a 0) (nx 36 ls (.int (hI h a 10) :: r) h)) Q := G_unf rfl rfl
theorem g12_36 : G d 12 36 ls st h Q ↔ GN d 12 36 ls h (pII st fun x y r => br (y ≤ x) (nx 64 ls r h) (nx 39 ls r h)) Q := G_unf rfl rfl
theorem g12_39 : G d 12 39 ls st h Q ↔ GN d 12 39 ls h (ldR ls 1 fun a => nx 40 ls (.ref a :: st) h) Q := G_unf rfl rfl
theorem g12_40 : G d 12 40 ls st h Q ↔ GN d 12 40 ls h (pR st fun a r => ck (arr h a 6) (nx 43 ls (rv (hR h a 1) :: r) h)) Q := G_unf rfl rfl
theorem g12_43 : G d 12 43 ls st h Q ↔ GN d 12 43 ls h (ldI ls 3 fun x => nx 44 ls (.int x :: st) h) Q := G_unf rfl rfl
theorem g12_44 : G d 12 44 ls st h Q ↔ GN d 12 44 ls h (p11 st fun v w r => nx 45 ls (v :: w :: v :: w :: r) h) Q := G_unf rfl rfl
theorem g12_45 : G d 12 45 ls st h Q ↔ GN d 12 45 ls h (pRI st fun a i r => br (a = 1000003) (ck (inb i (hS h).1) (nx 46 ls (.int ((hS h).2 i.toNatClampNeg) :: r) h)) (ck (arr h a 10 ∧ inb i (hLn h a)) (nx 46 ls (.int (hI h a i.toNatClampNeg) :: r) h))) Q := G_unf rfl rfl
theorem g12_46 : G d 12 46 ls st h Q ↔ GN d 12 46 ls h (ldI ls 2 fun x => nx 47 ls (.int x :: st) h) Q := G_unf rfl rfl
theorem g12_47 : G d 12 47 ls st h Q ↔ GN d 12 47 ls h (ldR ls 1 fun a => nx 48 ls (.ref a :: st) h) Q := G_unf rfl rfl
theorem g12_48 : G d 12 48 ls st h Q ↔ GN d 12 48 ls h (pR st fun a r => ck (arr h a 6) (nx 51 ls (rv (hR h a 4) :: r) h)) Q := G_unf rfl rfl
theorem g12_51 : G d 12 51 ls st h Q ↔ GN d 12 51 ls h (ldI ls 3 fun x => nx 52 ls (.int x :: st) h) Q := G_unf rfl rfl
theorem g12_52 : G d 12 52 ls st h Q ↔ GN d 12 52 ls h (pRI st fun a i r => br (a = 1000003) (ck (inb i (hS h).1) (nx 53 ls (.int ((hS h).2 i.toNatClampNeg) :: r) h)) (ck (arr h a 10 ∧ inb i (hLn h a)) (nx 53 ls (.int (hI h a i.toNatClampNeg) :: r) h))) Q := G_unf rfl rfl
theorem g12_53 : G d 12 53 ls st h Q ↔ GN d 12 53 ls h (nx 54 ls (.int (-1) :: st) h) Q := G_unf rfl rfl
theorem g12_54 : G d 12 54 ls st h Q ↔ GN d 12 54 ls h (pII st fun x y r => nx 55 ls (.int (x ^^^ y) :: r) h) Q := G_unf rfl rfl
theorem g12_55 : G d 12 55 ls st h Q ↔ GN d 12 55 ls h (pII st fun x y r => nx 56 ls (.int (x &&& y) :: r) h) Q := G_unf rfl rfl
theorem g12_56 : G d 12 56 ls st h Q ↔ GN d 12 56 ls h (pII st fun x y r => nx 57 ls (.int (x ||| y) :: r) h) Q := G_unf rfl rfl
theorem g12_57 : G d 12 57 ls st h Q ↔ GN d 12 57 ls h (pRII st fun a i x r => ck (arr h a 10 ∧ inb i (hLn h a)) (nx 58 ls r (sI h a i.toNatClampNeg x))) Q := G_unf rfl rfl
theorem g12_58 : G d 12 58 ls st h Q ↔ GN d 12 58 ls h (ldI ls 3 fun x => nx 61 (st1 ls 3 (.int (x + (nI 1)))) st h) Q := G_unf rfl rfl
theorem g12_61 : G d 12 61 ls st h Q ↔ GN d 12 61 ls h (nx 28 ls st h) Q := G_unf rfl rfl
theorem g12_64 : G d 12 64 ls st h Q ↔ GN d 12 64 ls h (nx 65 ls (.int (nI 0) :: st) h) Q := G_unf rfl rfl
theorem g12_65 : G d 12 65 ls st h Q ↔ GN d 12 65 ls h (pI st fun x r => ck (3 < ls.length) (nx 66 (st1 ls 3 (.int x)) r h)) Q := G_unf rfl rfl
theorem g12_66 : G d 12 66 ls st h Q ↔ GN d 12 66 ls h (ldI ls 3 fun x => nx 67 ls (.int x :: st) h) Q := G_unf rfl rfl
theorem g12_67 : G d 12 67 ls st h Q ↔ GN d 12 67 ls h (ldR ls 0 fun a => nx 68 ls (.ref a :: st) h) Q := G_unf rfl rfl
theorem g12_68 : G d 12 68 ls st h Q ↔ GN d 12 68 ls h (pR st fun a r => ck (arr h a 1) (nx 71 ls (rv (hR h a 0) :: r) h)) Q := G_unf rfl rfl
theorem g12_71 : G d 12 71 ls st h Q ↔ GN d 12 71 ls h (pR st fun a r => ck (arr h a 0) (nx 74 ls (.int (hI h a 10) :: r) h)) Q := G_unf rfl rfl
theorem g12_74 : G d 12 74 ls st h Q ↔ GN d 12 74 ls h (pII st fun x y r => br (y ≤ x) (nx 89 ls r h) (nx 77 ls r h)) Q := G_unf rfl rfl
theorem g12_77 : G d 12 77 ls st h Q ↔ GN d 12 77 ls h (ldR ls 0 fun a => nx 78 ls (.ref a :: st) h) Q := G_unf rfl rfl
theorem g12_78 : G d 12 78 ls st h Q ↔ GN d 12 78 ls h (ldR ls 1 fun a => nx 79 ls (.ref a :: st) h) Q := G_unf rfl rfl
theorem g12_79 : G d 12 79 ls st h Q ↔ GN d 12 79 ls h (ldI ls 3 fun x => nx 80 ls (.int x :: st) h) Q := G_unf rfl rfl
theorem g12_80 : G d 12 80 ls st h Q ↔ GN d 12 80 ls h (pA 2 st fun as r => pR r fun a r => ck (r.length ≤ 4 ∧ arr h a 1) (cll 15 (.ref a :: as) r)) Q := G_unf rfl rfl
theorem g12_83 : G d 12 83 ls st h Q ↔ GN d 12 83 ls h (ldI ls 3 fun x => nx 86 (st1 ls 3 (.int (x + (nI 1)))) st h) Q := G_unf rfl rfl
theorem g12_86 : G d 12 86 ls st h Q ↔ GN d 12 86 ls h (nx 66 ls st h) Q := G_unf rfl rfl
theorem g12_89 : G d 12 89 ls st h Q ↔ GN d 12 89 ls h (ldR ls 1 fun a => nx 90 ls (.ref a :: st) h) Q := G_unf rfl rfl
theorem g12_90 : G d 12 90 ls st h Q ↔ GN d 12 90 ls h (pR st fun a r => ck (arr h a 6) (nx 93 ls (.int (hI h a 0) :: r) h)) Q := G_unf rfl rfl
theorem g12_93 : G d 12 93 ls st h Q ↔ GN d 12 93 ls h (nx 95 ls (.int (nI 7) :: st) h) Q := G_unf rfl rfl
theorem g12_95 : G d 12 95 ls st h Q ↔ GN d 12 95 ls h (pII st fun x y r => ck (¬ y = 0) (nx 96 ls (.int (x - x / y * y) :: r) h)) Q := G_unf rfl rfl
theorem g12_96 : G d 12 96 ls st h Q ↔ GN d 12 96 ls h (pI st fun x r => ck (3 < ls.length) (nx 97 (st1 ls 3 (.int x)) r h)) Q := G_unf rfl rfl
theorem g12_97 : G d 12 97 ls st h Q ↔ GN d 12 97 ls h (nx 98 ls (.int (nI 0) :: st) h) Q := G_unf rfl rfl
theorem g12_98 : G d 12 98 ls st h Q ↔ GN d 12 98 ls h (pI st fun x r => ck (4 < ls.length) (nx 100 (st1 ls 4 (.int x)) r h)) Q := G_unf rfl rfl
theorem g12_100 : G d 12 100 ls st h Q ↔ GN d 12 100 ls h (ldI ls 4 fun x => nx 102 ls (.int x :: st) h) Q := G_unf rfl rfl
theorem g12_102 : G d 12 102 ls st h Q ↔ GN d 12 102 ls h (ldR ls 0 fun a => nx 103 ls (.ref a :: st) h) Q := G_unf rfl rfl
theorem g12_103 : G d 12 103 ls st h Q ↔ GN d 12 103 ls h (pR st fun a r => ck (arr h a 1) (nx 106 ls (rv (hR h a 0) :: r) h)) Q := G_unf rfl rfl
theorem g12_106 : G d 12 106 ls st h Q ↔ GN d 12 106 ls h (pR st fun a r => ck (arr h a 0) (nx 109 ls (.int (hI h a 14) :: r) h)) Q := G_unf rfl rfl
theorem g12_109 : G d 12 109 ls st h Q ↔ GN d 12 109 ls h (pII st fun x y r => br (y ≤ x) (nx 157 ls r h) (nx 112 ls r h)) Q := G_unf rfl rfl
theorem g12_112 : G d 12 112 ls st h Q ↔ GN d 12 112 ls h (ldR ls 0 fun a => nx 113 ls (.ref a :: st) h) Q := G_unf rfl rfl
theorem g12_113 : G d 12 113 ls st h Q ↔ GN d 12 113 ls h (pR st fun a r => ck (arr h a 1) (nx 116 ls (rv (hR h a 0) :: r) h)) Q := G_unf rfl rfl
theorem g12_116 : G d 12 116 ls st h Q ↔ GN d 12 116 ls h (pR st fun a r => ck (arr h a 0) (nx 119 ls (rv (hR h a 13) :: r) h)) Q := G_unf rfl rfl
theorem g12_119 : G d 12 119 ls st h Q ↔ GN d 12 119 ls h (ldI ls 4 fun x => nx 121 ls (.int x :: st) h) Q := G_unf rfl rfl
theorem g12_121 : G d 12 121 ls st h Q ↔ GN d 12 121 ls h (pRI st fun a i r => br (a = 1000003) (ck (inb i (hS h).1) (nx 122 ls (.int ((hS h).2 i.toNatClampNeg) :: r) h)) (ck (arr h a 10 ∧ inb i (hLn h a)) (nx 122 ls (.int (hI h a i.toNatClampNeg) :: r) h))) Q := G_unf rfl rfl
theorem g12_122 : G d 12 122 ls st h Q ↔ GN d 12 122 ls h (ldI ls 3 fun x => nx 123 ls (.int x :: st) h) Q := G_unf rfl rfl
theorem g12_123 : G d 12 123 ls st h Q ↔ GN d 12 123 ls h (pII st fun x y r => br (¬ x = y) (nx 151 ls r h) (nx 126 ls r h)) Q := G_unf rfl rfl
theorem g12_126 : G d 12 126 ls st h Q ↔ GN d 12 126 ls h (ldR ls 0 fun a => nx 127 ls (.ref a :: st) h) Q := G_unf rfl rfl
theorem g12_127 : G d 12 127 ls st h Q ↔ GN d 12 127 ls h (ldR ls 1 fun a => nx 128 ls (.ref a :: st) h) Q := G_unf rfl rfl
theorem g12_128 : G d 12 128 ls st h Q ↔ GN d 12 128 ls h (ldR ls 0 fun a => nx 129 ls (.ref a :: st) h) Q := G_unf rfl rfl
theorem g12_129 : G d 12 129 ls st h Q ↔ GN d 12 129 ls h (pR st fun a r => ck (arr h a 1) (nx 132 ls (rv (hR h a 0) :: r) h)) Q := G_unf rfl rfl
theorem g12_132 : G d 12 132 ls st h Q ↔ GN d 12 132 ls h (pR st fun a r => ck (arr h a 0) (nx 135 ls (rv (hR h a 11) :: r) h)) Q := G_unf rfl rfl
theorem g12_135 : G d 12 135 ls st h Q ↔ GN d 12 135 ls h (ldI ls 4 fun x => nx 137 ls (.int x :: st) h) Q := G_unf rfl rfl
theorem g12_137 : G d 12 137 ls st h Q ↔ GN d 12 137 ls h (pRI st fun a i r => br (a = 1000003) (ck (inb i (hS h).1) (nx 138 ls (.int ((hS h).2 i.toNatClampNeg) :: r) h)) (ck (arr h a 10 ∧ inb i (hLn h a)) (nx 138 ls (.int (hI h a i.toNatClampNeg) :: r) h))) Q := G_unf rfl rfl
theorem g12_138 : G d 12 138 ls st h Q ↔ GN d 12 138 ls h (ldR ls 0 fun a => nx 139 ls (.ref a :: st) h) Q := G_unf rfl rfl
theorem g12_139 : G d 12 139 ls st h Q ↔ GN d 12 139 ls h (pR st fun a r => ck (arr h a 1) (nx 142 ls (rv (hR h a 0) :: r) h)) Q := G_unf rfl rfl
theorem g12_142 : G d 12 142 ls st h Q ↔ GN d 12 142 ls h (pR st fun a r => ck (arr h a 0) (nx 145 ls (rv (hR h a 12) :: r) h)) Q := G_unf rfl rfl
theorem g12_145 : G d 12 145 ls st h Q ↔ GN d 12 145 ls h (ldI ls 4 fun x => nx 147 ls (.int x :: st) h) Q := G_unf rfl rfl
theorem g12_147 : G d 12 147 ls st h Q ↔ GN d 12 147 ls h (pRI st fun a i r => br (a = 1000003) (ck (inb i (hS h).1) (nx 148 ls (.int ((hS h).2 i.toNatClampNeg) :: r) h)) (ck (arr h a 10 ∧ inb i (hLn h a)) (nx 148 ls (.int (hI h a i.toNatClampNeg) :: r) h))) Q := G_unf rfl rfl
theorem g12_148 : G d 12 148 ls st h Q ↔ GN d 12 148 ls h (pA 3 st fun as r => pR r fun a r => ck (r.length ≤ 4 ∧ arr h a 1) (cll 13 (.ref a :: as) r)) Q := G_unf rfl rfl
theorem g12_151 : G d 12 151 ls st h Q ↔ GN d 12 151 ls h (ldI ls 4 fun x => nx 154 (st1 ls 4 (.int (x + (nI 1)))) st h) Q := G_unf rfl rfl
theorem g12_154 : G d 12 154 ls st h Q ↔ GN d 12 154 ls h (nx 100 ls st h) Q := G_unf rfl rfl
theorem g12_157 : G d 12 157 ls st h Q ↔ GN d 12 157 ls h (pE st (rtn none)) Q := G_unf rfl rfl
theorem g13_0 : G d 13 0 ls st h Q ↔ GN d 13 0 ls h (ldR ls 1 fun a => nx 1 ls (.ref a :: st) h) Q := G_unf rfl rfl
theorem g13_1 : G d 13 1 ls st h Q ↔ GN d 13 1 ls h (pR st fun a r => ck (arr h a 6) (nx 4 ls (rv (hR h a 1) :: r) h)) Q := G_unf rfl rfl
theorem g13_4 : G d 13 4 ls st h Q ↔ GN d 13 4 ls h (ldI ls 2 fun x => nx 5 ls (.int x :: st) h) Q := G_unf rfl rfl
theorem g13_5 : G d 13 5 ls st h Q ↔ GN d 13 5 ls h (pRI st fun a i r => br (a = 1000003) (ck (inb i (hS h).1) (nx 6 ls (.int ((hS h).2 i.toNatClampNeg) :: r) h)) (ck (arr h a 10 ∧ inb i (hLn h a)) (nx 6 ls (.int (hI h a i.toNatClampNeg) :: r) h))) Q := G_unf rfl rfl
theorem g13_6 : G d 13 6 ls st h Q ↔ GN d 13 6 ls h (ldR ls 1 fun a => nx 7 ls (.ref a :: st) h) Q := G_unf rfl rfl
theorem g13_7 : G d 13 7 ls st h Q ↔ GN d 13 7 ls h (pR st fun a r => ck (arr h a 6) (nx 10 ls (rv (hR h a 1) :: r) h)) Q := G_unf rfl rfl
theorem g13_10 : G d 13 10 ls st h Q ↔ GN d 13 10 ls h (ldI ls 3 fun x => nx 11 ls (.int x :: st) h) Q := G_unf rfl rfl
theorem g13_11 : G d 13 11 ls st h Q ↔ GN d 13 11 ls h (pRI st fun a i r => br (a = 1000003) (ck (inb i (hS h).1) (nx 12 ls (.int ((hS h).2 i.toNatClampNeg) :: r) h)) (ck (arr h a 10 ∧ inb i (hLn h a)) (nx 12 ls (.int (hI h a i.toNatClampNeg) :: r) h))) Q := G_unf rfl rfl
theorem g13_12 : G d 13 12 ls st h Q ↔ GN d 13 12 ls h (nx 13 ls (.int (-1) :: st) h) Q := G_unf rfl rfl
theorem g13_13 : G d 13 13 ls st h Q ↔ GN d 13 13 ls h (pII st fun x y r => nx 14 ls (.int (x ^^^ y) :: r) h) Q := G_unf rfl rfl
theorem g13_14 : G d 13 14 ls st h Q ↔ GN d 13 14 ls h (pII st fun x y r => nx 15 ls (.int (x &&& y) :: r) h) Q := G_unf rfl rfl
theorem g13_15 : G d 13 15 ls st h Q ↔ GN d 13 15 ls h (ldR ls 1 fun a => nx 16 ls (.ref a :: st) h) Q := G_unf rfl rfl
theorem g13_16 : G d 13 16 ls st h Q ↔ GN d 13 16 ls h (pR st fun a r => ck (arr h a 6) (nx 19 ls (rv (hR h a 4) :: r) h)) Q := G_unf rfl rfl
theorem g13_19 : G d 13 19 ls st h Q ↔ GN d 13 19 ls h (ldI ls 3 fun x => nx 20 ls (.int x :: st) h) Q := G_unf rfl rfl
theorem g13_20 : G d 13 20 ls st h Q ↔ GN d 13 20 ls h (pRI st fun a i r => br (a = 1000003) (ck (inb i (hS h).1) (nx 21 ls (.int ((hS h).2 i.toNatClampNeg) :: r) h)) (ck (arr h a 10 ∧ inb i (hLn h a)) (nx 21 ls (.int (hI h a i.toNatClampNeg) :: r) h))) Q := G_unf rfl rfl
theorem g13_21 : G d 13 21 ls st h Q ↔ GN d 13 21 ls h (nx 22 ls (.int (-1) :: st) h) Q := G_unf rfl rfl
theorem g13_22 : G d 13 22 ls st h Q ↔ GN d 13 22 ls h (pII st fun x y r => nx 23 ls (.int (x ^^^ y) :: r) h) Q := G_unf rfl rfl
theorem g13_23 : G d 13 23 ls st h Q ↔ GN d 13 23 ls h (pII st fun x y r => nx 24 ls (.int (x &&& y) :: r) h) Q := G_unf rfl rfl
theorem g13_24 : G d 13 24 ls st h Q ↔ GN d 13 24 ls h (pI st fun x r => ck (4 < ls.length) (nx 26 (st1 ls 4 (.int x)) r h)) Q := G_unf rfl rfl
theorem g13_26 : G d 13 26 ls st h Q ↔ GN d 13 26 ls h (ldR ls 0 fun a => nx 27 ls (.ref a :: st) h) Q := G_unf rfl rfl
theorem g13_27 : G d 13 27 ls st h Q ↔ GN d 13 27 ls h (pR st fun a r => ck (arr h a 1) (nx 30 ls (rv (hR h a 0) :: r) h)) Q := G_unf rfl rfl
theorem g13_30 : G d 13 30 ls st h Q ↔ GN d 13 30 ls h (pR st fun a r => ck (arr h a 0) (nx 33 ls (rv (hR h a 19) :: r) h)) Q := G_unf rfl rfl
theorem g13_33 : G d 13 33 ls st h Q ↔ GN d 13 33 ls h (pR st fun a r => br (a = 1000000) (nx 34 ls (.int (nI 0) :: r) h) (br (a = 1000002) (nx 34 ls (.int (nI 208) :: r) h) (br (a = 1000003) (nx 34 ls (.int (nI (hS h).1) :: r) h) (ck (a < hN h ∧ 10 ≤ lay a) (nx 34 ls (.int (nI (hLn h a)) :: r) h))))) Q := G_unf rfl rfl
theorem g13_34 : G d 13 34 ls st h Q ↔ GN d 13 34 ls h (pI st fun x r => br (x ≤ 0) (nx 67 ls r h) (nx 37 ls r h)) Q := G_unf rfl rfl
theorem g13_37 : G d 13 37 ls st h Q ↔ GN d 13 37 ls h (ldR ls 0 fun a => nx 38 ls (.ref a :: st) h) Q := G_unf rfl rfl
theorem g13_38 : G d 13 38 ls st h Q ↔ GN d 13 38 ls h (ldR ls 1 fun a => nx 39 ls (.ref a :: st) h) Q := G_unf rfl rfl
theorem g13_39 : G d 13 39 ls st h Q ↔ GN d 13 39 ls h (ldI ls 2 fun x => nx 40 ls (.int x :: st) h) Q := G_unf rfl rfl
theorem g13_40 : G d 13 40 ls st h Q ↔ GN d 13 40 ls h (pA 2 st fun as r => pR r fun a r => ck (r.length ≤ 4 ∧ arr h a 1) (cll 21 (.ref a :: as) r)) Q := G_unf rfl rfl
theorem g13_43 : G d 13 43 ls st h Q ↔ GN d 13 43 ls h (ldR ls 0 fun a => nx 44 ls (.ref a :: st) h) Q := G_unf rfl rfl
theorem g13_44 : G d 13 44 ls st h Q ↔ GN d 13 44 ls h (pR st fun a r => ck (arr h a 1) (nx 47 ls (rv (hR h a 1) :: r) h)) Q := G_unf rfl rfl
theorem g13_47 : G d 13 47 ls st h Q ↔ GN d 13 47 ls h (ldR ls 0 fun a => nx 48 ls (.ref a :: st) h) Q := G_unf rfl rfl
theorem g13_48 : G d 13 48 ls st h Q ↔ GN d 13 48 ls h (pR st fun a r => ck (arr h a 1) (nx 51 ls (rv (hR h a 0) :: r) h)) Q := G_unf rfl rfl
theorem g13_51 : G d 13 51 ls st h Q ↔ GN d 13 51 ls h (pR st fun a r => ck (arr h a 0) (nx 54 ls (rv (hR h a 8) :: r) h)) Q := G_unf rfl rfl
theorem g13_54 : G d 13 54 ls st h Q ↔ GN d 13 54 ls h (ldI ls 3 fun x => nx 55 ls (.int x :: st) h) Q := G_unf rfl rfl
theorem g13_55 : G d 13 55 ls st h Q ↔ GN d 13 55 ls h (pRI st fun a i r => br (a = 1000003) (ck (inb i (hS h).1) (nx 56 ls (.int ((hS h).2 i.toNatClampNeg) :: r) h)) (ck (arr h a 10 ∧ inb i (hLn h a)) (nx 56 ls (.int (hI h a i.toNatClampNeg) :: r) h))) Q := G_unf rfl rfl
theorem g13_56 : G d 13 56 ls st h Q ↔ GN d 13 56 ls h (pRI st fun a x r => ck (arr h a 7) (nx 59 ls r (sI h a 3 x))) Q := G_unf rfl rfl
theorem g13_59 : G d 13 59 ls st h Q ↔ GN d 13 59 ls h (ldR ls 0 fun a => nx 60 ls (.ref a :: st) h) Q := G_unf rfl rfl
theorem g13_60 : G d 13 60 ls st h Q ↔ GN d 13 60 ls h (ldI ls 4 fun x => nx 62 ls (.int x :: st) h) Q := G_unf rfl rfl
theorem g13_62 : G d 13 62 ls st h Q ↔ GN d 13 62 ls h (pA 1 st fun as r => pR r fun a r => ck (r.length ≤ 4 ∧ arr h a 1) (cll 14 (.ref a :: as) r)) Q := G_unf rfl rfl
theorem g13_65 : G d 13 65 ls st h Q ↔ GN d 13 65 ls h (pI st fun x r => ck (4 < ls.length) (nx 67 (st1 ls 4 (.int x)) r h)) Q := G_unf rfl rfl
theorem g13_67 : G d 13 67 ls st h Q ↔ GN d 13 67 ls h (ldR ls 1 fun a => nx 68 ls (.ref a :: st) h) Q := G_unf rfl rfl
theorem g13_68 : G d 13 68 ls st h Q ↔ GN d 13 68 ls h (pR st fun a r => ck (arr h a 6) (nx 71 ls (rv (hR h a 1) :: r) h)) Q := G_unf rfl rfl
theorem g13_71 : G d 13 71 ls st h Q ↔ GN d 13 71 ls h (ldI ls 3 fun x => nx 72 ls (.int x :: st) h) Q := G_unf rfl rfl
theorem g13_72 : G d 13 72 ls st h Q ↔ GN d 13 72 ls h (p11 st fun v w r => nx 73 ls (v :: w :: v :: w :: r) h) Q := G_unf rfl rfl
theorem g13_73 : G d 13 73 ls st h Q ↔ GN d 13 73 ls h (pRI st fun a i r => br (a = 1000003) (ck (inb i (hS h).1) (nx 74 ls (.int ((hS h).2 i.toNatClampNeg) :: r) h)) (ck (arr h a 10 ∧ inb i (hLn h a)) (nx 74 ls (.int (hI h a i.toNatClampNeg) :: r) h))) Q := G_unf rfl rfl
theorem g13_74 : G d 13 74 ls st h Q ↔ GN d 13 74 ls h (ldI ls 4 fun x => nx 76 ls (.int x :: st) h) Q := G_unf rfl rfl
theorem g13_76 : G d 13 76 ls st h Q ↔ GN d 13 76 ls h (pII st fun x y r => nx 77 ls (.int (x ||| y) :: r) h) Q := G_unf rfl rfl
theorem g13_77 : G d 13 77 ls st h Q ↔ GN d 13 77 ls h (pRII st fun a i x r => ck (arr h a 10 ∧ inb i (hLn h a)) (nx 78 ls r (sI h a i.toNatClampNeg x))) Q := G_unf rfl rfl
theorem g13_78 : G d 13 78 ls st h Q ↔ GN d 13 78 ls h (ldR ls 0 fun a => nx 79 ls (.ref a :: st) h) Q := G_unf rfl rfl
theorem g13_79 : G d 13 79 ls st h Q ↔ GN d 13 79 ls h (ldR ls 1 fun a => nx 80 ls (.ref a :: st) h) Q := G_unf rfl rfl
theorem g13_80 : G d 13 80 ls st h Q ↔ GN d 13 80 ls h (ldI ls 3 fun x => nx 81 ls (.int x :: st) h) Q := G_unf rfl rfl
theorem g13_81 : G d 13 81 ls st h Q ↔ GN d 13 81 ls h (pA 2 st fun as r => pR r fun a r => ck (r.length ≤ 4 ∧ arr h a 1) (cll 15 (.ref a :: as) r)) Q := G_unf rfl rfl
theorem g13_84 : G d 13 84 ls st h Q ↔ GN d 13 84 ls h (pE st (rtn none)) Q := G_unf rfl rfl
theorem g14_0 : G d 14 0 ls st h Q ↔ GN d 14 0 ls h (nx 1 ls (.int (nI 0) :: st) h) Q := G_unf rfl rfl
theorem g14_1 : G d 14 1 ls st h Q ↔ GN d 14 1 ls h (pI st fun x r => ck (2 < ls.length) (nx 2 (st1 ls 2 (.int x)) r h)) Q := G_unf rfl rfl
theorem g14_2 : G d 14 2 ls st h Q ↔ GN d 14 2 ls h (nx 3 ls (.int (nI 0) :: st) h) Q := G_unf rfl rfl
theorem g14_3 : G d 14 3 ls st h Q ↔ GN d 14 3 ls h (pI st fun x r => ck (3 < ls.length) (nx 4 (st1 ls 3 (.int x)) r h)) Q := G_unf rfl rfl
theorem g14_4 : G d 14 4 ls st h Q ↔ GN d 14 4 ls h (ldI ls 3 fun x => nx 5 ls (.int x :: st) h) Q := G_unf rfl rfl
theorem g14_5 : G d 14 5 ls st h Q ↔ GN d 14 5 ls h (ldR ls 0 fun a => nx 6 ls (.ref a :: st) h) Q := G_unf rfl rfl
theorem g14_6 : G d 14 6 ls st h Q ↔ GN d 14 6 ls h (pR st fun a r => ck (arr h a 1) (nx 9 ls (rv (hR h a 0) :: r) h)) Q := G_unf rfl rfl
theorem g14_9 : G d 14 9 ls st h Q ↔ GN d 14 9 ls h (pR st fun a r => ck (arr h a 0) (nx 12 ls (.int (hI h a 3) :: r) h)) Q := G_unf rfl rfl
theorem g14_12 : G d 14 12 ls st h Q ↔ GN d 14 12 ls h (pII st fun x y r => br (y ≤ x) (nx 65 ls r h) (nx 15 ls r h)) Q := G_unf rfl rfl
theorem g14_15 : G d 14 15 ls st h Q ↔ GN d 14 15 ls h (ldI ls 1 fun x => nx 16 ls (.int x :: st) h) Q := G_unf rfl rfl
theorem g14_16 : G d 14 16 ls st h Q ↔ GN d 14 16 ls h (ldI ls 3 fun x => nx 17 ls (.int x :: st) h) Q := G_unf rfl rfl
theorem g14_17 : G d 14 17 ls st h Q ↔ GN d 14 17 ls h (pII st fun x y r => nx 18 ls (.int (x >>> (y &&& 31)) :: r) h) Q := G_unf rfl rfl
theorem g14_18 : G d 14 18 ls st h Q ↔ GN d 14 18 ls h (nx 19 ls (.int (nI 1) :: st) h) Q := G_unf rfl rfl
theorem g14_19 : G d 14 19 ls st h Q ↔ GN d 14 19 ls h (pII st fun x y r => nx 20 ls (.int (x &&& y) :: r) h) Q := G_unf rfl rfl
theorem g14_20 : G d 14 20 ls st h Q ↔ GN d 14 20 ls h (nx 21 ls (.int (nI 1) :: st) h) Q := G_unf rfl rfl
theorem g14_21 : G d 14 21 ls st h Q ↔ GN d 14 21 ls h (pII st fun x y r => br (¬ x = y) (nx 59 ls r h) (nx 24 ls r h)) Q := G_unf rfl rfl
theorem g14_24 : G d 14 24 ls st h Q ↔ GN d 14 24 ls h (ldR ls 0 fun a => nx 25 ls (.ref a :: st) h) Q := G_unf rfl rfl
theorem g14_25 : G d 14 25 ls st h Q ↔ GN d 14 25 ls h (pR st fun a r => ck (arr h a 1) (nx 28 ls (rv (hR h a 1) :: r) h)) Q := G_unf rfl rfl
theorem g14_28 : G d 14 28 ls st h Q ↔ GN d 14 28 ls h (ldR ls 0 fun a => nx 29 ls (.ref a :: st) h) Q := G_unf rfl rfl
theorem g14_29 : G d 14 29 ls st h Q ↔ GN d 14 29 ls h (pR st fun a r => ck (arr h a 1) (nx 32 ls (rv (hR h a 0) :: r) h)) Q := G_unf rfl rfl
theorem g14_32 : G d 14 32 ls st h Q ↔ GN d 14 32 ls h (pR st fun a r => ck (arr h a 0) (nx 35 ls (rv (hR h a 2) :: r) h)) Q := G_unf rfl rfl
theorem g14_35 : G d 14 35 ls st h Q ↔ GN d 14 35 ls h (ldI ls 3 fun x => nx 36 ls (.int x :: st) h) Q := G_unf rfl rfl
theorem g14_36 : G d 14 36 ls st h Q ↔ GN d 14 36 ls h (pRI st fun a i r => br (a = 1000003) (ck (inb i (hS h).1) (nx 37 ls (.int ((hS h).2 i.toNatClampNeg) :: r) h)) (ck (arr h a 10 ∧ inb i (hLn h a)) (nx 37 ls (.int (hI h a i.toNatClampNeg) :: r) h))) Q := G_unf rfl rfl
theorem g14_37 : G d 14 37 ls st h Q ↔ GN d 14 37 ls h (pRI st fun a x r => ck (arr h a 7) (nx 40 ls r (sI h a 0 x))) Q := G_unf rfl rfl
theorem g14_40 : G d 14 40 ls st h Q ↔ GN d 14 40 ls h (ldI ls 2 fun x => nx 41 ls (.int x :: st) h) Q := G_unf rfl rfl
theorem g14_41 : G d 14 41 ls st h Q ↔ GN d 14 41 ls h (ldR ls 0 fun a => nx 42 ls (.ref a :: st) h) Q := G_unf rfl rfl
theorem g14_42 : G d 14 42 ls st h Q ↔ GN d 14 42 ls h (pR st fun a r => ck (arr h a 1) (nx 45 ls (rv (hR h a 1) :: r) h)) Q := G_unf rfl rfl
theorem g14_45 : G d 14 45 ls st h Q ↔ GN d 14 45 ls h (ldR ls 0 fun a => nx 46 ls (.ref a :: st) h) Q := G_unf rfl rfl
theorem g14_46 : G d 14 46 ls st h Q ↔ GN d 14 46 ls h (pR st fun a r => ck (arr h a 1) (nx 49 ls (rv (hR h a 0) :: r) h)) Q := G_unf rfl rfl
theorem g14_49 : G d 14 49 ls st h Q ↔ GN d 14 49 ls h (pR st fun a r => ck (arr h a 0) (nx 52 ls (rv (hR h a 19) :: r) h)) Q := G_unf rfl rfl
theorem g14_52 : G d 14 52 ls st h Q ↔ GN d 14 52 ls h (pA 1 st fun as r => pR r fun a r => ck (r.length ≤ 4 ∧ arr h a 7) (cll 99 (.ref a :: as) r)) Q := G_unf rfl rfl
theorem g14_55 : G d 14 55 ls st h Q ↔ GN d 14 55 ls h (ldI ls 3 fun x => nx 56 ls (.int x :: st) h) Q := G_unf rfl rfl
theorem g14_56 : G d 14 56 ls st h Q ↔ GN d 14 56 ls h (pII st fun x y r => nx 57 ls (.int (x <<< (y &&& 31)) :: r) h) Q := G_unf rfl rfl
theorem g14_57 : G d 14 57 ls st h Q ↔ GN d 14 57 ls h (pII st fun x y r => nx 58 ls (.int (x ||| y) :: r) h) Q := G_unf rfl rfl
theorem g14_58 : G d 14 58 ls st h Q ↔ GN d 14 58 ls h (pI st fun x r => ck (2 < ls.length) (nx 59 (st1 ls 2 (.int x)) r h)) Q := G_unf rfl rfl
theorem g14_59 : G d 14 59 ls st h Q ↔ GN d 14 59 ls h (ldI ls 3 fun x => nx 62 (st1 ls 3 (.int (x + (nI 1)))) st h) Q := G_unf rfl rfl
theorem g14_62 : G d 14 62 ls st h Q ↔ GN d 14 62 ls h (nx 4 ls st h) Q := G_unf rfl rfl
theorem g14_65 : G d 14 65 ls st h Q ↔ GN d 14 65 ls h (ldI ls 2 fun x => nx 66 ls (.int x :: st) h) Q := G_unf rfl rfl
theorem g14_66 : G d 14 66 ls st h Q ↔ GN d 14 66 ls h (pIe st fun x => rtn (some (.int x))) Q := G_unf rfl rfl
theorem g15_0 : G d 15 0 ls st h Q ↔ GN d 15 0 ls h (nx 1 ls (.int (nI 0) :: st) h) Q := G_unf rfl rfl
theorem g15_1 : G d 15 1 ls st h Q ↔ GN d 15 1 ls h (pI st fun x r => ck (3 < ls.length) (nx 2 (st1 ls 3 (.int x)) r h)) Q := G_unf rfl rfl
theorem g15_2 : G d 15 2 ls st h Q ↔ GN d 15 2 ls h (ldI ls 3 fun x => nx 3 ls (.int x :: st) h) Q := G_unf rfl rfl
theorem g15_3 : G d 15 3 ls st h Q ↔ GN d 15 3 ls h (nx 5 ls (.int (nI 12) :: st) h) Q := G_unf rfl rfl
theorem g15_5 : G d 15 5 ls st h Q ↔ GN d 15 5 ls h (pII st fun x y r => br (y ≤ x) (nx 92 ls r h) (nx 8 ls r h)) Q := G_unf rfl rfl
theorem g15_8 : G d 15 8 ls st h Q ↔ GN d 15 8 ls h (ldR ls 1 fun a => nx 9 ls (.ref a :: st) h) Q := G_unf rfl rfl
theorem g15_9 : G d 15 9 ls st h Q ↔ GN d 15 9 ls h (pR st fun a r => ck (arr h a 6) (nx 12 ls (rv (hR h a 1) :: r) h)) Q := G_unf rfl rfl
theorem g15_12 : G d 15 12 ls st h Q ↔ GN d 15 12 ls h (ldI ls 2 fun x => nx 13 ls (.int x :: st) h) Q := G_unf rfl rfl
theorem g15_13 : G d 15 13 ls st h Q ↔ GN d 15 13 ls h (pRI st fun a i r => br (a = 1000003) (ck (inb i (hS h).1) (nx 14 ls (.int ((hS h).2 i.toNatClampNeg) :: r) h)) (ck (arr h a 10 ∧ inb i (hLn h a)) (nx 14 ls (.int (hI h a i.toNatClampNeg) :: r) h))) Q := G_unf rfl rfl
theorem g15_14 : G d 15 14 ls st h Q ↔ GN d 15 14 ls h (pI st fun x r => ck (4 < ls.length) (nx 16 (st1 ls 4 (.int x)) r h)) Q := G_unf rfl rfl
theorem g15_16 : G d 15 16 ls st h Q ↔ GN d 15 16 ls h (nx 17 ls (.int (nI 0) :: st) h) Q := G_unf rfl rfl
theorem g15_17 : G d 15 17 ls st h Q ↔ GN d 15 17 ls h (pI st fun x r => ck (5 < ls.length) (nx 19 (st1 ls 5 (.int x)) r h)) Q := G_unf rfl rfl
theorem g15_19 : G d 15 19 ls st h Q ↔ GN d 15 19 ls h (ldI ls 5 fun x => nx 21 ls (.int x :: st) h) Q := G_unf rfl rfl
theorem g15_21 : G d 15 21 ls st h Q ↔ GN d 15 21 ls h (ldR ls 0 fun a => nx 22 ls (.ref a :: st) h) Q := G_unf rfl rfl
theorem g15_22 : G d 15 22 ls st h Q ↔ GN d 15 22 ls h (pR st fun a r => ck (arr h a 1) (nx 25 ls (rv (hR h a 0) :: r) h)) Q := G_unf rfl rfl
theorem g15_25 : G d 15 25 ls st h Q ↔ GN d 15 25 ls h (pR st fun a r => ck (arr h a 0) (nx 28 ls (.int (hI h a 6) :: r) h)) Q := G_unf rfl rfl
theorem g15_28 : G d 15 28 ls st h Q ↔ GN d 15 28 ls h (pII st fun x y r => br (y ≤ x) (nx 72 ls r h) (nx 31 ls r h)) Q := G_unf rfl rfl
theorem g15_31 : G d 15 31 ls st h Q ↔ GN d 15 31 ls h (ldR ls 0 fun a => nx 32 ls (.ref a :: st) h) Q := G_unf rfl rfl
theorem g15_32 : G d 15 32 ls st h Q ↔ GN d 15 32 ls h (pR st fun a r => ck (arr h a 1) (nx 35 ls (rv (hR h a 0) :: r) h)) Q := G_unf rfl rfl
theorem g15_35 : G d 15 35 ls st h Q ↔ GN d 15 35 ls h (ldI ls 5 fun x => nx 37 ls (.int x :: st) h) Q := G_unf rfl rfl
theorem g15_37 : G d 15 37 ls st h Q ↔ GN d 15 37 ls h (ldR ls 1 fun a => nx 38 ls (.ref a :: st) h) Q := G_unf rfl rfl
theorem g15_38 : G d 15 38 ls st h Q ↔ GN d 15 38 ls h (pR st fun a r => ck (arr h a 6) (nx 41 ls (rv (hR h a 1) :: r) h)) Q := G_unf rfl rfl
theorem g15_41 : G d 15 41 ls st h Q ↔ GN d 15 41 ls h (ldI ls 2 fun x => nx 42 ls (.int x :: st) h) Q := G_unf rfl rfl
theorem g15_42 : G d 15 42 ls st h Q ↔ GN d 15 42 ls h (pRI st fun a i r => br (a = 1000003) (ck (inb i (hS h).1) (nx 43 ls (.int ((hS h).2 i.toNatClampNeg) :: r) h)) (ck (arr h a 10 ∧ inb i (hLn h a)) (nx 43 ls (.int (hI h a i.toNatClampNeg) :: r) h))) Q := G_unf rfl rfl
theorem g15_43 : G d 15 43 ls st h Q ↔ GN d 15 43 ls h (pA 2 st fun as r => pR r fun a r => ck (r.length ≤ 4 ∧ arr h a 0) (cll 7 (.ref a :: as) r)) Q := G_unf rfl rfl
theorem g15_46 : G d 15 46 ls st h Q ↔ GN d 15 46 ls h (pI st fun x r => br (x = 0) (nx 66 ls r h) (nx 49 ls r h)) Q := G_unf rfl rfl
theorem g15_49 : G d 15 49 ls st h Q ↔ GN d 15 49 ls h (ldR ls 1 fun a => nx 50 ls (.ref a :: st) h) Q := G_unf rfl rfl
theorem g15_50 : G d 15 50 ls st h Q ↔ GN d 15 50 ls h (ldI ls 2 fun x => nx 51 ls (.int x :: st) h) Q := G_unf rfl rfl
theorem g15_51 : G d 15 51 ls st h Q ↔ GN d 15 51 ls h (ldR ls 0 fun a => nx 52 ls (.ref a :: st) h) Q := G_unf rfl rfl
theorem g15_52 : G d 15 52 ls st h Q ↔ GN d 15 52 ls h (pR st fun a r => ck (arr h a 1) (nx 55 ls (rv (hR h a 0) :: r) h)) Q := G_unf rfl rfl
theorem g15_55 : G d 15 55 ls st h Q ↔ GN d 15 55 ls h (pR st fun a r => ck (arr h a 0) (nx 58 ls (rv (hR h a 4) :: r) h)) Q := G_unf rfl rfl
theorem g15_58 : G d 15 58 ls st h Q ↔ GN d 15 58 ls h (ldI ls 5 fun x => nx 60 ls (.int x :: st) h) Q := G_unf rfl rfl
theorem g15_60 : G d 15 60 ls st h Q ↔ GN d 15 60 ls h (pRI st fun a i r => br (a = 1000003) (ck (inb i (hS h).1) (nx 61 ls (.int ((hS h).2 i.toNatClampNeg) :: r) h)) (ck (arr h a 10 ∧ inb i (hLn h a)) (nx 61 ls (.int (hI h a i.toNatClampNeg) :: r) h))) Q := G_unf rfl rfl
theorem g15_61 : G d 15 61 ls st h Q ↔ GN d 15 61 ls h (ldI ls 5 fun x => nx 63 ls (.int x :: st) h) Q := G_unf rfl rfl
theorem g15_63 : G d 15 63 ls st h Q ↔ GN d 15 63 ls h (pA 3 st fun as r => pR r fun a r => ck (r.length ≤ 4 ∧ arr h a 6) (cll 96 (.ref a :: as) r)) Q := G_unf rfl rfl
theorem g15_66 : G d 15 66 ls st h Q ↔ GN d 15 66 ls h (ldI ls 5 fun x => nx 69 (st1 ls 5 (.int (x + (nI 1)))) st h) Q := G_unf rfl rfl
theorem g15_69 : G d 15 69 ls st h Q ↔ GN d 15 69 ls h (nx 19 ls st h) Q := G_unf rfl rfl
theorem g15_72 : G d 15 72 ls st h Q ↔ GN d 15 72 ls h (ldR ls 1 fun a => nx 73 ls (.ref a :: st) h) Q := G_unf rfl rfl
theorem g15_73 : G d 15 73 ls st h Q ↔ GN d 15 73 ls h (pR st fun a r => ck (arr h a 6) (nx 76 ls (rv (hR h a 1) :: r) h)) Q := G_unf rfl rfl
theorem g15_76 : G d 15 76 ls st h Q ↔ GN d 15 76 ls h (ldI ls 2 fun x => nx 77 ls (.int x :: st) h) Q := G_unf rfl rfl
theorem g15_77 : G d 15 77 ls st h Q ↔ GN d 15 77 ls h (pRI st fun a i r => br (a = 1000003) (ck (inb i (hS h).1) (nx 78 ls (.int ((hS h).2 i.toNatClampNeg) :: r) h)) (ck (arr h a 10 ∧ inb i (hLn h a)) (nx 78 ls (.int (hI h a i.toNatClampNeg) :: r) h))) Q := G_unf rfl rfl
theorem g15_78 : G d 15 78 ls st h Q ↔ GN d 15 78 ls h (ldI ls 4 fun x => nx 80 ls (.int x :: st) h) Q := G_unf rfl rfl
theorem g15_80 : G d 15 80 ls st h Q ↔ GN d 15 80 ls h (pII st fun x y r => br (¬ x = y) (nx 86 ls r h) (nx 83 ls r h)) Q := G_unf rfl rfl
theorem g15_83 : G d 15 83 ls st h Q ↔ GN d 15 83 ls h (nx 92 ls st h) Q := G_unf rfl rfl
theorem g15_86 : G d 15 86 ls st h Q ↔ GN d 15 86 ls h (ldI ls 3 fun x => nx 89 (st1 ls 3 (.int (x + (nI 1)))) st h) Q := G_unf rfl rfl
theorem g15_89 : G d 15 89 ls st h Q ↔ GN d 15 89 ls h (nx 2 ls st h) Q := G_unf rfl rfl
theorem g15_92 : G d 15 92 ls st h Q ↔ GN d 15 92 ls h (pE st (rtn none)) Q := G_unf rfl rfl
theorem g16_0 : G d 16 0 ls st h Q ↔ GN d 16 0 ls h (ldR ls 1 fun a => nx 1 ls (.ref a :: st) h) Q := G_unf rfl rfl
theorem g16_1 : G d 16 1 ls st h Q ↔ GN d 16 1 ls h (pR st fun a r => ck (arr h a 6) (nx 4 ls (rv (hR h a 1) :: r) h)) Q := G_unf rfl rfl
theorem g16_4 : G d 16 4 ls st h Q ↔ GN d 16 4 ls h (ldI ls 2 fun x => nx 5 ls (.int x :: st) h) Q := G_unf rfl rfl
theorem g16_5 : G d 16 5 ls st h Q ↔ GN d 16 5 ls h (pRI st fun a i r => br (a = 1000003) (ck (inb i (hS h).1) (nx 6 ls (.int ((hS h).2 i.toNatClampNeg) :: r) h)) (ck (arr h a 10 ∧ inb i (hLn h a)) (nx 6 ls (.int (hI h a i.toNatClampNeg) :: r) h))) Q := G_unf rfl rfl
theorem g16_6 : G d 16 6 ls st h Q ↔ GN d 16 6 ls h (pA 1 st fun as r => ck (r.length ≤ 4) (cll 273 as r)) Q := G_unf rfl rfl
theorem g16_9 : G d 16 9 ls st h Q ↔ GN d 16 9 ls h (pI st fun x r => ck (4 < ls.length) (nx 11 (st1 ls 4 (.int x)) r h)) Q := G_unf rfl rfl
theorem g16_11 : G d 16 11 ls st h Q ↔ GN d 16 11 ls h (ldR ls 1 fun a => nx 12 ls (.ref a :: st) h) Q := G_unf rfl rfl
theorem g16_12 : G d 16 12 ls st h Q ↔ GN d 16 12 ls h (pR st fun a r => ck (arr h a 6) (nx 15 ls (rv (hR h a 1) :: r) h)) Q := G_unf rfl rfl
theorem g16_15 : G d 16 15 ls st h Q ↔ GN d 16 15 ls h (ldI ls 2 fun x => nx 16 ls (.int x :: st) h) Q := G_unf rfl rfl
theorem g16_16 : G d 16 16 ls st h Q ↔ GN d 16 16 ls h (p11 st fun v w r => nx 17 ls (v :: w :: v :: w :: r) h) Q := G_unf rfl rfl
theorem g16_17 : G d 16 17 ls st h Q ↔ GN d 16 17 ls h (pRI st fun a i r => br (a = 1000003) (ck (inb i (hS h).1) (nx 18 ls (.int ((hS h).2 i.toNatClampNeg) :: r) h)) (ck (arr h a 10 ∧ inb i (hLn h a)) (nx 18 ls (.int (hI h a i.toNatClampNeg) :: r) h))) Q := G_unf rfl rfl
theorem g16_18 : G d 16 18 ls st h Q ↔ GN d 16 18 ls h (nx 19 ls (.int (nI 1) :: st) h) Q := G_unf rfl rfl
theorem g16_19 : G d 16 19 ls st h Q ↔ GN d 16 19 ls h (ldI ls 3 fun x => nx 20 ls (.int x :: st) h) Q := G_unf rfl rfl
theorem g16_20 : G d 16 20 ls st h Q ↔ GN d 16 20 ls h (pII st fun x y r => nx 21 ls (.int (x <<< (y &&& 31)) :: r) h) Q := G_unf rfl rfl
theorem g16_21 : G d 16 21 ls st h Q ↔ GN d 16 21 ls h (pII st fun x y r => nx 22 ls (.int (x ||| y) :: r) h) Q := G_unf rfl rfl
theorem g16_22 : G d 16 22 ls st h Q ↔ GN d 16 22 ls h (pRII st fun a i x r => ck (arr h a 10 ∧ inb i (hLn h a)) (nx 23 ls r (sI h a i.toNatClampNeg x))) Q := G_unf rfl rfl
theorem g16_23 : G d 16 23 ls st h Q ↔ GN d 16 23 ls h (ldR ls 0 fun a => nx 24 ls (.ref a :: st) h) Q := G_unf rfl rfl
theorem g16_24 : G d 16 24 ls st h Q ↔ GN d 16 24 ls h (ldR ls 1 fun a => nx 25 ls (.ref a :: st) h) Q := G_unf rfl rfl
theorem g16_25 : G d 16 25 ls st h Q ↔ GN d 16 25 ls h (ldI ls 2 fun x => nx 26 ls (.int x :: st) h) Q := G_unf rfl rfl
theorem g16_26 : G d 16 26 ls st h Q ↔ GN d 16 26 ls h (pA 2 st fun as r => pR r fun a r => ck (r.length ≤ 4 ∧ arr h a 1) (cll 15 (.ref a :: as) r)) Q := G_unf rfl rfl
theorem g16_29 : G d 16 29 ls st h Q ↔ GN d 16 29 ls h (ldR ls 1 fun a => nx 30 ls (.ref a :: st) h) Q := G_unf rfl rfl
theorem g16_30 : G d 16 30 ls st h Q ↔ GN d 16 30 ls h (pR st fun a r => ck (arr h a 6) (nx 33 ls (rv (hR h a 1) :: r) h)) Q := G_unf rfl rfl
theorem g16_33 : G d 16 33 ls st h Q ↔ GN d 16 33 ls h (ldI ls 2 fun x => nx 34 ls (.int x :: st) h) Q := G_unf rfl rfl
theorem g16_34 : G d 16 34 ls st h Q ↔ GN d 16 34 ls h (pRI st fun a i r => br (a = 1000003) (ck (inb i (hS h).1) (nx 35 ls (.int ((hS h).2 i.toNatClampNeg) :: r) h)) (ck (arr h a 10 ∧ inb i (hLn h a)) (nx 35 ls (.int (hI h a i.toNatClampNeg) :: r) h))) Q := G_unf rfl rfl
theorem g16_35 : G d 16 35 ls st h Q ↔ GN d 16 35 ls h (pA 1 st fun as r => ck (r.length ≤ 4) (cll 273 as r)) Q := G_unf rfl rfl
theorem g16_38 : G d 16 38 ls st h Q ↔ GN d 16 38 ls h (ldI ls 4 fun x => nx 40 ls (.int x :: st) h) Q := G_unf rfl rfl
theorem g16_40 : G d 16 40 ls st h Q ↔ GN d 16 40 ls h (pII st fun x y r => nx 41 ls (.int (x - y) :: r) h) Q := G_unf rfl rfl
theorem g16_41 : G d 16 41 ls st h Q ↔ GN d 16 41 ls h (pIe st fun x => rtn (some (.int x))) Q := G_unf rfl rfl
theorem g17_0 : G d 17 0 ls st h Q ↔ GN d 17 0 ls h (ldR ls 0 fun a => nx 1 ls (.ref a :: st) h) Q := G_unf rfl rfl
theorem g17_1 : G d 17 1 ls st h Q ↔ GN d 17 1 ls h (pR st fun a r => ck (arr h a 1) (nx 4 ls (rv (hR h a 0) :: r) h)) Q := G_unf rfl rfl
theorem g17_4 : G d 17 4 ls st h Q ↔ GN d 17 4 ls h (pR st fun a r => ck (arr h a 0) (nx 7 ls (.int (hI h a 17) :: r) h)) Q := G_unf rfl rfl
theorem g17_7 : G d 17 7 ls st h Q ↔ GN d 17 7 ls h (ldR ls 1 fun a => nx 8 ls (.ref a :: st) h) Q := G_unf rfl rfl
theorem g17_8 : G d 17 8 ls st h Q ↔ GN d 17 8 ls h (pA 0 st fun as r => pR r fun a r => ck (r.length ≤ 4 ∧ arr h a 6) (cll 91 (.ref a :: as) r)) Q := G_unf rfl rfl
theorem g17_11 : G d 17 11 ls st h Q ↔ GN d 17 11 ls h (pII st fun x y r => nx 12 ls (.int (x - y) :: r) h) Q := G_unf rfl rfl
theorem g17_12 : G d 17 12 ls st h Q ↔ GN d 17 12 ls h (pIe st fun x => rtn (some (.int x))) Q := G_unf rfl rfl
theorem g18_0 : G d 18 0 ls st h Q ↔ GN d 18 0 ls h (ldR ls 0 fun a => nx 1 ls (.ref a :: st) h) Q := G_unf rfl rfl
theorem g18_1 : G d 18 1 ls st h Q ↔ GN d 18 1 ls h (pR st fun a r => ck (arr h a 1) (nx 4 ls (rv (hR h a 0) :: r) h)) Q := G_unf rfl rfl
theorem g18_4 : G d 18 4 ls st h Q ↔ GN d 18 4 ls h (ldR ls 0 fun a => nx 5 ls (.ref a :: st) h) Q := G_unf rfl rfl
theorem g18_5 : G d 18 5 ls st h Q ↔ GN d 18 5 ls h (pR st fun a r => ck (arr h a 1) (nx 8 ls (rv (hR h a 0) :: r) h)) Q := G_unf rfl rfl
theorem g18_8 : G d 18 8 ls st h Q ↔ GN d 18 8 ls h (ldR ls 1 fun a => nx 9 ls (.ref a :: st) h) Q := G_unf rfl rfl
theorem g18_9 : G d 18 9 ls st h Q ↔ GN d 18 9 ls h (pR st fun a r => ck (arr h a 6) (nx 12 ls (.int (hI h a 0) :: r) h)) Q := G_unf rfl rfl
theorem g18_12 : G d 18 12 ls st h Q ↔ GN d 18 12 ls h (pA 1 st fun as r => pR r fun a r => ck (r.length ≤ 4 ∧ arr h a 0) (cll 3 (.ref a :: as) r)) Q := G_unf rfl rfl
theorem g18_15 : G d 18 15 ls st h Q ↔ GN d 18 15 ls h (ldR ls 1 fun a => nx 16 ls (.ref a :: st) h) Q := G_unf rfl rfl
theorem g18_16 : G d 18 16 ls st h Q ↔ GN d 18 16 ls h (pR st fun a r => ck (arr h a 6) (nx 19 ls (rv (hR h a 1) :: r) h)) Q := G_unf rfl rfl
theorem g18_19 : G d 18 19 ls st h Q ↔ GN d 18 19 ls h (ldI ls 2 fun x => nx 20 ls (.int x :: st) h) Q := G_unf rfl rfl
theorem g18_20 : G d 18 20 ls st h Q ↔ GN d 18 20 ls h (pRI st fun a i r => br (a = 1000003) (ck (inb i (hS h).1) (nx 21 ls (.int ((hS h).2 i.toNatClampNeg) :: r) h)) (ck (arr h a 10 ∧ inb i (hLn h a)) (nx 21 ls (.int (hI h a i.toNatClampNeg) :: r) h))) Q := G_unf rfl rfl
theorem g18_21 : G d 18 21 ls st h Q ↔ GN d 18 21 ls h (nx 22 ls (.int (-1) :: st) h) Q := G_unf rfl rfl
theorem g18_22 : G d 18 22 ls st h Q ↔ GN d 18 22 ls h (pII st fun x y r => nx 23 ls (.int (x ^^^ y) :: r) h) Q := G_unf rfl rfl
theorem g18_23 : G d 18 23 ls st h Q ↔ GN d 18 23 ls h (pII st fun x y r => nx 24 ls (.int (x &&& y) :: r) h) Q := G_unf rfl rfl
theorem g18_24 : G d 18 24 ls st h Q ↔ GN d 18 24 ls h (pA 1 st fun as r => pR r fun a r => ck (r.length ≤ 4 ∧ arr h a 0) (cll 4 (.ref a :: as) r)) Q := G_unf rfl rfl
theorem g18_27 : G d 18 27 ls st h Q ↔ GN d 18 27 ls h (pIe st fun x => rtn (some (.int x))) Q := G_unf rfl rfl
theorem g19_0 : G d 19 0 ls st h Q ↔ GN d 19 0 ls h (nx 1 ls (.int (nI 0) :: st) h) Q := G_unf rfl rfl
theorem g19_1 : G d 19 1 ls st h Q ↔ GN d 19 1 ls h (pI st fun x r => ck (2 < ls.length) (nx 2 (st1 ls 2 (.int x)) r h)) Q := G_unf rfl rfl
theorem g19_2 : G d 19 2 ls st h Q ↔ GN d 19 2 ls h (nx 3 ls (.int (nI 0) :: st) h) Q := G_unf rfl rfl
theorem g19_3 : G d 19 3 ls st h Q ↔ GN d 19 3 ls h (pI st fun x r => ck (3 < ls.length) (nx 4 (st1 ls 3 (.int x)) r h)) Q := G_unf rfl rfl
theorem g19_4 : G d 19 4 ls st h Q ↔ GN d 19 4 ls h (ldI ls 3 fun x => nx 5 ls (.int x :: st) h) Q := G_unf rfl rfl
theorem g19_5 : G d 19 5 ls st h Q ↔ GN d 19 5 ls h (ldR ls 0 fun a => nx 6 ls (.ref a :: st) h) Q := G_unf rfl rfl
theorem g19_6 : G d 19 6 ls st h Q ↔ GN d 19 6 ls h (pR st fun a r => ck (arr h a 1) (nx 9 ls (rv (hR h a 0) :: r) h)) Q := G_unf rfl rfl
theorem g19_9 : G d 19 9 ls st h Q ↔ GN d 19 9 ls h (pR st fun a r => ck (arr h a 0) (nx 12 ls (.int (hI h a 10) :: r) h)) Q := G_unf rfl rfl
theorem g19_12 : G d 19 12 ls st h Q ↔ GN d 19 12 ls h (pII st fun x y r => br (y ≤ x) (nx 30 ls r h) (nx 15 ls r h)) Q := G_unf rfl rfl
theorem g19_15 : G d 19 15 ls st h Q ↔ GN d 19 15 ls h (ldI ls 2 fun x => nx 16 ls (.int x :: st) h) Q := G_unf rfl rfl
theorem g19_16 : G d 19 16 ls st h Q ↔ GN d 19 16 ls h (ldR ls 0 fun a => nx 17 ls (.ref a :: st) h) Q := G_unf rfl rfl
theorem g19_17 : G d 19 17 ls st h Q ↔ GN d 19 17 ls h (ldR ls 1 fun a => nx 18 ls (.ref a :: st) h) Q := G_unf rfl rfl
theorem g19_18 : G d 19 18 ls st h Q ↔ GN d 19 18 ls h (ldI ls 3 fun x => nx 19 ls (.int x :: st) h) Q := G_unf rfl rfl
theorem g19_19 : G d 19 19 ls st h Q ↔ GN d 19 19 ls h (pA 2 st fun as r => pR r fun a r => ck (r.length ≤ 4 ∧ arr h a 1) (cll 18 (.ref a :: as) r)) Q := G_unf rfl rfl
theorem g19_22 : G d 19 22 ls st h Q ↔ GN d 19 22 ls h (pII st fun x y r => nx 23 ls (.int (x + y) :: r) h) Q := G_unf rfl rfl
theorem g19_23 : G d 19 23 ls st h Q ↔ GN d 19 23 ls h (pI st fun x r => ck (2 < ls.length) (nx 24 (st1 ls 2 (.int x)) r h)) Q := G_unf rfl rfl
theorem g19_24 : G d 19 24 ls st h Q ↔ GN d 19 24 ls h (ldI ls 3 fun x => nx 27 (st1 ls 3 (.int (x + (nI 1)))) st h) Q := G_unf rfl rfl
theorem g19_27 : G d 19 27 ls st h Q ↔ GN d 19 27 ls h (nx 4 ls st h) Q := G_unf rfl rfl
theorem g19_30 : G d 19 30 ls st h Q ↔ GN d 19 30 ls h (ldI ls 2 fun x => nx 31 ls (.int x :: st) h) Q := G_unf rfl rfl
theorem g19_31 : G d 19 31 ls st h Q ↔ GN d 19 31 ls h (pIe st fun x => rtn (some (.int x))) Q := G_unf rfl rfl
theorem g20_0 : G d 20 0 ls st h Q ↔ GN d 20 0 ls h (ldR ls 0 fun a => nx 1 ls (.ref a :: st) h) Q := G_unf rfl rfl
theorem g20_1 : G d 20 1 ls st h Q ↔ GN d 20 1 ls h (pR st fun a r => ck (arr h a 1) (nx 4 ls (rv (hR h a 0) :: r) h)) Q := G_unf rfl rfl
theorem g20_4 : G d 20 4 ls st h Q ↔ GN d 20 4 ls h (pR st fun a r => ck (arr h a 0) (nx 7 ls (rv (hR h a 18) :: r) h)) Q := G_unf rfl rfl
theorem g20_7 : G d 20 7 ls st h Q ↔ GN d 20 7 ls h (pR st fun a r => br (a = 1000000) (nx 8 ls (.int (nI 0) :: r) h) (br (a = 1000002) (nx 8 ls (.int (nI 208) :: r) h) (br (a = 1000003) (nx 8 ls (.int (nI (hS h).1) :: r) h) (ck (a < hN h ∧ 10 ≤ lay a) (nx 8 ls (.int (nI (hLn h a)) :: r) h))))) Q := G_unf rfl rfl
theorem g20_8 : G d 20 8 ls st h Q ↔ GN d 20 8 ls h (pI st fun x r => br (¬ x = 0) (nx 13 ls r h) (nx 11 ls r h)) Q := G_unf rfl rfl
theorem g20_11 : G d 20 11 ls st h Q ↔ GN d 20 11 ls h (nx 12 ls (.int (nI 0) :: st) h) Q := G_unf rfl rfl
theorem g20_12 : G d 20 12 ls st h Q ↔ GN d 20 12 ls h (pIe st fun x => rtn (some (.int x))) Q := G_unf rfl rfl
theorem g20_13 : G d 20 13 ls st h Q ↔ GN d 20 13 ls h (ldR ls 0 fun a => nx 14 ls (.ref a :: st) h) Q := G_unf rfl rfl
theorem g20_14 : G d 20 14 ls st h Q ↔ GN d 20 14 ls h (ldR ls 1 fun a => nx 15 ls (.ref a :: st) h) Q := G_unf rfl rfl
theorem g20_15 : G d 20 15 ls st h Q ↔ GN d 20 15 ls h (ldI ls 2 fun x => nx 16 ls (.int x :: st) h) Q := G_unf rfl rfl
theorem g20_16 : G d 20 16 ls st h Q ↔ GN d 20 16 ls h (pA 2 st fun as r => pR r fun a r => ck (r.length ≤ 4 ∧ arr h a 1) (cll 21 (.ref a :: as) r)) Q := G_unf rfl rfl
theorem g20_19 : G d 20 19 ls st h Q ↔ GN d 20 19 ls h (ldR ls 0 fun a => nx 20 ls (.ref a :: st) h) Q := G_unf rfl rfl
theorem g20_20 : G d 20 20 ls st h Q ↔ GN d 20 20 ls h (pR st fun a r => ck (arr h a 1) (nx 23 ls (rv (hR h a 1) :: r) h)) Q := G_unf rfl rfl
theorem g20_23 : G d 20 23 ls st h Q ↔ GN d 20 23 ls h (ldR ls 0 fun a => nx 24 ls (.ref a :: st) h) Q := G_unf rfl rfl
theorem g20_24 : G d 20 24 ls st h Q ↔ GN d 20 24 ls h (pR st fun a r => ck (arr h a 1) (nx 27 ls (rv (hR h a 0) :: r) h)) Q := G_unf rfl rfl
theorem g20_27 : G d 20 27 ls st h Q ↔ GN d 20 27 ls h (pR st fun a r => ck (arr h a 0) (nx 30 ls (rv (hR h a 2) :: r) h)) Q := G_unf rfl rfl
theorem g20_30 : G d 20 30 ls st h Q ↔ GN d 20 30 ls h (ldI ls 3 fun x => nx 31 ls (.int x :: st) h) Q := G_unf rfl rfl
theorem g20_31 : G d 20 31 ls st h Q ↔ GN d 20 31 ls h (pRI st fun a i r => br (a = 1000003) (ck (inb i (hS h).1) (nx 32 ls (.int ((hS h).2 i.toNatClampNeg) :: r) h)) (ck (arr h a 10 ∧ inb i (hLn h a)) (nx 32 ls (.int (hI h a i.toNatClampNeg) :: r) h))) Q := G_unf rfl rfl
theorem g20_32 : G d 20 32 ls st h Q ↔ GN d 20 32 ls h (pRI st fun a x r => ck (arr h a 7) (nx 35 ls r (sI h a 0 x))) Q := G_unf rfl rfl
theorem g20_35 : G d 20 35 ls st h Q ↔ GN d 20 35 ls h (ldR ls 0 fun a => nx 36 ls (.ref a :: st) h) Q := G_unf rfl rfl
theorem g20_36 : G d 20 36 ls st h Q ↔ GN d 20 36 ls h (pR st fun a r => ck (arr h a 1) (nx 39 ls (rv (hR h a 1) :: r) h)) Q := G_unf rfl rfl
theorem g20_39 : G d 20 39 ls st h Q ↔ GN d 20 39 ls h (ldI ls 4 fun x => nx 41 ls (.int x :: st) h) Q := G_unf rfl rfl
theorem g20_41 : G d 20 41 ls st h Q ↔ GN d 20 41 ls h (pRI st fun a x r => ck (arr h a 7) (nx 44 ls r (sI h a 5 x))) Q := G_unf rfl rfl
theorem g20_44 : G d 20 44 ls st h Q ↔ GN d 20 44 ls h (nx 45 ls (.int (nI 0) :: st) h) Q := G_unf rfl rfl
theorem g20_45 : G d 20 45 ls st h Q ↔ GN d 20 45 ls h (nx 48 ls (.int (nI 999) :: st) h) Q := G_unf rfl rfl
theorem g20_48 : G d 20 48 ls st h Q ↔ GN d 20 48 ls h (ldR ls 0 fun a => nx 49 ls (.ref a :: st) h) Q := G_unf rfl rfl
theorem g20_49 : G d 20 49 ls st h Q ↔ GN d 20 49 ls h (pR st fun a r => ck (arr h a 1) (nx 52 ls (rv (hR h a 1) :: r) h)) Q := G_unf rfl rfl
theorem g20_52 : G d 20 52 ls st h Q ↔ GN d 20 52 ls h (ldR ls 0 fun a => nx 53 ls (.ref a :: st) h) Q := G_unf rfl rfl
theorem g20_53 : G d 20 53 ls st h Q ↔ GN d 20 53 ls h (pR st fun a r => ck (arr h a 1) (nx 56 ls (rv (hR h a 0) :: r) h)) Q := G_unf rfl rfl
theorem g20_56 : G d 20 56 ls st h Q ↔ GN d 20 56 ls h (pR st fun a r => ck (arr h a 0) (nx 59 ls (rv (hR h a 18) :: r) h)) Q := G_unf rfl rfl
theorem g20_59 : G d 20 59 ls st h Q ↔ GN d 20 59 ls h (pA 1 st fun as r => pR r fun a r => ck (r.length ≤ 4 ∧ arr h a 7) (cll 99 (.ref a :: as) r)) Q := G_unf rfl rfl
theorem g20_62 : G d 20 62 ls st h Q ↔ GN d 20 62 ls h (pA 2 st fun as r => ck (r.length ≤ 4) (cll 278 as r)) Q := G_unf rfl rfl
theorem g20_65 : G d 20 65 ls st h Q ↔ GN d 20 65 ls h (pA 2 st fun as r => ck (r.length ≤ 4) (cll 276 as r)) Q := G_unf rfl rfl
theorem g20_68 : G d 20 68 ls st h Q ↔ GN d 20 68 ls h (pIe st fun x => rtn (some (.int x))) Q := G_unf rfl rfl
theorem g21_0 : G d 21 0 ls st h Q ↔ GN d 21 0 ls h (ldR ls 0 fun a => nx 1 ls (.ref a :: st) h) Q := G_unf rfl rfl
theorem g21_1 : G d 21 1 ls st h Q ↔ GN d 21 1 ls h (pR st fun a r => ck (arr h a 1) (nx 4 ls (rv (hR h a 1) :: r) h)) Q := G_unf rfl rfl
theorem g21_4 : G d 21 4 ls st h Q ↔ GN d 21 4 ls h (ldR ls 1 fun a => nx 5 ls (.ref a :: st) h) Q := G_unf rfl rfl
theorem g21_5 : G d 21 5 ls st h Q ↔ GN d 21 5 ls h (pR st fun a r => ck (arr h a 6) (nx 8 ls (.int (hI h a 0) :: r) h)) Q := G_unf rfl rfl
theorem g21_8 : G d 21 8 ls st h Q ↔ GN d 21 8 ls h (pRI st fun a x r => ck (arr h a 7) (nx 11 ls r (sI h a 1 x))) Q := G_unf rfl rfl
theorem g21_11 : G d 21 11 ls st h Q ↔ GN d 21 11 ls h (ldR ls 0 fun a => nx 12 ls (.ref a :: st) h) Q := G_unf rfl rfl
theorem g21_12 : G d 21 12 ls st h Q ↔ GN d 21 12 ls h (pR st fun a r => ck (arr h a 1) (nx 15 ls (rv (hR h a 1) :: r) h)) Q := G_unf rfl rfl
theorem g21_15 : G d 21 15 ls st h Q ↔ GN d 21 15 ls h (ldR ls 0 fun a => nx 16 ls (.ref a :: st) h) Q := G_unf rfl rfl
theorem g21_16 : G d 21 16 ls st h Q ↔ GN d 21 16 ls h (pR st fun a r => ck (arr h a 1) (nx 19 ls (rv (hR h a 0) :: r) h)) Q := G_unf rfl rfl
theorem g21_19 : G d 21 19 ls st h Q ↔ GN d 21 19 ls h (pR st fun a r => ck (arr h a 0) (nx 22 ls (rv (hR h a 8) :: r) h)) Q := G_unf rfl rfl
theorem g21_22 : G d 21 22 ls st h Q ↔ GN d 21 22 ls h (ldI ls 2 fun x => nx 23 ls (.int x :: st) h) Q := G_unf rfl rfl
theorem g21_23 : G d 21 23 ls st h Q ↔ GN d 21 23 ls h (pRI st fun a i r => br (a = 1000003) (ck (inb i (hS h).1) (nx 24 ls (.int ((hS h).2 i.toNatClampNeg) :: r) h)) (ck (arr h a 10 ∧ inb i (hLn h a)) (nx 24 ls (.int (hI h a i.toNatClampNeg) :: r) h))) Q := G_unf rfl rfl
theorem g21_24 : G d 21 24 ls st h Q ↔ GN d 21 24 ls h (pRI st fun a x r => ck (arr h a 7) (nx 27 ls r (sI h a 2 x))) Q := G_unf rfl rfl
theorem g21_27 : G d 21 27 ls st h Q ↔ GN d 21 27 ls h (ldR ls 0 fun a => nx 28 ls (.ref a :: st) h) Q := G_unf rfl rfl
theorem g21_28 : G d 21 28 ls st h Q ↔ GN d 21 28 ls h (pR st fun a r => ck (arr h a 1) (nx 31 ls (rv (hR h a 1) :: r) h)) Q := G_unf rfl rfl
theorem g21_31 : G d 21 31 ls st h Q ↔ GN d 21 31 ls h (nx 32 ls (.int (nI 0) :: st) h) Q := G_unf rfl rfl
theorem g21_32 : G d 21 32 ls st h Q ↔ GN d 21 32 ls h (pRI st fun a x r => ck (arr h a 7) (nx 35 ls r (sI h a 3 x))) Q := G_unf rfl rfl
theorem g21_35 : G d 21 35 ls st h Q ↔ GN d 21 35 ls h (ldR ls 0 fun a => nx 36 ls (.ref a :: st) h) Q := G_unf rfl rfl
theorem g21_36 : G d 21 36 ls st h Q ↔ GN d 21 36 ls h (pR st fun a r => ck (arr h a 1) (nx 39 ls (rv (hR h a 1) :: r) h)) Q := G_unf rfl rfl
theorem g21_39 : G d 21 39 ls st h Q ↔ GN d 21 39 ls h (ldR ls 0 fun a => nx 40 ls (.ref a :: st) h) Q := G_unf rfl rfl
theorem g21_40 : G d 21 40 ls st h Q ↔ GN d 21 40 ls h (ldR ls 1 fun a => nx 41 ls (.ref a :: st) h) Q := G_unf rfl rfl
theorem g21_41 : G d 21 41 ls st h Q ↔ GN d 21 41 ls h (pA 1 st fun as r => pR r fun a r => ck (r.length ≤ 4 ∧ arr h a 1) (cll 17 (.ref a :: as) r)) Q := G_unf rfl rfl
theorem g21_44 : G d 21 44 ls st h Q ↔ GN d 21 44 ls h (pRI st fun a x r => ck (arr h a 7) (nx 47 ls r (sI h a 4 x))) Q := G_unf rfl rfl
theorem g21_47 : G d 21 47 ls st h Q ↔ GN d 21 47 ls h (ldR ls 0 fun a => nx 48 ls (.ref a :: st) h) Q := G_unf rfl rfl
theorem g21_48 : G d 21 48 ls st h Q ↔ GN d 21 48 ls h (pR st fun a r => ck (arr h a 1) (nx 51 ls (rv (hR h a 1) :: r) h)) Q := G_unf rfl rfl
theorem g21_51 : G d 21 51 ls st h Q ↔ GN d 21 51 ls h (nx 52 ls (.int (nI 0) :: st) h) Q := G_unf rfl rfl
theorem g21_52 : G d 21 52 ls st h Q ↔ GN d 21 52 ls h (pRI st fun a x r => ck (arr h a 7) (nx 55 ls r (sI h a 5 x))) Q := G_unf rfl rfl
theorem g21_55 : G d 21 55 ls st h Q ↔ GN d 21 55 ls h (ldR ls 0 fun a => nx 56 ls (.ref a :: st) h) Q := G_unf rfl rfl
theorem g21_56 : G d 21 56 ls st h Q ↔ GN d 21 56 ls h (pR st fun a r => ck (arr h a 1) (nx 59 ls (rv (hR h a 1) :: r) h)) Q := G_unf rfl rfl
theorem g21_59 : G d 21 59 ls st h Q ↔ GN d 21 59 ls h (ldR ls 1 fun a => nx 60 ls (.ref a :: st) h) Q := G_unf rfl rfl
theorem g21_60 : G d 21 60 ls st h Q ↔ GN d 21 60 ls h (pR st fun a r => ck (arr h a 6) (nx 63 ls (rv (hR h a 4) :: r) h)) Q := G_unf rfl rfl
theorem g21_63 : G d 21 63 ls st h Q ↔ GN d 21 63 ls h (ldI ls 2 fun x => nx 64 ls (.int x :: st) h) Q := G_unf rfl rfl
theorem g21_64 : G d 21 64 ls st h Q ↔ GN d 21 64 ls h (pRI st fun a i r => br (a = 1000003) (ck (inb i (hS h).1) (nx 65 ls (.int ((hS h).2 i.toNatClampNeg) :: r) h)) (ck (arr h a 10 ∧ inb i (hLn h a)) (nx 65 ls (.int (hI h a i.toNatClampNeg) :: r) h))) Q := G_unf rfl rfl
theorem g21_65 : G d 21 65 ls st h Q ↔ GN d 21 65 ls h (pA 1 st fun as r => ck (r.length ≤ 4) (cll 273 as r)) Q := G_unf rfl rfl
theorem g21_68 : G d 21 68 ls st h Q ↔ GN d 21 68 ls h (pRI st fun a x r => ck (arr h a 7) (nx 71 ls r (sI h a 6 x))) Q := G_unf rfl rfl
theorem g21_71 : G d 21 71 ls st h Q ↔ GN d 21 71 ls h (ldR ls 0 fun a => nx 72 ls (.ref a :: st) h) Q := G_unf rfl rfl
theorem g21_72 : G d 21 72 ls st h Q ↔ GN d 21 72 ls h (pR st fun a r => ck (arr h a 1) (nx 75 ls (rv (hR h a 1) :: r) h)) Q := G_unf rfl rfl
theorem g21_75 : G d 21 75 ls st h Q ↔ GN d 21 75 ls h (ldR ls 1 fun a => nx 76 ls (.ref a :: st) h) Q := G_unf rfl rfl
theorem g21_76 : G d 21 76 ls st h Q ↔ GN d 21 76 ls h (pR st fun a r => ck (arr h a 6) (nx 79 ls (rv (hR h a 1) :: r) h)) Q := G_unf rfl rfl
theorem g21_79 : G d 21 79 ls st h Q ↔ GN d 21 79 ls h (ldI ls 2 fun x => nx 80 ls (.int x :: st) h) Q := G_unf rfl rfl
theorem g21_80 : G d 21 80 ls st h Q ↔ GN d 21 80 ls h (pRI st fun a i r => br (a = 1000003) (ck (inb i (hS h).1) (nx 81 ls (.int ((hS h).2 i.toNatClampNeg) :: r) h)) (ck (arr h a 10 ∧ inb i (hLn h a)) (nx 81 ls (.int (hI h a i.toNatClampNeg) :: r) h))) Q := G_unf rfl rfl
theorem g21_81 : G d 21 81 ls st h Q ↔ GN d 21 81 ls h (pA 1 st fun as r => ck (r.length ≤ 4) (cll 273 as r)) Q := G_unf rfl rfl
theorem g21_84 : G d 21 84 ls st h Q ↔ GN d 21 84 ls h (pRI st fun a x r => ck (arr h a 7) (nx 87 ls r (sI h a 7 x))) Q := G_unf rfl rfl
theorem g21_87 : G d 21 87 ls st h Q ↔ GN d 21 87 ls h (pE st (rtn none)) Q := G_unf rfl rfl
theorem g22_0 : G d 22 0 ls st h Q ↔ GN d 22 0 ls h (ldR ls 0 fun a => nx 1 ls (.ref a :: st) h) Q := G_unf rfl rfl
theorem g22_1 : G d 22 1 ls st h Q ↔ GN d 22 1 ls h (pR st fun _ r => ck (r.length ≤ 4) (nx 4 ls r h)) Q := G_unf rfl rfl
theorem g22_4 : G d 22 4 ls st h Q ↔ GN d 22 4 ls h (ldR ls 0 fun a => nx 5 ls (.ref a :: st) h) Q := G_unf rfl rfl
theorem g22_5 : G d 22 5 ls st h Q ↔ GN d 22 5 ls h (nx 7 ls (.int (nI 20) :: st) h) Q := G_unf rfl rfl
theorem g22_7 : G d 22 7 ls st h Q ↔ GN d 22 7 ls h (pI st fun z r => ck (0 ≤ z.toInt ∧ z.toInt ≤ 1000000 ∧ lay (hN h) = 14) (nx 10 ls (.ref (hN h) :: r) (alc h z.toNatClampNeg z.toNatClampNeg))) Q := G_unf rfl rfl
theorem g22_10 : G d 22 10 ls st h Q ↔ GN d 22 10 ls h (pRR st fun a x r => ck (arr h a 2) (nx 13 ls r (sR h a 0 (some x)))) Q := G_unf rfl rfl
theorem g22_13 : G d 22 13 ls st h Q ↔ GN d 22 13 ls h (nx 14 ls (.int (nI 0) :: st) h) Q := G_unf rfl rfl
theorem g22_14 : G d 22 14 ls st h Q ↔ GN d 22 14 ls h (pI st fun x r => ck (1 < ls.length) (nx 15 (st1 ls 1 (.int x)) r h)) Q := G_unf rfl rfl
theorem g22_15 : G d 22 15 ls st h Q ↔ GN d 22 15 ls h (ldI ls 1 fun x => nx 16 ls (.int x :: st) h) Q := G_unf rfl rfl
theorem g22_16 : G d 22 16 ls st h Q ↔ GN d 22 16 ls h (nx 18 ls (.int (nI 20) :: st) h) Q := G_unf rfl rfl
theorem g22_18 : G d 22 18 ls st h Q ↔ GN d 22 18 ls h (pII st fun x y r => br (y ≤ x) (nx 40 ls r h) (nx 21 ls r h)) Q := G_unf rfl rfl
theorem g22_21 : G d 22 21 ls st h Q ↔ GN d 22 21 ls h (ldR ls 0 fun a => nx 22 ls (.ref a :: st) h) Q := G_unf rfl rfl
theorem g22_22 : G d 22 22 ls st h Q ↔ GN d 22 22 ls h (pR st fun a r => ck (arr h a 2) (nx 25 ls (rv (hR h a 0) :: r) h)) Q := G_unf rfl rfl
theorem g22_25 : G d 22 25 ls st h Q ↔ GN d 22 25 ls h (ldI ls 1 fun x => nx 26 ls (.int x :: st) h) Q := G_unf rfl rfl
theorem g22_26 : G d 22 26 ls st h Q ↔ GN d 22 26 ls h (ck (lay (hN h) = 6) (nx 29 ls (.ref (hN h) :: st) (alc h 0 9))) Q := G_unf rfl rfl
theorem g22_29 : G d 22 29 ls st h Q ↔ GN d 22 29 ls h (p1 st fun v r => nx 30 ls (v :: v :: r) h) Q := G_unf rfl rfl
theorem g22_30 : G d 22 30 ls st h Q ↔ GN d 22 30 ls h (pA 0 st fun as r => pR r fun a r => ck (r.length ≤ 4 ∧ arr h a 6) (cll 83 (.ref a :: as) r)) Q := G_unf rfl rfl
theorem g22_33 : G d 22 33 ls st h Q ↔ GN d 22 33 ls h (pRIR st fun a i x r => ck (arr h a 14 ∧ arr h x 6 ∧ inb i (hLn h a)) (nx 34 ls r (sR h a i.toNatClampNeg (some x)))) Q := G_unf rfl rfl
theorem g22_34 : G d 22 34 ls st h Q ↔ GN d 22 34 ls h (ldI ls 1 fun x => nx 37 (st1 ls 1 (.int (x + (nI 1)))) st h) Q := G_unf rfl rfl
theorem g22_37 : G d 22 37 ls st h Q ↔ GN d 22 37 ls h (nx 15 ls st h) Q := G_unf rfl rfl
theorem g22_40 : G d 22 40 ls st h Q ↔ GN d 22 40 ls h (pE st (rtn none)) Q := G_unf rfl rfl
theorem g23_0 : G d 23 0 ls st h Q ↔ GN d 23 0 ls h (ldR ls 0 fun a => nx 1 ls (.ref a :: st) h) Q := G_unf rfl rfl
theorem g23_1 : G d 23 1 ls st h Q ↔ GN d 23 1 ls h (nx 2 ls (.int (nI 0) :: st) h) Q := G_unf rfl rfl
theorem g23_2 : G d 23 2 ls st h Q ↔ GN d 23 2 ls h (pRI st fun a x r => ck (arr h a 2) (nx 5 ls r (sI h a 2 x))) Q := G_unf rfl rfl
theorem g23_5 : G d 23 5 ls st h Q ↔ GN d 23 5 ls h (pE st (rtn none)) Q := G_unf rfl rfl
theorem g24_0 : G d 24 0 ls st h Q ↔ GN d 24 0 ls h (ldR ls 0 fun a => nx 1 ls (.ref a :: st) h) Q := G_unf rfl rfl
theorem g24_1 : G d 24 1 ls st h Q ↔ GN d 24 1 ls h (pR st fun a r => ck (arr h a 2) (nx 4 ls (rv (hR h a 0) :: r) h)) Q := G_unf rfl rfl
theorem g24_4 : G d 24 4 ls st h Q ↔ GN d 24 4 ls h (ldR ls 0 fun a => nx 5 ls (.ref a :: st) h) Q := G_unf rfl rfl
theorem g24_5 : G d 24 5 ls st h Q ↔ GN d 24 5 ls h (pR st fun a r => ck (arr h a 2) (nx 8 ls (.int (hI h a 1) :: r) h)) Q := G_unf rfl rfl
theorem g24_8 : G d 24 8 ls st h Q ↔ GN d 24 8 ls h (pRI st fun a i r => ck (arr h a 14 ∧ inb i (hLn h a)) (nx 9 ls (rv (hR h a i.toNatClampNeg) :: r) h)) Q := G_unf rfl rfl
theorem g24_9 : G d 24 9 ls st h Q ↔ GN d 24 9 ls h (ldR ls 1 fun a => nx 10 ls (.ref a :: st) h) Q := G_unf rfl rfl
theorem g24_10 : G d 24 10 ls st h Q ↔ GN d 24 10 ls h (pA 1 st fun as r => pR r fun a r => ck (r.length ≤ 4 ∧ arr h a 6) (cll 85 (.ref a :: as) r)) Q := G_unf rfl rfl
theorem g24_13 : G d 24 13 ls st h Q ↔ GN d 24 13 ls h (ldR ls 0 fun a => nx 14 ls (.ref a :: st) h) Q := G_unf rfl rfl
theorem g24_14 : G d 24 14 ls st h Q ↔ GN d 24 14 ls h (ldR ls 0 fun a => nx 15 ls (.ref a :: st) h) Q := G_unf rfl rfl
theorem g24_15 : G d 24 15 ls st h Q ↔ GN d 24 15 ls h (pR st fun a r => ck (arr h a 2) (nx 18 ls (.int (hI h a 1) :: r) h)) Q := G_unf rfl rfl
theorem g24_18 : G d 24 18 ls st h Q ↔ GN d 24 18 ls h (nx 19 ls (.int (nI 1) :: st) h) Q := G_unf rfl rfl
theorem g24_19 : G d 24 19 ls st h Q ↔ GN d 24 19 ls h (pII st fun x y r => nx 20 ls (.int (x + y) :: r) h) Q := G_unf rfl rfl
theorem g24_20 : G d 24 20 ls st h Q ↔ GN d 24 20 ls h (nx 22 ls (.int (nI 20) :: st) h) Q := G_unf rfl rfl
theorem g24_22 : G d 24 22 ls st h Q ↔ GN d 24 22 ls h (pII st fun x y r => ck (¬ y = 0) (nx 23 ls (.int (x - x / y * y) :: r) h)) Q := G_unf rfl rfl
theorem g24_23 : G d 24 23 ls st h Q ↔ GN d 24 23 ls h (pRI st fun a x r => ck (arr h a 2) (nx 26 ls r (sI h a 1 x))) Q := G_unf rfl rfl
theorem g24_26 : G d 24 26 ls st h Q ↔ GN d 24 26 ls h (ldR ls 0 fun a => nx 27 ls (.ref a :: st) h) Q := G_unf rfl rfl
theorem g24_27 : G d 24 27 ls st h Q ↔ GN d 24 27 ls h (ldR ls 0 fun a => nx 28 ls (.ref a :: st) h) Q := G_unf rfl rfl
theorem g24_28 : G d 24 28 ls st h Q ↔ GN d 24 28 ls h (pR st fun a r => ck (arr h a 2) (nx 31 ls (.int (hI h a 2) :: r) h)) Q := G_unf rfl rfl
theorem g24_31 : G d 24 31 ls st h Q ↔ GN d 24 31 ls h (nx 32 ls (.int (nI 1) :: st) h) Q := G_unf rfl rfl
theorem g24_32 : G d 24 32 ls st h Q ↔ GN d 24 32 ls h (pII st fun x y r => nx 33 ls (.int (x + y) :: r) h) Q := G_unf rfl rfl
theorem g24_33 : G d 24 33 ls st h Q ↔ GN d 24 33 ls h (nx 35 ls (.int (nI 20) :: st) h) Q := G_unf rfl rfl
theorem g24_35 : G d 24 35 ls st h Q ↔ GN d 24 35 ls h (pA 2 st fun as r => ck (r.length ≤ 4) (cll 278 as r)) Q := G_unf rfl rfl
theorem g24_38 : G d 24 38 ls st h Q ↔ GN d 24 38 ls h (pRI st fun a x r => ck (arr h a 2) (nx 41 ls r (sI h a 2 x))) Q := G_unf rfl rfl
theorem g24_41 : G d 24 41 ls st h Q ↔ GN d 24 41 ls h (pE st (rtn none)) Q := G_unf rfl rfl
theorem g25_0 : G d 25 0 ls st h Q ↔ GN d 25 0 ls h (ldR ls 0 fun a => nx 1 ls (.ref a :: st) h) Q := G_unf rfl rfl
theorem g25_1 : G d 25 1 ls st h Q ↔ GN d 25 1 ls h (pR st fun a r => ck (arr h a 2) (nx 4 ls (.int (hI h a 2) :: r) h)) Q := G_unf rfl rfl
theorem g25_4 : G d 25 4 ls st h Q ↔ GN d 25 4 ls h (pI st fun x r => br (x ≤ 0) (nx 46 ls r h) (nx 7 ls r h)) Q := G_unf rfl rfl
theorem g25_7 : G d 25 7 ls st h Q ↔ GN d 25 7 ls h (ldR ls 0 fun a => nx 8 ls (.ref a :: st) h) Q := G_unf rfl rfl
theorem g25_8 : G d 25 8 ls st h Q ↔ GN d 25 8 ls h (ldR ls 0 fun a => nx 9 ls (.ref a :: st) h) Q := G_unf rfl rfl
theorem g25_9 : G d 25 9 ls st h Q ↔ GN d 25 9 ls h (pR st fun a r => ck (arr h a 2) (nx 12 ls (.int (hI h a 1) :: r) h)) Q := G_unf rfl rfl
theorem g25_12 : G d 25 12 ls st h Q ↔ GN d 25 12 ls h (nx 14 ls (.int (nI 20) :: st) h) Q := G_unf rfl rfl
theorem g25_14 : G d 25 14 ls st h Q ↔ GN d 25 14 ls h (pII st fun x y r => nx 15 ls (.int (x + y) :: r) h) Q := G_unf rfl rfl
theorem g25_15 : G d 25 15 ls st h Q ↔ GN d 25 15 ls h (nx 16 ls (.int (nI 1) :: st) h) Q := G_unf rfl rfl
theorem g25_16 : G d 25 16 ls st h Q ↔ GN d 25 16 ls h (pII st fun x y r => nx 17 ls (.int (x - y) :: r) h) Q := G_unf rfl rfl
theorem g25_17 : G d 25 17 ls st h Q ↔ GN d 25 17 ls h (nx 19 ls (.int (nI 20) :: st) h) Q := G_unf rfl rfl
theorem g25_19 : G d 25 19 ls st h Q ↔ GN d 25 19 ls h (pII st fun x y r => ck (¬ y = 0) (nx 20 ls (.int (x - x / y * y) :: r) h)) Q := G_unf rfl rfl
theorem g25_20 : G d 25 20 ls st h Q ↔ GN d 25 20 ls h (pRI st fun a x r => ck (arr h a 2) (nx 23 ls r (sI h a 1 x))) Q := G_unf rfl rfl
theorem g25_23 : G d 25 23 ls st h Q ↔ GN d 25 23 ls h (ldR ls 0 fun a => nx 24 ls (.ref a :: st) h) Q := G_unf rfl rfl
theorem g25_24 : G d 25 24 ls st h Q ↔ GN d 25 24 ls h (p1 st fun v r => nx 25 ls (v :: v :: r) h) Q := G_unf rfl rfl
theorem g25_25 : G d 25 25 ls st h Q ↔ GN d 25 25 ls h (pR st fun a r => ck (arr h a 2) (nx 28 ls (.int (hI h a 2) :: r) h)) Q := G_unf rfl rfl
theorem g25_28 : G d 25 28 ls st h Q ↔ GN d 25 28 ls h (nx 29 ls (.int (nI 1) :: st) h) Q := G_unf rfl rfl
theorem g25_29 : G d 25 29 ls st h Q ↔ GN d 25 29 ls h (pII st fun x y r => nx 30 ls (.int (x - y) :: r) h) Q := G_unf rfl rfl
theorem g25_30 : G d 25 30 ls st h Q ↔ GN d 25 30 ls h (pRI st fun a x r => ck (arr h a 2) (nx 33 ls r (sI h a 2 x))) Q := G_unf rfl rfl
theorem g25_33 : G d 25 33 ls st h Q ↔ GN d 25 33 ls h (ldR ls 1 fun a => nx 34 ls (.ref a :: st) h) Q := G_unf rfl rfl
theorem g25_34 : G d 25 34 ls st h Q ↔ GN d 25 34 ls h (ldR ls 0 fun a => nx 35 ls (.ref a :: st) h) Q := G_unf rfl rfl
theorem g25_35 : G d 25 35 ls st h Q ↔ GN d 25 35 ls h (pR st fun a r => ck (arr h a 2) (nx 38 ls (rv (hR h a 0) :: r) h)) Q := G_unf rfl rfl
theorem g25_38 : G d 25 38 ls st h Q ↔ GN d 25 38 ls h (ldR ls 0 fun a => nx 39 ls (.ref a :: st) h) Q := G_unf rfl rfl
theorem g25_39 : G d 25 39 ls st h Q ↔ GN d 25 39 ls h (pR st fun a r => ck (arr h a 2) (nx 42 ls (.int (hI h a 1) :: r) h)) Q := G_unf rfl rfl
theorem g25_42 : G d 25 42 ls st h Q ↔ GN d 25 42 ls h (pRI st fun a i r => ck (arr h a 14 ∧ inb i (hLn h a)) (nx 43 ls (rv (hR h a i.toNatClampNeg) :: r) h)) Q := G_unf rfl rfl
theorem g25_43 : G d 25 43 ls st h Q ↔ GN d 25 43 ls h (pA 1 st fun as r => pR r fun a r => ck (r.length ≤ 4 ∧ arr h a 6) (cll 85 (.ref a :: as) r)) Q := G_unf rfl rfl
theorem g25_46 : G d 25 46 ls st h Q ↔ GN d 25 46 ls h (pE st (rtn none)) Q := G_unf rfl rfl
theorem g26_0 : G d 26 0 ls st h Q ↔ GN d 26 0 ls h (ldR ls 0 fun a => nx 1 ls (.ref a :: st) h) Q := G_unf rfl rfl
theorem g26_1 : G d 26 1 ls st h Q ↔ GN d 26 1 ls h (pR st fun _ r => ck (r.length ≤ 4) (nx 4 ls r h)) Q := G_unf rfl rfl
theorem g26_4 : G d 26 4 ls st h Q ↔ GN d 26 4 ls h (ldR ls 0 fun a => nx 5 ls (.ref a :: st) h) Q := G_unf rfl rfl
theorem g26_5 : G d 26 5 ls st h Q ↔ GN d 26 5 ls h (nx 8 ls (.int (nI 227) :: st) h) Q := G_unf rfl rfl
theorem g26_8 : G d 26 8 ls st h Q ↔ GN d 26 8 ls h (pI st fun z r => ck (0 ≤ z.toInt ∧ z.toInt ≤ 1000000 ∧ lay (hN h) = 11) (nx 10 ls (.ref (hN h) :: r) (alc h z.toNatClampNeg z.toNatClampNeg))) Q := G_unf rfl rfl
theorem g26_10 : G d 26 10 ls st h Q ↔ GN d 26 10 ls h (pRR st fun a x r => ck (arr h a 3) (nx 13 ls r (sR h a 0 (some x)))) Q := G_unf rfl rfl
theorem g26_13 : G d 26 13 ls st h Q ↔ GN d 26 13 ls h (pE st (rtn none)) Q := G_unf rfl rfl
theorem g27_0 : G d 27 0 ls st h Q ↔ GN d 27 0 ls h (ldR ls 0 fun a => nx 1 ls (.ref a :: st) h) Q := G_unf rfl rfl
theorem g27_1 : G d 27 1 ls st h Q ↔ GN d 27 1 ls h (nx 2 ls (.int (nI 0) :: st) h) Q := G_unf rfl rfl
theorem g27_2 : G d 27 2 ls st h Q ↔ GN d 27 2 ls h (pRI st fun a x r => ck (arr h a 3) (nx 5 ls r (sI h a 1 x))) Q := G_unf rfl rfl
theorem g27_5 : G d 27 5 ls st h Q ↔ GN d 27 5 ls h (ldR ls 0 fun a => nx 6 ls (.ref a :: st) h) Q := G_unf rfl rfl
theorem g27_6 : G d 27 6 ls st h Q ↔ GN d 27 6 ls h (ldR ls 2 fun a => nx 7 ls (.ref a :: st) h) Q := G_unf rfl rfl
theorem g27_7 : G d 27 7 ls st h Q ↔ GN d 27 7 ls h (pR st fun a r => ck (arr h a 6) (nx 10 ls (.int (hI h a 0) :: r) h)) Q := G_unf rfl rfl
theorem g27_10 : G d 27 10 ls st h Q ↔ GN d 27 10 ls h (pA 1 st fun as r => pR r fun a r => ck (r.length ≤ 4 ∧ arr h a 3) (cll 28 (.ref a :: as) r)) Q := G_unf rfl rfl
theorem g27_13 : G d 27 13 ls st h Q ↔ GN d 27 13 ls h (nx 14 ls (.int (nI 0) :: st) h) Q := G_unf rfl rfl
theorem g27_14 : G d 27 14 ls st h Q ↔ GN d 27 14 ls h (pI st fun x r => ck (3 < ls.length) (nx 15 (st1 ls 3 (.int x)) r h)) Q := G_unf rfl rfl
theorem g27_15 : G d 27 15 ls st h Q ↔ GN d 27 15 ls h (ldI ls 3 fun x => nx 16 ls (.int x :: st) h) Q := G_unf rfl rfl
theorem g27_16 : G d 27 16 ls st h Q ↔ GN d 27 16 ls h (ldR ls 1 fun a => nx 17 ls (.ref a :: st) h) Q := G_unf rfl rfl
theorem g27_17 : G d 27 17 ls st h Q ↔ GN d 27 17 ls h (pR st fun a r => ck (arr h a 0) (nx 20 ls (.int (hI h a 10) :: r) h)) Q := G_unf rfl rfl
theorem g27_20 : G d 27 20 ls st h Q ↔ GN d 27 20 ls h (pII st fun x y r => br (y ≤ x) (nx 99 ls r h) (nx 23 ls r h)) Q := G_unf rfl rfl
theorem g27_23 : G d 27 23 ls st h Q ↔ GN d 27 23 ls h (ldR ls 0 fun a => nx 24 ls (.ref a :: st) h) Q := G_unf rfl rfl
theorem g27_24 : G d 27 24 ls st h Q ↔ GN d 27 24 ls h (ldR ls 2 fun a => nx 25 ls (.ref a :: st) h) Q := G_unf rfl rfl
theorem g27_25 : G d 27 25 ls st h Q ↔ GN d 27 25 ls h (pR st fun a r => ck (arr h a 6) (nx 28 ls (rv (hR h a 1) :: r) h)) Q := G_unf rfl rfl
theorem g27_28 : G d 27 28 ls st h Q ↔ GN d 27 28 ls h (ldI ls 3 fun x => nx 29 ls (.int x :: st) h) Q := G_unf rfl rfl
theorem g27_29 : G d 27 29 ls st h Q ↔ GN d 27 29 ls h (pRI st fun a i r => br (a = 1000003) (ck (inb i (hS h).1) (nx 30 ls (.int ((hS h).2 i.toNatClampNeg) :: r) h)) (ck (arr h a 10 ∧ inb i (hLn h a)) (nx 30 ls (.int (hI h a i.toNatClampNeg) :: r) h))) Q := G_unf rfl rfl
theorem g27_30 : G d 27 30 ls st h Q ↔ GN d 27 30 ls h (pA 1 st fun as r => pR r fun a r => ck (r.length ≤ 4 ∧ arr h a 3) (cll 28 (.ref a :: as) r)) Q := G_unf rfl rfl
theorem g27_33 : G d 27 33 ls st h Q ↔ GN d 27 33 ls h (ldR ls 0 fun a => nx 34 ls (.ref a :: st) h) Q := G_unf rfl rfl
theorem g27_34 : G d 27 34 ls st h Q ↔ GN d 27 34 ls h (ldR ls 2 fun a => nx 35 ls (.ref a :: st) h) Q := G_unf rfl rfl
theorem g27_35 : G d 27 35 ls st h Q ↔ GN d 27 35 ls h (pR st fun a r => ck (arr h a 6) (nx 38 ls (rv (hR h a 2) :: r) h)) Q := G_unf rfl rfl
theorem g27_38 : G d 27 38 ls st h Q ↔ GN d 27 38 ls h (ldI ls 3 fun x => nx 39 ls (.int x :: st) h) Q := G_unf rfl rfl
theorem g27_39 : G d 27 39 ls st h Q ↔ GN d 27 39 ls h (pRI st fun a i r => br (a = 1000003) (ck (inb i (hS h).1) (nx 40 ls (.int ((hS h).2 i.toNatClampNeg) :: r) h)) (ck (arr h a 10 ∧ inb i (hLn h a)) (nx 40 ls (.int (hI h a i.toNatClampNeg) :: r) h))) Q := G_unf rfl rfl
theorem g27_40 : G d 27 40 ls st h Q ↔ GN d 27 40 ls h (pA 1 st fun as r => pR r fun a r => ck (r.length ≤ 4 ∧ arr h a 3) (cll 28 (.ref a :: as) r)) Q := G_unf rfl rfl
theorem g27_43 : G d 27 43 ls st h Q ↔ GN d 27 43 ls h (nx 44 ls (.int (nI 0) :: st) h) Q := G_unf rfl rfl
theorem g27_44 : G d 27 44 ls st h Q ↔ GN d 27 44 ls h (pI st fun x r => ck (4 < ls.length) (nx 46 (st1 ls 4 (.int x)) r h)) Q := G_unf rfl rfl
theorem g27_46 : G d 27 46 ls st h Q ↔ GN d 27 46 ls h (ldI ls 4 fun x => nx 48 ls (.int x :: st) h) Q := G_unf rfl rfl
theorem g27_48 : G d 27 48 ls st h Q ↔ GN d 27 48 ls h (ldR ls 1 fun a => nx 49 ls (.ref a :: st) h) Q := G_unf rfl rfl
theorem g27_49 : G d 27 49 ls st h Q ↔ GN d 27 49 ls h (pR st fun a r => ck (arr h a 0) (nx 52 ls (.int (hI h a 3) :: r) h)) Q := G_unf rfl rfl
theorem g27_52 : G d 27 52 ls st h Q ↔ GN d 27 52 ls h (pII st fun x y r => br (y ≤ x) (nx 93 ls r h) (nx 55 ls r h)) Q := G_unf rfl rfl
theorem g27_55 : G d 27 55 ls st h Q ↔ GN d 27 55 ls h (ldR ls 0 fun a => nx 56 ls (.ref a :: st) h) Q := G_unf rfl rfl
theorem g27_56 : G d 27 56 ls st h Q ↔ GN d 27 56 ls h (ldR ls 2 fun a => nx 57 ls (.ref a :: st) h) Q := G_unf rfl rfl
theorem g27_57 : G d 27 57 ls st h Q ↔ GN d 27 57 ls h (ldI ls 3 fun x => nx 58 ls (.int x :: st) h) Q := G_unf rfl rfl
theorem g27_58 : G d 27 58 ls st h Q ↔ GN d 27 58 ls h (ldI ls 4 fun x => nx 60 ls (.int x :: st) h) Q := G_unf rfl rfl
theorem g27_60 : G d 27 60 ls st h Q ↔ GN d 27 60 ls h (pA 2 st fun as r => pR r fun a r => ck (r.length ≤ 4 ∧ arr h a 6) (cll 88 (.ref a :: as) r)) Q := G_unf rfl rfl
theorem g27_63 : G d 27 63 ls st h Q ↔ GN d 27 63 ls h (pI st fun x r => br (x = 0) (nx 83 ls r h) (nx 66 ls r h)) Q := G_unf rfl rfl
theorem g27_66 : G d 27 66 ls st h Q ↔ GN d 27 66 ls h (ldR ls 2 fun a => nx 67 ls (.ref a :: st) h) Q := G_unf rfl rfl
theorem g27_67 : G d 27 67 ls st h Q ↔ GN d 27 67 ls h (pR st fun a r => ck (arr h a 6) (nx 70 ls (rv (hR h a 3) :: r) h)) Q := G_unf rfl rfl
theorem g27_70 : G d 27 70 ls st h Q ↔ GN d 27 70 ls h (ldI ls 3 fun x => nx 71 ls (.int x :: st) h) Q := G_unf rfl rfl
theorem g27_71 : G d 27 71 ls st h Q ↔ GN d 27 71 ls h (nx 73 ls (.int (nI 12) :: st) h) Q := G_unf rfl rfl
theorem g27_73 : G d 27 73 ls st h Q ↔ GN d 27 73 ls h (pII st fun x y r => nx 74 ls (.int (x * y) :: r) h) Q := G_unf rfl rfl
theorem g27_74 : G d 27 74 ls st h Q ↔ GN d 27 74 ls h (ldI ls 4 fun x => nx 76 ls (.int x :: st) h) Q := G_unf rfl rfl
theorem g27_76 : G d 27 76 ls st h Q ↔ GN d 27 76 ls h (pII st fun x y r => nx 77 ls (.int (x + y) :: r) h) Q := G_unf rfl rfl
theorem g27_77 : G d 27 77 ls st h Q ↔ GN d 27 77 ls h (pRI st fun a i r => br (a = 1000003) (ck (inb i (hS h).1) (nx 78 ls (.int ((hS h).2 i.toNatClampNeg) :: r) h)) (ck (arr h a 10 ∧ inb i (hLn h a)) (nx 78 ls (.int (hI h a i.toNatClampNeg) :: r) h))) Q := G_unf rfl rfl
theorem g27_78 : G d 27 78 ls st h Q ↔ GN d 27 78 ls h (nx 79 ls (.int (nI 1) :: st) h) Q := G_unf rfl rfl
theorem g27_79 : G d 27 79 ls st h Q ↔ GN d 27 79 ls h (pII st fun x y r => nx 80 ls (.int (x + y) :: r) h) Q := G_unf rfl rfl
theorem g27_80 : G d 27 80 ls st h Q ↔ GN d 27 80 ls h (nx 84 ls st h) Q := G_unf rfl rfl
theorem g27_83 : G d 27 83 ls st h Q ↔ GN d 27 83 ls h (nx 84 ls (.int (nI 0) :: st) h) Q := G_unf rfl rfl
theorem g27_84 : G d 27 84 ls st h Q ↔ GN d 27 84 ls h (pA 1 st fun as r => pR r fun a r => ck (r.length ≤ 4 ∧ arr h a 3) (cll 28 (.ref a :: as) r)) Q := G_unf rfl rfl
theorem g27_87 : G d 27 87 ls st h Q ↔ GN d 27 87 ls h (ldI ls 4 fun x => nx 90 (st1 ls 4 (.int (x + (nI 1)))) st h) Q := G_unf rfl rfl
theorem g27_90 : G d 27 90 ls st h Q ↔ GN d 27 90 ls h (nx 46 ls st h) Q := G_unf rfl rfl
theorem g27_93 : G d 27 93 ls st h Q ↔ GN d 27 93 ls h (ldI ls 3 fun x => nx 96 (st1 ls 3 (.int (x + (nI 1)))) st h) Q := G_unf rfl rfl
theorem g27_96 : G d 27 96 ls st h Q ↔ GN d 27 96 ls h (nx 15 ls st h) Q := G_unf rfl rfl
theorem g27_99 : G d 27 99 ls st h Q ↔ GN d 27 99 ls h (ldR ls 0 fun a => nx 100 ls (.ref a :: st) h) Q := G_unf rfl rfl
theorem g27_100 : G d 27 100 ls st h Q ↔ GN d 27 100 ls h (ldR ls 0 fun a => nx 101 ls (.ref a :: st) h) Q := G_unf rfl rfl
theorem g27_101 : G d 27 101 ls st h Q ↔ GN d 27 101 ls h (pR st fun a r => ck (arr h a 3) (nx 104 ls (rv (hR h a 0) :: r) h)) Q := G_unf rfl rfl
theorem g27_104 : G d 27 104 ls st h Q ↔ GN d 27 104 ls h (ldR ls 0 fun a => nx 105 ls (.ref a :: st) h) Q := G_unf rfl rfl
theorem g27_105 : G d 27 105 ls st h Q ↔ GN d 27 105 ls h (pR st fun a r => ck (arr h a 3) (nx 108 ls (.int (hI h a 1) :: r) h)) Q := G_unf rfl rfl
theorem g27_108 : G d 27 108 ls st h Q ↔ GN d 27 108 ls h (pA 2 st fun as r => ck (r.length ≤ 4) (cll 30 as r)) Q := G_unf rfl rfl
theorem g27_111 : G d 27 111 ls st h Q ↔ GN d 27 111 ls h (pA 1 st fun as r => pR r fun a r => ck (r.length ≤ 4 ∧ arr h a 3) (cll 29 (.ref a :: as) r)) Q := G_unf rfl rfl
theorem g27_114 : G d 27 114 ls st h Q ↔ GN d 27 114 ls h (pE st (rtn none)) Q := G_unf rfl rfl
theorem g28_0 : G d 28 0 ls st h Q ↔ GN d 28 0 ls h (ldR ls 0 fun a => nx 1 ls (.ref a :: st) h) Q := G_unf rfl rfl
theorem g28_1 : G d 28 1 ls st h Q ↔ GN d 28 1 ls h (ldI ls 1 fun x => nx 2 ls (.int x :: st) h) Q := G_unf rfl rfl
theorem g28_2 : G d 28 2 ls st h Q ↔ GN d 28 2 ls h (nx 4 ls (.int (nI 8) :: st) h) Q := G_unf rfl rfl
theorem g28_4 : G d 28 4 ls st h Q ↔ GN d 28 4 ls h (pII st fun x y r => nx 5 ls (.int (x >>> (y &&& 31)) :: r) h) Q := G_unf rfl rfl
theorem g28_5 : G d 28 5 ls st h Q ↔ GN d 28 5 ls h (pA 1 st fun as r => pR r fun a r => ck (r.length ≤ 4 ∧ arr h a 3) (cll 29 (.ref a :: as) r)) Q := G_unf rfl rfl
theorem g28_8 : G d 28 8 ls st h Q ↔ GN d 28 8 ls h (ldR ls 0 fun a => nx 9 ls (.ref a :: st) h) Q := G_unf rfl rfl
theorem g28_9 : G d 28 9 ls st h Q ↔ GN d 28 9 ls h (ldI ls 1 fun x => nx 10 ls (.int x :: st) h) Q := G_unf rfl rfl
theorem g28_10 : G d 28 10 ls st h Q ↔ GN d 28 10 ls h (pA 1 st fun as r => pR r fun a r => ck (r.length ≤ 4 ∧ arr h a 3) (cll 29 (.ref a :: as) r)) Q := G_unf rfl rfl
theorem g28_13 : G d 28 13 ls st h Q ↔ GN d 28 13 ls h (pE st (rtn none)) Q := G_unf rfl rfl
theorem g29_0 : G d 29 0 ls st h Q ↔ GN d 29 0 ls h (ldR ls 0 fun a => nx 1 ls (.ref a :: st) h) Q := G_unf rfl rfl
theorem g29_1 : G d 29 1 ls st h Q ↔ GN d 29 1 ls h (pR st fun a r => ck (arr h a 3) (nx 4 ls (.int (hI h a 1) :: r) h)) Q := G_unf rfl rfl
theorem g29_4 : G d 29 4 ls st h Q ↔ GN d 29 4 ls h (nx 7 ls (.int (nI 227) :: st) h) Q := G_unf rfl rfl
theorem g29_7 : G d 29 7 ls st h Q ↔ GN d 29 7 ls h (pII st fun x y r => br (y ≤ x) (nx 31 ls r h) (nx 10 ls r h)) Q := G_unf rfl rfl
theorem g29_10 : G d 29 10 ls st h Q ↔ GN d 29 10 ls h (ldR ls 0 fun a => nx 11 ls (.ref a :: st) h) Q := G_unf rfl rfl
theorem g29_11 : G d 29 11 ls st h Q ↔ GN d 29 11 ls h (pR st fun a r => ck (arr h a 3) (nx 14 ls (rv (hR h a 0) :: r) h)) Q := G_unf rfl rfl
theorem g29_14 : G d 29 14 ls st h Q ↔ GN d 29 14 ls h (ldR ls 0 fun a => nx 15 ls (.ref a :: st) h) Q := G_unf rfl rfl
theorem g29_15 : G d 29 15 ls st h Q ↔ GN d 29 15 ls h (pR st fun a r => ck (arr h a 3) (nx 18 ls (.int (hI h a 1) :: r) h)) Q := G_unf rfl rfl
theorem g29_18 : G d 29 18 ls st h Q ↔ GN d 29 18 ls h (ldI ls 1 fun x => nx 19 ls (.int x :: st) h) Q := G_unf rfl rfl
theorem g29_19 : G d 29 19 ls st h Q ↔ GN d 29 19 ls h (pI st fun x r => nx 20 ls (.int x.toInt8.toInt32 :: r) h) Q := G_unf rfl rfl
theorem g29_20 : G d 29 20 ls st h Q ↔ GN d 29 20 ls h (pRII st fun a i x r => ck ((arr h a 11 ∨ arr h a 12) ∧ inb i (hLn h a)) (nx 21 ls r (sI h a i.toNatClampNeg (if lay a = 11 then vp_nar .byte x else vp_nar .boolean x)))) Q := G_unf rfl rfl
theorem g29_21 : G d 29 21 ls st h Q ↔ GN d 29 21 ls h (ldR ls 0 fun a => nx 22 ls (.ref a :: st) h) Q := G_unf rfl rfl
theorem g29_22 : G d 29 22 ls st h Q ↔ GN d 29 22 ls h (p1 st fun v r => nx 23 ls (v :: v :: r) h) Q := G_unf rfl rfl
theorem g29_23 : G d 29 23 ls st h Q ↔ GN d 29 23 ls h (pR st fun a r => ck (arr h a 3) (nx 26 ls (.int (hI h a 1) :: r) h)) Q := G_unf rfl rfl
theorem g29_26 : G d 29 26 ls st h Q ↔ GN d 29 26 ls h (nx 27 ls (.int (nI 1) :: st) h) Q := G_unf rfl rfl
theorem g29_27 : G d 29 27 ls st h Q ↔ GN d 29 27 ls h (pII st fun x y r => nx 28 ls (.int (x + y) :: r) h) Q := G_unf rfl rfl
theorem g29_28 : G d 29 28 ls st h Q ↔ GN d 29 28 ls h (pRI st fun a x r => ck (arr h a 3) (nx 31 ls r (sI h a 1 x))) Q := G_unf rfl rfl
theorem g29_31 : G d 29 31 ls st h Q ↔ GN d 29 31 ls h (pE st (rtn none)) Q := G_unf rfl rfl
theorem g30_0 : G d 30 0 ls st h Q ↔ GN d 30 0 ls h (nx 2 ls (.int (nI 101) :: st) h) Q := G_unf rfl rfl
theorem g30_2 : G d 30 2 ls st h Q ↔ GN d 30 2 ls h (pI st fun x r => ck (2 < ls.length) (nx 3 (st1 ls 2 (.int x)) r h)) Q := G_unf rfl rfl
theorem g30_3 : G d 30 3 ls st h Q ↔ GN d 30 3 ls h (nx 4 ls (.int (nI 0) :: st) h) Q := G_unf rfl rfl
theorem g30_4 : G d 30 4 ls st h Q ↔ GN d 30 4 ls h (pI st fun x r => ck (3 < ls.length) (nx 5 (st1 ls 3 (.int x)) r h)) Q := G_unf rfl rfl
theorem g30_5 : G d 30 5 ls st h Q ↔ GN d 30 5 ls h (ldI ls 3 fun x => nx 6 ls (.int x :: st) h) Q := G_unf rfl rfl
theorem g30_6 : G d 30 6 ls st h Q ↔ GN d 30 6 ls h (ldI ls 1 fun x => nx 7 ls (.int x :: st) h) Q := G_unf rfl rfl
theorem g30_7 : G d 30 7 ls st h Q ↔ GN d 30 7 ls h (pII st fun x y r => br (y ≤ x) (nx 38 ls r h) (nx 10 ls r h)) Q := G_unf rfl rfl
theorem g30_10 : G d 30 10 ls st h Q ↔ GN d 30 10 ls h (ldI ls 3 fun x => nx 11 ls (.int x :: st) h) Q := G_unf rfl rfl
theorem g30_11 : G d 30 11 ls st h Q ↔ GN d 30 11 ls h (ldR ls 0 fun a => nx 12 ls (.ref a :: st) h) Q := G_unf rfl rfl
theorem g30_12 : G d 30 12 ls st h Q ↔ GN d 30 12 ls h (pR st fun a r => br (a = 1000000) (nx 13 ls (.int (nI 0) :: r) h) (br (a = 1000002) (nx 13 ls (.int (nI 208) :: r) h) (br (a = 1000003) (nx 13 ls (.int (nI (hS h).1) :: r) h) (ck (a < hN h ∧ 10 ≤ lay a) (nx 13 ls (.int (nI (hLn h a)) :: r) h))))) Q := G_unf rfl rfl
theorem g30_13 : G d 30 13 ls st h Q ↔ GN d 30 13 ls h (pII st fun x y r => br (y ≤ x) (nx 38 ls r h) (nx 16 ls r h)) Q := G_unf rfl rfl
theorem g30_16 : G d 30 16 ls st h Q ↔ GN d 30 16 ls h (nx 17 ls (.int (nI 5) :: st) h) Q := G_unf rfl rfl
theorem g30_17 : G d 30 17 ls st h Q ↔ GN d 30 17 ls h (ldI ls 2 fun x => nx 18 ls (.int x :: st) h) Q := G_unf rfl rfl
theorem g30_18 : G d 30 18 ls st h Q ↔ GN d 30 18 ls h (pII st fun x y r => nx 19 ls (.int (x * y) :: r) h) Q := G_unf rfl rfl
theorem g30_19 : G d 30 19 ls st h Q ↔ GN d 30 19 ls h (ldR ls 0 fun a => nx 20 ls (.ref a :: st) h) Q := G_unf rfl rfl
theorem g30_20 : G d 30 20 ls st h Q ↔ GN d 30 20 ls h (ldI ls 3 fun x => nx 21 ls (.int x :: st) h) Q := G_unf rfl rfl
theorem g30_21 : G d 30 21 ls st h Q ↔ GN d 30 21 ls h (pRI st fun a i r => br (a = 1000002) (ck (inb i 208) (nx 22 ls (.int (ownB i.toNatClampNeg) :: r) h)) (ck ((arr h a 11 ∨ arr h a 12) ∧ inb i (hLn h a)) (nx 22 ls (.int (hI h a i.toNatClampNeg) :: r) h))) Q := G_unf rfl rfl
theorem g30_22 : G d 30 22 ls st h Q ↔ GN d 30 22 ls h (nx 25 ls (.int (nI 255) :: st) h) Q := G_unf rfl rfl
theorem g30_25 : G d 30 25 ls st h Q ↔ GN d 30 25 ls h (pII st fun x y r => nx 26 ls (.int (x &&& y) :: r) h) Q := G_unf rfl rfl
theorem g30_26 : G d 30 26 ls st h Q ↔ GN d 30 26 ls h (pII st fun x y r => nx 27 ls (.int (x + y) :: r) h) Q := G_unf rfl rfl
theorem g30_27 : G d 30 27 ls st h Q ↔ GN d 30 27 ls h (nx 30 ls (.int (nI 251) :: st) h) Q := G_unf rfl rfl
theorem g30_30 : G d 30 30 ls st h Q ↔ GN d 30 30 ls h (pII st fun x y r => ck (¬ y = 0) (nx 31 ls (.int (x - x / y * y) :: r) h)) Q := G_unf rfl rfl
theorem g30_31 : G d 30 31 ls st h Q ↔ GN d 30 31 ls h (pI st fun x r => ck (2 < ls.length) (nx 32 (st1 ls 2 (.int x)) r h)) Q := G_unf rfl rfl
theorem g30_32 : G d 30 32 ls st h Q ↔ GN d 30 32 ls h (ldI ls 3 fun x => nx 35 (st1 ls 3 (.int (x + (nI 1)))) st h) Q := G_unf rfl rfl
theorem g30_35 : G d 30 35 ls st h Q ↔ GN d 30 35 ls h (nx 5 ls st h) Q := G_unf rfl rfl
theorem g30_38 : G d 30 38 ls st h Q ↔ GN d 30 38 ls h (ldI ls 2 fun x => nx 39 ls (.int x :: st) h) Q := G_unf rfl rfl
theorem g30_39 : G d 30 39 ls st h Q ↔ GN d 30 39 ls h (pIe st fun x => rtn (some (.int x))) Q := G_unf rfl rfl
theorem g31_0 : G d 31 0 ls st h Q ↔ GN d 31 0 ls h (nx 1 ls (.int (nI 2) :: st) h) Q := G_unf rfl rfl
theorem g31_1 : G d 31 1 ls st h Q ↔ GN d 31 1 ls h (ldR ls 2 fun a => nx 2 ls (.ref a :: st) h) Q := G_unf rfl rfl
theorem g31_2 : G d 31 2 ls st h Q ↔ GN d 31 2 ls h (pR st fun a r => ck (arr h a 0) (nx 5 ls (.int (hI h a 10) :: r) h)) Q := G_unf rfl rfl
theorem g31_5 : G d 31 5 ls st h Q ↔ GN d 31 5 ls h (nx 6 ls (.int (nI 4) :: st) h) Q := G_unf rfl rfl
theorem g31_6 : G d 31 6 ls st h Q ↔ GN d 31 6 ls h (nx 7 ls (.int (nI 2) :: st) h) Q := G_unf rfl rfl
theorem g31_7 : G d 31 7 ls st h Q ↔ GN d 31 7 ls h (ldR ls 2 fun a => nx 8 ls (.ref a :: st) h) Q := G_unf rfl rfl
theorem g31_8 : G d 31 8 ls st h Q ↔ GN d 31 8 ls h (pR st fun a r => ck (arr h a 0) (nx 11 ls (.int (hI h a 3) :: r) h)) Q := G_unf rfl rfl
theorem g31_11 : G d 31 11 ls st h Q ↔ GN d 31 11 ls h (pII st fun x y r => nx 12 ls (.int (x * y) :: r) h) Q := G_unf rfl rfl
theorem g31_12 : G d 31 12 ls st h Q ↔ GN d 31 12 ls h (pII st fun x y r => nx 13 ls (.int (x + y) :: r) h) Q := G_unf rfl rfl
theorem g31_13 : G d 31 13 ls st h Q ↔ GN d 31 13 ls h (pII st fun x y r => nx 14 ls (.int (x * y) :: r) h) Q := G_unf rfl rfl
theorem g31_14 : G d 31 14 ls st h Q ↔ GN d 31 14 ls h (pII st fun x y r => nx 15 ls (.int (x + y) :: r) h) Q := G_unf rfl rfl
theorem g31_15 : G d 31 15 ls st h Q ↔ GN d 31 15 ls h (nx 16 ls (.int (nI 1) :: st) h) Q := G_unf rfl rfl
theorem g31_16 : G d 31 16 ls st h Q ↔ GN d 31 16 ls h (pII st fun x y r => nx 17 ls (.int (x + y) :: r) h) Q := G_unf rfl rfl
theorem g31_17 : G d 31 17 ls st h Q ↔ GN d 31 17 ls h (pI st fun x r => ck (4 < ls.length) (nx 19 (st1 ls 4 (.int x)) r h)) Q := G_unf rfl rfl
theorem g31_19 : G d 31 19 ls st h Q ↔ GN d 31 19 ls h (ldI ls 1 fun x => nx 20 ls (.int x :: st) h) Q := G_unf rfl rfl
theorem g31_20 : G d 31 20 ls st h Q ↔ GN d 31 20 ls h (ldI ls 4 fun x => nx 22 ls (.int x :: st) h) Q := G_unf rfl rfl
theorem g31_22 : G d 31 22 ls st h Q ↔ GN d 31 22 ls h (pII st fun x y r => br (¬ x = y) (nx 31 ls r h) (nx 25 ls r h)) Q := G_unf rfl rfl
theorem g31_25 : G d 31 25 ls st h Q ↔ GN d 31 25 ls h (ldI ls 1 fun x => nx 26 ls (.int x :: st) h) Q := G_unf rfl rfl
theorem g31_26 : G d 31 26 ls st h Q ↔ GN d 31 26 ls h (ldR ls 0 fun a => nx 27 ls (.ref a :: st) h) Q := G_unf rfl rfl
theorem g31_27 : G d 31 27 ls st h Q ↔ GN d 31 27 ls h (pR st fun a r => br (a = 1000000) (nx 28 ls (.int (nI 0) :: r) h) (br (a = 1000002) (nx 28 ls (.int (nI 208) :: r) h) (br (a = 1000003) (nx 28 ls (.int (nI (hS h).1) :: r) h) (ck (a < hN h ∧ 10 ≤ lay a) (nx 28 ls (.int (nI (hLn h a)) :: r) h))))) Q := G_unf rfl rfl
theorem g31_28 : G d 31 28 ls st h Q ↔ GN d 31 28 ls h (pII st fun x y r => br (x ≤ y) (nx 33 ls r h) (nx 31 ls r h)) Q := G_unf rfl rfl
theorem g31_31 : G d 31 31 ls st h Q ↔ GN d 31 31 ls h (nx 32 ls (.int (nI 0) :: st) h) Q := G_unf rfl rfl
theorem g31_32 : G d 31 32 ls st h Q ↔ GN d 31 32 ls h (pIe st fun x => ck (x = 0 ∨ x = 1) (rtn (some (.int x)))) Q := G_unf rfl rfl
theorem g31_33 : G d 31 33 ls st h Q ↔ GN d 31 33 ls h (ldR ls 0 fun a => nx 34 ls (.ref a :: st) h) Q := G_unf rfl rfl
theorem g31_34 : G d 31 34 ls st h Q ↔ GN d 31 34 ls h (ldI ls 1 fun x => nx 35 ls (.int x :: st) h) Q := G_unf rfl rfl
theorem g31_35 : G d 31 35 ls st h Q ↔ GN d 31 35 ls h (nx 36 ls (.int (nI 1) :: st) h) Q := G_unf rfl rfl
theorem g31_36 : G d 31 36 ls st h Q ↔ GN d 31 36 ls h (pII st fun x y r => nx 37 ls (.int (x - y) :: r) h) Q := G_unf rfl rfl
theorem g31_37 : G d 31 37 ls st h Q ↔ GN d 31 37 ls h (pA 2 st fun as r => ck (r.length ≤ 4) (cll 30 as r)) Q := G_unf rfl rfl
theorem g31_40 : G d 31 40 ls st h Q ↔ GN d 31 40 ls h (ldR ls 0 fun a => nx 41 ls (.ref a :: st) h) Q := G_unf rfl rfl
theorem g31_41 : G d 31 41 ls st h Q ↔ GN d 31 41 ls h (ldI ls 1 fun x => nx 42 ls (.int x :: st) h) Q := G_unf rfl rfl
theorem g31_42 : G d 31 42 ls st h Q ↔ GN d 31 42 ls h (nx 43 ls (.int (nI 1) :: st) h) Q := G_unf rfl rfl
theorem g31_43 : G d 31 43 ls st h Q ↔ GN d 31 43 ls h (pII st fun x y r => nx 44 ls (.int (x - y) :: r) h) Q := G_unf rfl rfl
theorem g31_44 : G d 31 44 ls st h Q ↔ GN d 31 44 ls h (pRI st fun a i r => br (a = 1000002) (ck (inb i 208) (nx 45 ls (.int (ownB i.toNatClampNeg) :: r) h)) (ck ((arr h a 11 ∨ arr h a 12) ∧ inb i (hLn h a)) (nx 45 ls (.int (hI h a i.toNatClampNeg) :: r) h))) Q := G_unf rfl rfl
theorem g31_45 : G d 31 45 ls st h Q ↔ GN d 31 45 ls h (nx 48 ls (.int (nI 255) :: st) h) Q := G_unf rfl rfl
theorem g31_48 : G d 31 48 ls st h Q ↔ GN d 31 48 ls h (pII st fun x y r => nx 49 ls (.int (x &&& y) :: r) h) Q := G_unf rfl rfl
theorem g31_49 : G d 31 49 ls st h Q ↔ GN d 31 49 ls h (pII st fun x y r => br (x = y) (nx 54 ls r h) (nx 52 ls r h)) Q := G_unf rfl rfl
theorem g31_52 : G d 31 52 ls st h Q ↔ GN d 31 52 ls h (nx 53 ls (.int (nI 0) :: st) h) Q := G_unf rfl rfl
theorem g31_53 : G d 31 53 ls st h Q ↔ GN d 31 53 ls h (pIe st fun x => ck (x = 0 ∨ x = 1) (rtn (some (.int x)))) Q := G_unf rfl rfl
theorem g31_54 : G d 31 54 ls st h Q ↔ GN d 31 54 ls h (ldR ls 3 fun a => nx 55 ls (.ref a :: st) h) Q := G_unf rfl rfl
theorem g31_55 : G d 31 55 ls st h Q ↔ GN d 31 55 ls h (ldR ls 0 fun a => nx 56 ls (.ref a :: st) h) Q := G_unf rfl rfl
theorem g31_56 : G d 31 56 ls st h Q ↔ GN d 31 56 ls h (nx 57 ls (.int (nI 0) :: st) h) Q := G_unf rfl rfl
theorem g31_57 : G d 31 57 ls st h Q ↔ GN d 31 57 ls h (pA 2 st fun as r => ck (r.length ≤ 4) (cll 33 as r)) Q := G_unf rfl rfl
theorem g31_60 : G d 31 60 ls st h Q ↔ GN d 31 60 ls h (pRI st fun a x r => ck (arr h a 6) (nx 63 ls r (sI h a 0 x))) Q := G_unf rfl rfl
theorem g31_63 : G d 31 63 ls st h Q ↔ GN d 31 63 ls h (nx 64 ls (.int (nI 2) :: st) h) Q := G_unf rfl rfl
theorem g31_64 : G d 31 64 ls st h Q ↔ GN d 31 64 ls h (pI st fun x r => ck (5 < ls.length) (nx 66 (st1 ls 5 (.int x)) r h)) Q := G_unf rfl rfl
theorem g31_66 : G d 31 66 ls st h Q ↔ GN d 31 66 ls h (nx 67 ls (.int (nI 0) :: st) h) Q := G_unf rfl rfl
theorem g31_67 : G d 31 67 ls st h Q ↔ GN d 31 67 ls h (pI st fun x r => ck (6 < ls.length) (nx 69 (st1 ls 6 (.int x)) r h)) Q := G_unf rfl rfl
theorem g31_69 : G d 31 69 ls st h Q ↔ GN d 31 69 ls h (ldI ls 6 fun x => nx 71 ls (.int x :: st) h) Q := G_unf rfl rfl
theorem g31_71 : G d 31 71 ls st h Q ↔ GN d 31 71 ls h (ldR ls 2 fun a => nx 72 ls (.ref a :: st) h) Q := G_unf rfl rfl
theorem g31_72 : G d 31 72 ls st h Q ↔ GN d 31 72 ls h (pR st fun a r => ck (arr h a 0) (nx 75 ls (.int (hI h a 10) :: r) h)) Q := G_unf rfl rfl
theorem g31_75 : G d 31 75 ls st h Q ↔ GN d 31 75 ls h (pII st fun x y r => br (y ≤ x) (nx 112 ls r h) (nx 78 ls r h)) Q := G_unf rfl rfl
theorem g31_78 : G d 31 78 ls st h Q ↔ GN d 31 78 ls h (ldR ls 0 fun a => nx 79 ls (.ref a :: st) h) Q := G_unf rfl rfl
theorem g31_79 : G d 31 79 ls st h Q ↔ GN d 31 79 ls h (ldI ls 5 fun x => nx 81 ls (.int x :: st) h) Q := G_unf rfl rfl
theorem g31_81 : G d 31 81 ls st h Q ↔ GN d 31 81 ls h (ldR ls 2 fun a => nx 82 ls (.ref a :: st) h) Q := G_unf rfl rfl
theorem g31_82 : G d 31 82 ls st h Q ↔ GN d 31 82 ls h (ldR ls 3 fun a => nx 83 ls (.ref a :: st) h) Q := G_unf rfl rfl
theorem g31_83 : G d 31 83 ls st h Q ↔ GN d 31 83 ls h (ldI ls 6 fun x => nx 85 ls (.int x :: st) h) Q := G_unf rfl rfl
theorem g31_85 : G d 31 85 ls st h Q ↔ GN d 31 85 ls h (pA 5 st fun as r => ck (r.length ≤ 4) (cll 32 as r)) Q := G_unf rfl rfl
theorem g31_88 : G d 31 88 ls st h Q ↔ GN d 31 88 ls h (pI st fun x r => br (¬ x = 0) (nx 93 ls r h) (nx 91 ls r h)) Q := G_unf rfl rfl
theorem g31_91 : G d 31 91 ls st h Q ↔ GN d 31 91 ls h (nx 92 ls (.int (nI 0) :: st) h) Q := G_unf rfl rfl
theorem g31_92 : G d 31 92 ls st h Q ↔ GN d 31 92 ls h (pIe st fun x => ck (x = 0 ∨ x = 1) (rtn (some (.int x)))) Q := G_unf rfl rfl
theorem g31_93 : G d 31 93 ls st h Q ↔ GN d 31 93 ls h (ldI ls 5 fun x => nx 95 ls (.int x :: st) h) Q := G_unf rfl rfl
theorem g31_95 : G d 31 95 ls st h Q ↔ GN d 31 95 ls h (nx 96 ls (.int (nI 4) :: st) h) Q := G_unf rfl rfl
theorem g31_96 : G d 31 96 ls st h Q ↔ GN d 31 96 ls h (nx 97 ls (.int (nI 2) :: st) h) Q := G_unf rfl rfl
theorem g31_97 : G d 31 97 ls st h Q ↔ GN d 31 97 ls h (ldR ls 2 fun a => nx 98 ls (.ref a :: st) h) Q := G_unf rfl rfl
theorem g31_98 : G d 31 98 ls st h Q ↔ GN d 31 98 ls h (pR st fun a r => ck (arr h a 0) (nx 101 ls (.int (hI h a 3) :: r) h)) Q := G_unf rfl rfl
theorem g31_101 : G d 31 101 ls st h Q ↔ GN d 31 101 ls h (pII st fun x y r => nx 102 ls (.int (x * y) :: r) h) Q := G_unf rfl rfl
theorem g31_102 : G d 31 102 ls st h Q ↔ GN d 31 102 ls h (pII st fun x y r => nx 103 ls (.int (x + y) :: r) h) Q := G_unf rfl rfl
theorem g31_103 : G d 31 103 ls st h Q ↔ GN d 31 103 ls h (pII st fun x y r => nx 104 ls (.int (x + y) :: r) h) Q := G_unf rfl rfl
theorem g31_104 : G d 31 104 ls st h Q ↔ GN d 31 104 ls h (pI st fun x r => ck (5 < ls.length) (nx 106 (st1 ls 5 (.int x)) r h)) Q := G_unf rfl rfl
theorem g31_106 : G d 31 106 ls st h Q ↔ GN d 31 106 ls h (ldI ls 6 fun x => nx 109 (st1 ls 6 (.int (x + (nI 1)))) st h) Q := G_unf rfl rfl
theorem g31_109 : G d 31 109 ls st h Q ↔ GN d 31 109 ls h (nx 69 ls st h) Q := G_unf rfl rfl
theorem g31_112 : G d 31 112 ls st h Q ↔ GN d 31 112 ls h (ldR ls 3 fun a => nx 113 ls (.ref a :: st) h) Q := G_unf rfl rfl
theorem g31_113 : G d 31 113 ls st h Q ↔ GN d 31 113 ls h (pA 0 st fun as r => pR r fun a r => ck (r.length ≤ 4 ∧ arr h a 6) (cll 90 (.ref a :: as) r)) Q := G_unf rfl rfl
theorem g31_116 : G d 31 116 ls st h Q ↔ GN d 31 116 ls h (ldR ls 3 fun a => nx 117 ls (.ref a :: st) h) Q := G_unf rfl rfl
theorem g31_117 : G d 31 117 ls st h Q ↔ GN d 31 117 ls h (pR st fun a r => ck (arr h a 6) (nx 120 ls (.int (hI h a 0) :: r) h)) Q := G_unf rfl rfl
theorem g31_120 : G d 31 120 ls st h Q ↔ GN d 31 120 ls h (nx 123 ls (.int (nI 999) :: st) h) Q := G_unf rfl rfl
theorem g31_123 : G d 31 123 ls st h Q ↔ GN d 31 123 ls h (pII st fun x y r => br (y < x) (nx 141 ls r h) (nx 126 ls r h)) Q := G_unf rfl rfl
theorem g31_126 : G d 31 126 ls st h Q ↔ GN d 31 126 ls h (ldR ls 3 fun a => nx 127 ls (.ref a :: st) h) Q := G_unf rfl rfl
theorem g31_127 : G d 31 127 ls st h Q ↔ GN d 31 127 ls h (pA 0 st fun as r => pR r fun a r => ck (r.length ≤ 4 ∧ arr h a 6) (cll 91 (.ref a :: as) r)) Q := G_unf rfl rfl
theorem g31_130 : G d 31 130 ls st h Q ↔ GN d 31 130 ls h (ldR ls 2 fun a => nx 131 ls (.ref a :: st) h) Q := G_unf rfl rfl
theorem g31_131 : G d 31 131 ls st h Q ↔ GN d 31 131 ls h (pR st fun a r => ck (arr h a 0) (nx 134 ls (.int (hI h a 17) :: r) h)) Q := G_unf rfl rfl
theorem g31_134 : G d 31 134 ls st h Q ↔ GN d 31 134 ls h (pII st fun x y r => br (y < x) (nx 141 ls r h) (nx 137 ls r h)) Q := G_unf rfl rfl
theorem g31_137 : G d 31 137 ls st h Q ↔ GN d 31 137 ls h (nx 138 ls (.int (nI 1) :: st) h) Q := G_unf rfl rfl
theorem g31_138 : G d 31 138 ls st h Q ↔ GN d 31 138 ls h (nx 142 ls st h) Q := G_unf rfl rfl
theorem g31_141 : G d 31 141 ls st h Q ↔ GN d 31 141 ls h (nx 142 ls (.int (nI 0) :: st) h) Q := G_unf rfl rfl
theorem g31_142 : G d 31 142 ls st h Q ↔ GN d 31 142 ls h (pIe st fun x => ck (x = 0 ∨ x = 1) (rtn (some (.int x)))) Q := G_unf rfl rfl
theorem g32_0 : G d 32 0 ls st h Q ↔ GN d 32 0 ls h (ldR ls 3 fun a => nx 1 ls (.ref a :: st) h) Q := G_unf rfl rfl
theorem g32_1 : G d 32 1 ls st h Q ↔ GN d 32 1 ls h (pR st fun a r => ck (arr h a 6) (nx 4 ls (rv (hR h a 1) :: r) h)) Q := G_unf rfl rfl
theorem g32_4 : G d 32 4 ls st h Q ↔ GN d 32 4 ls h (ldI ls 4 fun x => nx 6 ls (.int x :: st) h) Q := G_unf rfl rfl
theorem g32_6 : G d 32 6 ls st h Q ↔ GN d 32 6 ls h (ldR ls 0 fun a => nx 7 ls (.ref a :: st) h) Q := G_unf rfl rfl
theorem g32_7 : G d 32 7 ls st h Q ↔ GN d 32 7 ls h (ldI ls 1 fun x => nx 8 ls (.int x :: st) h) Q := G_unf rfl rfl
theorem g32_8 : G d 32 8 ls st h Q ↔ GN d 32 8 ls h (pA 2 st fun as r => ck (r.length ≤ 4) (cll 33 as r)) Q := G_unf rfl rfl
theorem g32_11 : G d 32 11 ls st h Q ↔ GN d 32 11 ls h (pRII st fun a i x r => ck (arr h a 10 ∧ inb i (hLn h a)) (nx 12 ls r (sI h a i.toNatClampNeg x))) Q := G_unf rfl rfl
theorem g32_12 : G d 32 12 ls st h Q ↔ GN d 32 12 ls h (ldR ls 3 fun a => nx 13 ls (.ref a :: st) h) Q := G_unf rfl rfl
theorem g32_13 : G d 32 13 ls st h Q ↔ GN d 32 13 ls h (pR st fun a r => ck (arr h a 6) (nx 16 ls (rv (hR h a 2) :: r) h)) Q := G_unf rfl rfl
theorem g32_16 : G d 32 16 ls st h Q ↔ GN d 32 16 ls h (ldI ls 4 fun x => nx 18 ls (.int x :: st) h) Q := G_unf rfl rfl
theorem g32_18 : G d 32 18 ls st h Q ↔ GN d 32 18 ls h (ldR ls 0 fun a => nx 19 ls (.ref a :: st) h) Q := G_unf rfl rfl
theorem g32_19 : G d 32 19 ls st h Q ↔ GN d 32 19 ls h (ldI ls 1 fun x => nx 20 ls (.int x :: st) h) Q := G_unf rfl rfl
theorem g32_20 : G d 32 20 ls st h Q ↔ GN d 32 20 ls h (nx 21 ls (.int (nI 2) :: st) h) Q := G_unf rfl rfl
theorem g32_21 : G d 32 21 ls st h Q ↔ GN d 32 21 ls h (pII st fun x y r => nx 22 ls (.int (x + y) :: r) h) Q := G_unf rfl rfl
theorem g32_22 : G d 32 22 ls st h Q ↔ GN d 32 22 ls h (pA 2 st fun as r => ck (r.length ≤ 4) (cll 33 as r)) Q := G_unf rfl rfl
theorem g32_25 : G d 32 25 ls st h Q ↔ GN d 32 25 ls h (pRII st fun a i x r => ck (arr h a 10 ∧ inb i (hLn h a)) (nx 26 ls r (sI h a i.toNatClampNeg x))) Q := G_unf rfl rfl
theorem g32_26 : G d 32 26 ls st h Q ↔ GN d 32 26 ls h (nx 27 ls (.int (nI 0) :: st) h) Q := G_unf rfl rfl
theorem g32_27 : G d 32 27 ls st h Q ↔ GN d 32 27 ls h (pI st fun x r => ck (5 < ls.length) (nx 29 (st1 ls 5 (.int x)) r h)) Q := G_unf rfl rfl
theorem g32_29 : G d 32 29 ls st h Q ↔ GN d 32 29 ls h (ldI ls 5 fun x => nx 31 ls (.int x :: st) h) Q := G_unf rfl rfl
theorem g32_31 : G d 32 31 ls st h Q ↔ GN d 32 31 ls h (ldR ls 2 fun a => nx 32 ls (.ref a :: st) h) Q := G_unf rfl rfl
theorem g32_32 : G d 32 32 ls st h Q ↔ GN d 32 32 ls h (pR st fun a r => ck (arr h a 0) (nx 35 ls (.int (hI h a 3) :: r) h)) Q := G_unf rfl rfl
theorem g32_35 : G d 32 35 ls st h Q ↔ GN d 32 35 ls h (pII st fun x y r => br (y ≤ x) (nx 85 ls r h) (nx 38 ls r h)) Q := G_unf rfl rfl
theorem g32_38 : G d 32 38 ls st h Q ↔ GN d 32 38 ls h (ldR ls 0 fun a => nx 39 ls (.ref a :: st) h) Q := G_unf rfl rfl
theorem g32_39 : G d 32 39 ls st h Q ↔ GN d 32 39 ls h (ldI ls 1 fun x => nx 40 ls (.int x :: st) h) Q := G_unf rfl rfl
theorem g32_40 : G d 32 40 ls st h Q ↔ GN d 32 40 ls h (nx 41 ls (.int (nI 4) :: st) h) Q := G_unf rfl rfl
theorem g32_41 : G d 32 41 ls st h Q ↔ GN d 32 41 ls h (pII st fun x y r => nx 42 ls (.int (x + y) :: r) h) Q := G_unf rfl rfl
theorem g32_42 : G d 32 42 ls st h Q ↔ GN d 32 42 ls h (nx 43 ls (.int (nI 2) :: st) h) Q := G_unf rfl rfl
theorem g32_43 : G d 32 43 ls st h Q ↔ GN d 32 43 ls h (ldI ls 5 fun x => nx 45 ls (.int x :: st) h) Q := G_unf rfl rfl
theorem g32_45 : G d 32 45 ls st h Q ↔ GN d 32 45 ls h (pII st fun x y r => nx 46 ls (.int (x * y) :: r) h) Q := G_unf rfl rfl
theorem g32_46 : G d 32 46 ls st h Q ↔ GN d 32 46 ls h (pII st fun x y r => nx 47 ls (.int (x + y) :: r) h) Q := G_unf rfl rfl
theorem g32_47 : G d 32 47 ls st h Q ↔ GN d 32 47 ls h (pA 2 st fun as r => ck (r.length ≤ 4) (cll 33 as r)) Q := G_unf rfl rfl
theorem g32_50 : G d 32 50 ls st h Q ↔ GN d 32 50 ls h (nx 51 ls (.int (nI 1) :: st) h) Q := G_unf rfl rfl
theorem g32_51 : G d 32 51 ls st h Q ↔ GN d 32 51 ls h (pII st fun x y r => nx 52 ls (.int (x - y) :: r) h) Q := G_unf rfl rfl
theorem g32_52 : G d 32 52 ls st h Q ↔ GN d 32 52 ls h (pI st fun x r => ck (6 < ls.length) (nx 54 (st1 ls 6 (.int x)) r h)) Q := G_unf rfl rfl
theorem g32_54 : G d 32 54 ls st h Q ↔ GN d 32 54 ls h (ldI ls 6 fun x => nx 56 ls (.int x :: st) h) Q := G_unf rfl rfl
theorem g32_56 : G d 32 56 ls st h Q ↔ GN d 32 56 ls h (nx 59 ls (.int (nI 999) :: st) h) Q := G_unf rfl rfl
theorem g32_59 : G d 32 59 ls st h Q ↔ GN d 32 59 ls h (pII st fun x y r => br (x ≤ y) (nx 64 ls r h) (nx 62 ls r h)) Q := G_unf rfl rfl
theorem g32_62 : G d 32 62 ls st h Q ↔ GN d 32 62 ls h (nx 63 ls (.int (nI 0) :: st) h) Q := G_unf rfl rfl
theorem g32_63 : G d 32 63 ls st h Q ↔ GN d 32 63 ls h (pIe st fun x => ck (x = 0 ∨ x = 1) (rtn (some (.int x)))) Q := G_unf rfl rfl
theorem g32_64 : G d 32 64 ls st h Q ↔ GN d 32 64 ls h (ldR ls 3 fun a => nx 65 ls (.ref a :: st) h) Q := G_unf rfl rfl
theorem g32_65 : G d 32 65 ls st h Q ↔ GN d 32 65 ls h (pR st fun a r => ck (arr h a 6) (nx 68 ls (rv (hR h a 3) :: r) h)) Q := G_unf rfl rfl
theorem g32_68 : G d 32 68 ls st h Q ↔ GN d 32 68 ls h (ldI ls 4 fun x => nx 70 ls (.int x :: st) h) Q := G_unf rfl rfl
theorem g32_70 : G d 32 70 ls st h Q ↔ GN d 32 70 ls h (nx 72 ls (.int (nI 12) :: st) h) Q := G_unf rfl rfl
theorem g32_72 : G d 32 72 ls st h Q ↔ GN d 32 72 ls h (pII st fun x y r => nx 73 ls (.int (x * y) :: r) h) Q := G_unf rfl rfl
theorem g32_73 : G d 32 73 ls st h Q ↔ GN d 32 73 ls h (ldI ls 5 fun x => nx 75 ls (.int x :: st) h) Q := G_unf rfl rfl
theorem g32_75 : G d 32 75 ls st h Q ↔ GN d 32 75 ls h (pII st fun x y r => nx 76 ls (.int (x + y) :: r) h) Q := G_unf rfl rfl
theorem g32_76 : G d 32 76 ls st h Q ↔ GN d 32 76 ls h (ldI ls 6 fun x => nx 78 ls (.int x :: st) h) Q := G_unf rfl rfl
theorem g32_78 : G d 32 78 ls st h Q ↔ GN d 32 78 ls h (pRII st fun a i x r => ck (arr h a 10 ∧ inb i (hLn h a)) (nx 79 ls r (sI h a i.toNatClampNeg x))) Q := G_unf rfl rfl
theorem g32_79 : G d 32 79 ls st h Q ↔ GN d 32 79 ls h (ldI ls 5 fun x => nx 82 (st1 ls 5 (.int (x + (nI 1)))) st h) Q := G_unf rfl rfl
theorem g32_82 : G d 32 82 ls st h Q ↔ GN d 32 82 ls h (nx 29 ls st h) Q := G_unf rfl rfl
theorem g32_85 : G d 32 85 ls st h Q ↔ GN d 32 85 ls h (ldR ls 3 fun a => nx 86 ls (.ref a :: st) h) Q := G_unf rfl rfl
theorem g32_86 : G d 32 86 ls st h Q ↔ GN d 32 86 ls h (pR st fun a r => ck (arr h a 6) (nx 89 ls (rv (hR h a 1) :: r) h)) Q := G_unf rfl rfl
theorem g32_89 : G d 32 89 ls st h Q ↔ GN d 32 89 ls h (ldI ls 4 fun x => nx 91 ls (.int x :: st) h) Q := G_unf rfl rfl
theorem g32_91 : G d 32 91 ls st h Q ↔ GN d 32 91 ls h (pRI st fun a i r => br (a = 1000003) (ck (inb i (hS h).1) (nx 92 ls (.int ((hS h).2 i.toNatClampNeg) :: r) h)) (ck (arr h a 10 ∧ inb i (hLn h a)) (nx 92 ls (.int (hI h a i.toNatClampNeg) :: r) h))) Q := G_unf rfl rfl
theorem g32_92 : G d 32 92 ls st h Q ↔ GN d 32 92 ls h (ldR ls 2 fun a => nx 93 ls (.ref a :: st) h) Q := G_unf rfl rfl
theorem g32_93 : G d 32 93 ls st h Q ↔ GN d 32 93 ls h (pA 0 st fun as r => pR r fun a r => ck (r.length ≤ 4 ∧ arr h a 0) (cll 2 (.ref a :: as) r)) Q := G_unf rfl rfl
theorem g32_96 : G d 32 96 ls st h Q ↔ GN d 32 96 ls h (pII st fun x y r => br (y < x) (nx 116 ls r h) (nx 99 ls r h)) Q := G_unf rfl rfl
theorem g32_99 : G d 32 99 ls st h Q ↔ GN d 32 99 ls h (ldR ls 3 fun a => nx 100 ls (.ref a :: st) h) Q := G_unf rfl rfl
theorem g32_100 : G d 32 100 ls st h Q ↔ GN d 32 100 ls h (pR st fun a r => ck (arr h a 6) (nx 103 ls (rv (hR h a 2) :: r) h)) Q := G_unf rfl rfl
theorem g32_103 : G d 32 103 ls st h Q ↔ GN d 32 103 ls h (ldI ls 4 fun x => nx 105 ls (.int x :: st) h) Q := G_unf rfl rfl
theorem g32_105 : G d 32 105 ls st h Q ↔ GN d 32 105 ls h (pRI st fun a i r => br (a = 1000003) (ck (inb i (hS h).1) (nx 106 ls (.int ((hS h).2 i.toNatClampNeg) :: r) h)) (ck (arr h a 10 ∧ inb i (hLn h a)) (nx 106 ls (.int (hI h a i.toNatClampNeg) :: r) h))) Q := G_unf rfl rfl
theorem g32_106 : G d 32 106 ls st h Q ↔ GN d 32 106 ls h (nx 109 ls (.int (nI 999) :: st) h) Q := G_unf rfl rfl
theorem g32_109 : G d 32 109 ls st h Q ↔ GN d 32 109 ls h (pII st fun x y r => br (y < x) (nx 116 ls r h) (nx 112 ls r h)) Q := G_unf rfl rfl
theorem g32_112 : G d 32 112 ls st h Q ↔ GN d 32 112 ls h (nx 113 ls (.int (nI 1) :: st) h) Q := G_unf rfl rfl
theorem g32_113 : G d 32 113 ls st h Q ↔ GN d 32 113 ls h (nx 117 ls st h) Q := G_unf rfl rfl
theorem g32_116 : G d 32 116 ls st h Q ↔ GN d 32 116 ls h (nx 117 ls (.int (nI 0) :: st) h) Q := G_unf rfl rfl
theorem g32_117 : G d 32 117 ls st h Q ↔ GN d 32 117 ls h (pIe st fun x => ck (x = 0 ∨ x = 1) (rtn (some (.int x)))) Q := G_unf rfl rfl
theorem g33_0 : G d 33 0 ls st h Q ↔ GN d 33 0 ls h (ldI ls 1 fun x => nx 1 ls (.int x :: st) h) Q := G_unf rfl rfl
theorem g33_1 : G d 33 1 ls st h Q ↔ GN d 33 1 ls h (pI st fun x r => br (x < 0) (nx 12 ls r h) (nx 4 ls r h)) Q := G_unf rfl rfl
theorem g33_4 : G d 33 4 ls st h Q ↔ GN d 33 4 ls h (ldI ls 1 fun x => nx 5 ls (.int x :: st) h) Q := G_unf rfl rfl
theorem g33_5 : G d 33 5 ls st h Q ↔ GN d 33 5 ls h (nx 6 ls (.int (nI 1) :: st) h) Q := G_unf rfl rfl
theorem g33_6 : G d 33 6 ls st h Q ↔ GN d 33 6 ls h (pII st fun x y r => nx 7 ls (.int (x + y) :: r) h) Q := G_unf rfl rfl
theorem g33_7 : G d 33 7 ls st h Q ↔ GN d 33 7 ls h (ldR ls 0 fun a => nx 8 ls (.ref a :: st) h) Q := G_unf rfl rfl
theorem g33_8 : G d 33 8 ls st h Q ↔ GN d 33 8 ls h (pR st fun a r => br (a = 1000000) (nx 9 ls (.int (nI 0) :: r) h) (br (a = 1000002) (nx 9 ls (.int (nI 208) :: r) h) (br (a = 1000003) (nx 9 ls (.int (nI (hS h).1) :: r) h) (ck (a < hN h ∧ 10 ≤ lay a) (nx 9 ls (.int (nI (hLn h a)) :: r) h))))) Q := G_unf rfl rfl
theorem g33_9 : G d 33 9 ls st h Q ↔ GN d 33 9 ls h (pII st fun x y r => br (x < y) (nx 14 ls r h) (nx 12 ls r h)) Q := G_unf rfl rfl
theorem g33_12 : G d 33 12 ls st h Q ↔ GN d 33 12 ls h (nx 13 ls (.int (nI 0) :: st) h) Q := G_unf rfl rfl
theorem g33_13 : G d 33 13 ls st h Q ↔ GN d 33 13 ls h (pIe st fun x => rtn (some (.int x))) Q := G_unf rfl rfl
theorem g33_14 : G d 33 14 ls st h Q ↔ GN d 33 14 ls h (ldR ls 0 fun a => nx 15 ls (.ref a :: st) h) Q := G_unf rfl rfl
theorem g33_15 : G d 33 15 ls st h Q ↔ GN d 33 15 ls h (ldI ls 1 fun x => nx 16 ls (.int x :: st) h) Q := G_unf rfl rfl
theorem g33_16 : G d 33 16 ls st h Q ↔ GN d 33 16 ls h (pRI st fun a i r => br (a = 1000002) (ck (inb i 208) (nx 17 ls (.int (ownB i.toNatClampNeg) :: r) h)) (ck ((arr h a 11 ∨ arr h a 12) ∧ inb i (hLn h a)) (nx 17 ls (.int (hI h a i.toNatClampNeg) :: r) h))) Q := G_unf rfl rfl
theorem g33_17 : G d 33 17 ls st h Q ↔ GN d 33 17 ls h (nx 20 ls (.int (nI 255) :: st) h) Q := G_unf rfl rfl
theorem g33_20 : G d 33 20 ls st h Q ↔ GN d 33 20 ls h (pII st fun x y r => nx 21 ls (.int (x &&& y) :: r) h) Q := G_unf rfl rfl
theorem g33_21 : G d 33 21 ls st h Q ↔ GN d 33 21 ls h (nx 23 ls (.int (nI 8) :: st) h) Q := G_unf rfl rfl
theorem g33_23 : G d 33 23 ls st h Q ↔ GN d 33 23 ls h (pII st fun x y r => nx 24 ls (.int (x <<< (y &&& 31)) :: r) h) Q := G_unf rfl rfl
theorem g33_24 : G d 33 24 ls st h Q ↔ GN d 33 24 ls h (ldR ls 0 fun a => nx 25 ls (.ref a :: st) h) Q := G_unf rfl rfl
theorem g33_25 : G d 33 25 ls st h Q ↔ GN d 33 25 ls h (ldI ls 1 fun x => nx 26 ls (.int x :: st) h) Q := G_unf rfl rfl
theorem g33_26 : G d 33 26 ls st h Q ↔ GN d 33 26 ls h (nx 27 ls (.int (nI 1) :: st) h) Q := G_unf rfl rfl
theorem g33_27 : G d 33 27 ls st h Q ↔ GN d 33 27 ls h (pII st fun x y r => nx 28 ls (.int (x + y) :: r) h) Q := G_unf rfl rfl
theorem g33_28 : G d 33 28 ls st h Q ↔ GN d 33 28 ls h (pRI st fun a i r => br (a = 1000002) (ck (inb i 208) (nx 29 ls (.int (ownB i.toNatClampNeg) :: r) h)) (ck ((arr h a 11 ∨ arr h a 12) ∧ inb i (hLn h a)) (nx 29 ls (.int (hI h a i.toNatClampNeg) :: r) h))) Q := G_unf rfl rfl
theorem g33_29 : G d 33 29 ls st h Q ↔ GN d 33 29 ls h (nx 32 ls (.int (nI 255) :: st) h) Q := G_unf rfl rfl
theorem g33_32 : G d 33 32 ls st h Q ↔ GN d 33 32 ls h (pII st fun x y r => nx 33 ls (.int (x &&& y) :: r) h) Q := G_unf rfl rfl
theorem g33_33 : G d 33 33 ls st h Q ↔ GN d 33 33 ls h (pII st fun x y r => nx 34 ls (.int (x ||| y) :: r) h) Q := G_unf rfl rfl
theorem g33_34 : G d 33 34 ls st h Q ↔ GN d 33 34 ls h (pIe st fun x => rtn (some (.int x))) Q := G_unf rfl rfl
theorem g34_0 : G d 34 0 ls st h Q ↔ GN d 34 0 ls h (ldR ls 0 fun a => nx 1 ls (.ref a :: st) h) Q := G_unf rfl rfl
theorem g34_1 : G d 34 1 ls st h Q ↔ GN d 34 1 ls h (pR st fun _ r => ck (r.length ≤ 4) (nx 4 ls r h)) Q := G_unf rfl rfl
theorem g34_4 : G d 34 4 ls st h Q ↔ GN d 34 4 ls h (ldR ls 0 fun a => nx 5 ls (.ref a :: st) h) Q := G_unf rfl rfl
theorem g34_5 : G d 34 5 ls st h Q ↔ GN d 34 5 ls h (nx 7 ls (.int (nI 12) :: st) h) Q := G_unf rfl rfl
theorem g34_7 : G d 34 7 ls st h Q ↔ GN d 34 7 ls h (pI st fun z r => ck (0 ≤ z.toInt ∧ z.toInt ≤ 1000000 ∧ lay (hN h) = 10) (nx 9 ls (.ref (hN h) :: r) (alc h z.toNatClampNeg z.toNatClampNeg))) Q := G_unf rfl rfl
theorem g34_9 : G d 34 9 ls st h Q ↔ GN d 34 9 ls h (pRR st fun a x r => ck (arr h a 4) (nx 12 ls r (sR h a 0 (some x)))) Q := G_unf rfl rfl
theorem g34_12 : G d 34 12 ls st h Q ↔ GN d 34 12 ls h (ldR ls 0 fun a => nx 13 ls (.ref a :: st) h) Q := G_unf rfl rfl
theorem g34_13 : G d 34 13 ls st h Q ↔ GN d 34 13 ls h (nx 15 ls (.int (nI 12) :: st) h) Q := G_unf rfl rfl
theorem g34_15 : G d 34 15 ls st h Q ↔ GN d 34 15 ls h (pI st fun z r => ck (0 ≤ z.toInt ∧ z.toInt ≤ 1000000 ∧ lay (hN h) = 10) (nx 17 ls (.ref (hN h) :: r) (alc h z.toNatClampNeg z.toNatClampNeg))) Q := G_unf rfl rfl
theorem g34_17 : G d 34 17 ls st h Q ↔ GN d 34 17 ls h (pRR st fun a x r => ck (arr h a 4) (nx 20 ls r (sR h a 1 (some x)))) Q := G_unf rfl rfl
theorem g34_20 : G d 34 20 ls st h Q ↔ GN d 34 20 ls h (pE st (rtn none)) Q := G_unf rfl rfl
theorem g35_0 : G d 35 0 ls st h Q ↔ GN d 35 0 ls h (ldR ls 0 fun a => nx 1 ls (.ref a :: st) h) Q := G_unf rfl rfl
theorem g35_1 : G d 35 1 ls st h Q ↔ GN d 35 1 ls h (ldR ls 1 fun a => nx 2 ls (.ref a :: st) h) Q := G_unf rfl rfl
theorem g35_2 : G d 35 2 ls st h Q ↔ GN d 35 2 ls h (ldI ls 2 fun x => nx 3 ls (.int x :: st) h) Q := G_unf rfl rfl
theorem g35_3 : G d 35 3 ls st h Q ↔ GN d 35 3 ls h (pA 2 st fun as r => pR r fun a r => ck (r.length ≤ 4 ∧ arr h a 4) (cll 36 (.ref a :: as) r)) Q := G_unf rfl rfl
theorem g35_6 : G d 35 6 ls st h Q ↔ GN d 35 6 ls h (pI st fun x r => ck (4 < ls.length) (nx 8 (st1 ls 4 (.int x)) r h)) Q := G_unf rfl rfl
theorem g35_8 : G d 35 8 ls st h Q ↔ GN d 35 8 ls h (nx 9 ls (.int (nI 1) :: st) h) Q := G_unf rfl rfl
theorem g35_9 : G d 35 9 ls st h Q ↔ GN d 35 9 ls h (ldI ls 3 fun x => nx 10 ls (.int x :: st) h) Q := G_unf rfl rfl
theorem g35_10 : G d 35 10 ls st h Q ↔ GN d 35 10 ls h (pII st fun x y r => nx 11 ls (.int (x <<< (y &&& 31)) :: r) h) Q := G_unf rfl rfl
theorem g35_11 : G d 35 11 ls st h Q ↔ GN d 35 11 ls h (pI st fun x r => ck (5 < ls.length) (nx 13 (st1 ls 5 (.int x)) r h)) Q := G_unf rfl rfl
theorem g35_13 : G d 35 13 ls st h Q ↔ GN d 35 13 ls h (ldI ls 2 fun x => nx 14 ls (.int x :: st) h) Q := G_unf rfl rfl
theorem g35_14 : G d 35 14 ls st h Q ↔ GN d 35 14 ls h (ldR ls 0 fun a => nx 15 ls (.ref a :: st) h) Q := G_unf rfl rfl
theorem g35_15 : G d 35 15 ls st h Q ↔ GN d 35 15 ls h (ldR ls 1 fun a => nx 16 ls (.ref a :: st) h) Q := G_unf rfl rfl
theorem g35_16 : G d 35 16 ls st h Q ↔ GN d 35 16 ls h (ldI ls 4 fun x => nx 18 ls (.int x :: st) h) Q := G_unf rfl rfl
theorem g35_18 : G d 35 18 ls st h Q ↔ GN d 35 18 ls h (pA 2 st fun as r => pR r fun a r => ck (r.length ≤ 4 ∧ arr h a 4) (cll 37 (.ref a :: as) r)) Q := G_unf rfl rfl
theorem g35_21 : G d 35 21 ls st h Q ↔ GN d 35 21 ls h (pII st fun x y r => nx 22 ls (.int (x ||| y) :: r) h) Q := G_unf rfl rfl
theorem g35_22 : G d 35 22 ls st h Q ↔ GN d 35 22 ls h (ldI ls 5 fun x => nx 24 ls (.int x :: st) h) Q := G_unf rfl rfl
theorem g35_24 : G d 35 24 ls st h Q ↔ GN d 35 24 ls h (pII st fun x y r => nx 25 ls (.int (x &&& y) :: r) h) Q := G_unf rfl rfl
theorem g35_25 : G d 35 25 ls st h Q ↔ GN d 35 25 ls h (pI st fun x r => br (¬ x = 0) (nx 30 ls r h) (nx 28 ls r h)) Q := G_unf rfl rfl
theorem g35_28 : G d 35 28 ls st h Q ↔ GN d 35 28 ls h (nx 29 ls (.int (-1) :: st) h) Q := G_unf rfl rfl
theorem g35_29 : G d 35 29 ls st h Q ↔ GN d 35 29 ls h (pIe st fun x => rtn (some (.int x))) Q := G_unf rfl rfl
theorem g35_30 : G d 35 30 ls st h Q ↔ GN d 35 30 ls h (ldI ls 4 fun x => nx 32 ls (.int x :: st) h) Q := G_unf rfl rfl
theorem g35_32 : G d 35 32 ls st h Q ↔ GN d 35 32 ls h (nx 33 ls (.int (nI 1) :: st) h) Q := G_unf rfl rfl
theorem g35_33 : G d 35 33 ls st h Q ↔ GN d 35 33 ls h (pII st fun x y r => nx 34 ls (.int (x - y) :: r) h) Q := G_unf rfl rfl
theorem g35_34 : G d 35 34 ls st h Q ↔ GN d 35 34 ls h (pI st fun x r => ck (6 < ls.length) (nx 36 (st1 ls 6 (.int x)) r h)) Q := G_unf rfl rfl
theorem g35_36 : G d 35 36 ls st h Q ↔ GN d 35 36 ls h (ldI ls 6 fun x => nx 38 ls (.int x :: st) h) Q := G_unf rfl rfl
theorem g35_38 : G d 35 38 ls st h Q ↔ GN d 35 38 ls h (pI st fun x r => br (x < 0) (nx 94 ls r h) (nx 41 ls r h)) Q := G_unf rfl rfl
theorem g35_41 : G d 35 41 ls st h Q ↔ GN d 35 41 ls h (ldR ls 0 fun a => nx 42 ls (.ref a :: st) h) Q := G_unf rfl rfl
theorem g35_42 : G d 35 42 ls st h Q ↔ GN d 35 42 ls h (pR st fun a r => ck (arr h a 4) (nx 45 ls (rv (hR h a 0) :: r) h)) Q := G_unf rfl rfl
theorem g35_45 : G d 35 45 ls st h Q ↔ GN d 35 45 ls h (ldI ls 6 fun x => nx 47 ls (.int x :: st) h) Q := G_unf rfl rfl
theorem g35_47 : G d 35 47 ls st h Q ↔ GN d 35 47 ls h (pRI st fun a i r => br (a = 1000003) (ck (inb i (hS h).1) (nx 48 ls (.int ((hS h).2 i.toNatClampNeg) :: r) h)) (ck (arr h a 10 ∧ inb i (hLn h a)) (nx 48 ls (.int (hI h a i.toNatClampNeg) :: r) h))) Q := G_unf rfl rfl
theorem g35_48 : G d 35 48 ls st h Q ↔ GN d 35 48 ls h (pI st fun x r => ck (7 < ls.length) (nx 50 (st1 ls 7 (.int x)) r h)) Q := G_unf rfl rfl
theorem g35_50 : G d 35 50 ls st h Q ↔ GN d 35 50 ls h (ldI ls 5 fun x => nx 52 ls (.int x :: st) h) Q := G_unf rfl rfl
theorem g35_52 : G d 35 52 ls st h Q ↔ GN d 35 52 ls h (ldR ls 1 fun a => nx 53 ls (.ref a :: st) h) Q := G_unf rfl rfl
theorem g35_53 : G d 35 53 ls st h Q ↔ GN d 35 53 ls h (pR st fun a r => ck (arr h a 0) (nx 56 ls (rv (hR h a 4) :: r) h)) Q := G_unf rfl rfl
theorem g35_56 : G d 35 56 ls st h Q ↔ GN d 35 56 ls h (ldI ls 7 fun x => nx 58 ls (.int x :: st) h) Q := G_unf rfl rfl
theorem g35_58 : G d 35 58 ls st h Q ↔ GN d 35 58 ls h (pRI st fun a i r => br (a = 1000003) (ck (inb i (hS h).1) (nx 59 ls (.int ((hS h).2 i.toNatClampNeg) :: r) h)) (ck (arr h a 10 ∧ inb i (hLn h a)) (nx 59 ls (.int (hI h a i.toNatClampNeg) :: r) h))) Q := G_unf rfl rfl
theorem g35_59 : G d 35 59 ls st h Q ↔ GN d 35 59 ls h (pII st fun x y r => nx 60 ls (.int (x >>> (y &&& 31)) :: r) h) Q := G_unf rfl rfl
theorem g35_60 : G d 35 60 ls st h Q ↔ GN d 35 60 ls h (nx 61 ls (.int (nI 1) :: st) h) Q := G_unf rfl rfl
theorem g35_61 : G d 35 61 ls st h Q ↔ GN d 35 61 ls h (pII st fun x y r => nx 62 ls (.int (x &&& y) :: r) h) Q := G_unf rfl rfl
theorem g35_62 : G d 35 62 ls st h Q ↔ GN d 35 62 ls h (pI st fun x r => br (¬ x = 0) (nx 76 ls r h) (nx 65 ls r h)) Q := G_unf rfl rfl
theorem g35_65 : G d 35 65 ls st h Q ↔ GN d 35 65 ls h (ldR ls 0 fun a => nx 66 ls (.ref a :: st) h) Q := G_unf rfl rfl
theorem g35_66 : G d 35 66 ls st h Q ↔ GN d 35 66 ls h (pR st fun a r => ck (arr h a 4) (nx 69 ls (rv (hR h a 0) :: r) h)) Q := G_unf rfl rfl
theorem g35_69 : G d 35 69 ls st h Q ↔ GN d 35 69 ls h (ldI ls 6 fun x => nx 71 ls (.int x :: st) h) Q := G_unf rfl rfl
theorem g35_71 : G d 35 71 ls st h Q ↔ GN d 35 71 ls h (nx 72 ls (.int (-1) :: st) h) Q := G_unf rfl rfl
theorem g35_72 : G d 35 72 ls st h Q ↔ GN d 35 72 ls h (pRII st fun a i x r => ck (arr h a 10 ∧ inb i (hLn h a)) (nx 73 ls r (sI h a i.toNatClampNeg x))) Q := G_unf rfl rfl
theorem g35_73 : G d 35 73 ls st h Q ↔ GN d 35 73 ls h (nx 88 ls st h) Q := G_unf rfl rfl
theorem g35_76 : G d 35 76 ls st h Q ↔ GN d 35 76 ls h (ldI ls 5 fun x => nx 78 ls (.int x :: st) h) Q := G_unf rfl rfl
theorem g35_78 : G d 35 78 ls st h Q ↔ GN d 35 78 ls h (ldR ls 1 fun a => nx 79 ls (.ref a :: st) h) Q := G_unf rfl rfl
theorem g35_79 : G d 35 79 ls st h Q ↔ GN d 35 79 ls h (pR st fun a r => ck (arr h a 0) (nx 82 ls (rv (hR h a 5) :: r) h)) Q := G_unf rfl rfl
theorem g35_82 : G d 35 82 ls st h Q ↔ GN d 35 82 ls h (ldI ls 7 fun x => nx 84 ls (.int x :: st) h) Q := G_unf rfl rfl
theorem g35_84 : G d 35 84 ls st h Q ↔ GN d 35 84 ls h (pRI st fun a i r => br (a = 1000003) (ck (inb i (hS h).1) (nx 85 ls (.int ((hS h).2 i.toNatClampNeg) :: r) h)) (ck (arr h a 10 ∧ inb i (hLn h a)) (nx 85 ls (.int (hI h a i.toNatClampNeg) :: r) h))) Q := G_unf rfl rfl
theorem g35_85 : G d 35 85 ls st h Q ↔ GN d 35 85 ls h (pII st fun x y r => nx 86 ls (.int (x ||| y) :: r) h) Q := G_unf rfl rfl
theorem g35_86 : G d 35 86 ls st h Q ↔ GN d 35 86 ls h (pI st fun x r => ck (5 < ls.length) (nx 88 (st1 ls 5 (.int x)) r h)) Q := G_unf rfl rfl
theorem g35_88 : G d 35 88 ls st h Q ↔ GN d 35 88 ls h (ldI ls 6 fun x => nx 91 (st1 ls 6 (.int (x + (-1)))) st h) Q := G_unf rfl rfl
theorem g35_91 : G d 35 91 ls st h Q ↔ GN d 35 91 ls h (nx 36 ls st h) Q := G_unf rfl rfl
theorem g35_94 : G d 35 94 ls st h Q ↔ GN d 35 94 ls h (ldR ls 0 fun a => nx 95 ls (.ref a :: st) h) Q := G_unf rfl rfl
theorem g35_95 : G d 35 95 ls st h Q ↔ GN d 35 95 ls h (ldI ls 4 fun x => nx 97 ls (.int x :: st) h) Q := G_unf rfl rfl
theorem g35_97 : G d 35 97 ls st h Q ↔ GN d 35 97 ls h (pA 1 st fun as r => pR r fun a r => ck (r.length ≤ 4 ∧ arr h a 4) (cll 38 (.ref a :: as) r)) Q := G_unf rfl rfl
theorem g35_100 : G d 35 100 ls st h Q ↔ GN d 35 100 ls h (pIe st fun x => rtn (some (.int x))) Q := G_unf rfl rfl
theorem g36_0 : G d 36 0 ls st h Q ↔ GN d 36 0 ls h (ldI ls 2 fun x => nx 1 ls (.int x :: st) h) Q := G_unf rfl rfl
theorem g36_1 : G d 36 1 ls st h Q ↔ GN d 36 1 ls h (pI st fun x r => ck (3 < ls.length) (nx 2 (st1 ls 3 (.int x)) r h)) Q := G_unf rfl rfl
theorem g36_2 : G d 36 2 ls st h Q ↔ GN d 36 2 ls h (nx 3 ls (.int (nI 0) :: st) h) Q := G_unf rfl rfl
theorem g36_3 : G d 36 3 ls st h Q ↔ GN d 36 3 ls h (pI st fun x r => ck (4 < ls.length) (nx 5 (st1 ls 4 (.int x)) r h)) Q := G_unf rfl rfl
theorem g36_5 : G d 36 5 ls st h Q ↔ GN d 36 5 ls h (nx 6 ls (.int (nI 0) :: st) h) Q := G_unf rfl rfl
theorem g36_6 : G d 36 6 ls st h Q ↔ GN d 36 6 ls h (pI st fun x r => ck (5 < ls.length) (nx 8 (st1 ls 5 (.int x)) r h)) Q := G_unf rfl rfl
theorem g36_8 : G d 36 8 ls st h Q ↔ GN d 36 8 ls h (ldI ls 5 fun x => nx 10 ls (.int x :: st) h) Q := G_unf rfl rfl
theorem g36_10 : G d 36 10 ls st h Q ↔ GN d 36 10 ls h (nx 12 ls (.int (nI 12) :: st) h) Q := G_unf rfl rfl
theorem g36_12 : G d 36 12 ls st h Q ↔ GN d 36 12 ls h (pII st fun x y r => br (y ≤ x) (nx 80 ls r h) (nx 15 ls r h)) Q := G_unf rfl rfl
theorem g36_15 : G d 36 15 ls st h Q ↔ GN d 36 15 ls h (nx 16 ls (.int (nI 0) :: st) h) Q := G_unf rfl rfl
theorem g36_16 : G d 36 16 ls st h Q ↔ GN d 36 16 ls h (pI st fun x r => ck (6 < ls.length) (nx 18 (st1 ls 6 (.int x)) r h)) Q := G_unf rfl rfl
theorem g36_18 : G d 36 18 ls st h Q ↔ GN d 36 18 ls h (ldI ls 6 fun x => nx 20 ls (.int x :: st) h) Q := G_unf rfl rfl
theorem g36_20 : G d 36 20 ls st h Q ↔ GN d 36 20 ls h (ldR ls 1 fun a => nx 21 ls (.ref a :: st) h) Q := G_unf rfl rfl
theorem g36_21 : G d 36 21 ls st h Q ↔ GN d 36 21 ls h (pR st fun a r => ck (arr h a 0) (nx 24 ls (.int (hI h a 6) :: r) h)) Q := G_unf rfl rfl
theorem g36_24 : G d 36 24 ls st h Q ↔ GN d 36 24 ls h (pII st fun x y r => br (y ≤ x) (nx 74 ls r h) (nx 27 ls r h)) Q := G_unf rfl rfl
theorem g36_27 : G d 36 27 ls st h Q ↔ GN d 36 27 ls h (ldI ls 4 fun x => nx 29 ls (.int x :: st) h) Q := G_unf rfl rfl
theorem g36_29 : G d 36 29 ls st h Q ↔ GN d 36 29 ls h (nx 31 ls (.int (nI 12) :: st) h) Q := G_unf rfl rfl
theorem g36_31 : G d 36 31 ls st h Q ↔ GN d 36 31 ls h (pII st fun x y r => br (y ≤ x) (nx 68 ls r h) (nx 34 ls r h)) Q := G_unf rfl rfl
theorem g36_34 : G d 36 34 ls st h Q ↔ GN d 36 34 ls h (ldR ls 1 fun a => nx 35 ls (.ref a :: st) h) Q := G_unf rfl rfl
theorem g36_35 : G d 36 35 ls st h Q ↔ GN d 36 35 ls h (ldI ls 6 fun x => nx 37 ls (.int x :: st) h) Q := G_unf rfl rfl
theorem g36_37 : G d 36 37 ls st h Q ↔ GN d 36 37 ls h (ldI ls 3 fun x => nx 38 ls (.int x :: st) h) Q := G_unf rfl rfl
theorem g36_38 : G d 36 38 ls st h Q ↔ GN d 36 38 ls h (pA 2 st fun as r => pR r fun a r => ck (r.length ≤ 4 ∧ arr h a 0) (cll 7 (.ref a :: as) r)) Q := G_unf rfl rfl
theorem g36_41 : G d 36 41 ls st h Q ↔ GN d 36 41 ls h (pI st fun x r => br (x = 0) (nx 68 ls r h) (nx 44 ls r h)) Q := G_unf rfl rfl
theorem g36_44 : G d 36 44 ls st h Q ↔ GN d 36 44 ls h (ldI ls 3 fun x => nx 45 ls (.int x :: st) h) Q := G_unf rfl rfl
theorem g36_45 : G d 36 45 ls st h Q ↔ GN d 36 45 ls h (nx 46 ls (.int (nI 1) :: st) h) Q := G_unf rfl rfl
theorem g36_46 : G d 36 46 ls st h Q ↔ GN d 36 46 ls h (ldR ls 1 fun a => nx 47 ls (.ref a :: st) h) Q := G_unf rfl rfl
theorem g36_47 : G d 36 47 ls st h Q ↔ GN d 36 47 ls h (pR st fun a r => ck (arr h a 0) (nx 50 ls (rv (hR h a 4) :: r) h)) Q := G_unf rfl rfl
theorem g36_50 : G d 36 50 ls st h Q ↔ GN d 36 50 ls h (ldI ls 6 fun x => nx 52 ls (.int x :: st) h) Q := G_unf rfl rfl
theorem g36_52 : G d 36 52 ls st h Q ↔ GN d 36 52 ls h (pRI st fun a i r => br (a = 1000003) (ck (inb i (hS h).1) (nx 53 ls (.int ((hS h).2 i.toNatClampNeg) :: r) h)) (ck (arr h a 10 ∧ inb i (hLn h a)) (nx 53 ls (.int (hI h a i.toNatClampNeg) :: r) h))) Q := G_unf rfl rfl
theorem g36_53 : G d 36 53 ls st h Q ↔ GN d 36 53 ls h (pII st fun x y r => nx 54 ls (.int (x <<< (y &&& 31)) :: r) h) Q := G_unf rfl rfl
theorem g36_54 : G d 36 54 ls st h Q ↔ GN d 36 54 ls h (pII st fun x y r => nx 55 ls (.int (x ||| y) :: r) h) Q := G_unf rfl rfl
theorem g36_55 : G d 36 55 ls st h Q ↔ GN d 36 55 ls h (pI st fun x r => ck (3 < ls.length) (nx 56 (st1 ls 3 (.int x)) r h)) Q := G_unf rfl rfl
theorem g36_56 : G d 36 56 ls st h Q ↔ GN d 36 56 ls h (ldR ls 0 fun a => nx 57 ls (.ref a :: st) h) Q := G_unf rfl rfl
theorem g36_57 : G d 36 57 ls st h Q ↔ GN d 36 57 ls h (pR st fun a r => ck (arr h a 4) (nx 60 ls (rv (hR h a 0) :: r) h)) Q := G_unf rfl rfl
theorem g36_60 : G d 36 60 ls st h Q ↔ GN d 36 60 ls h (ldI ls 4 fun x => nx 62 ls (.int x :: st) h) Q := G_unf rfl rfl
theorem g36_62 : G d 36 62 ls st h Q ↔ GN d 36 62 ls h (ldI ls 6 fun x => nx 64 ls (.int x :: st) h) Q := G_unf rfl rfl
theorem g36_64 : G d 36 64 ls st h Q ↔ GN d 36 64 ls h (pRII st fun a i x r => ck (arr h a 10 ∧ inb i (hLn h a)) (nx 65 ls r (sI h a i.toNatClampNeg x))) Q := G_unf rfl rfl
theorem g36_65 : G d 36 65 ls st h Q ↔ GN d 36 65 ls h (ldI ls 4 fun x => nx 68 (st1 ls 4 (.int (x + (nI 1)))) st h) Q := G_unf rfl rfl
theorem g36_68 : G d 36 68 ls st h Q ↔ GN d 36 68 ls h (ldI ls 6 fun x => nx 71 (st1 ls 6 (.int (x + (nI 1)))) st h) Q := G_unf rfl rfl
theorem g36_71 : G d 36 71 ls st h Q ↔ GN d 36 71 ls h (nx 18 ls st h) Q := G_unf rfl rfl
theorem g36_74 : G d 36 74 ls st h Q ↔ GN d 36 74 ls h (ldI ls 5 fun x => nx 77 (st1 ls 5 (.int (x + (nI 1)))) st h) Q := G_unf rfl rfl
theorem g36_77 : G d 36 77 ls st h Q ↔ GN d 36 77 ls h (nx 8 ls st h) Q := G_unf rfl rfl
theorem g36_80 : G d 36 80 ls st h Q ↔ GN d 36 80 ls h (ldI ls 4 fun x => nx 82 ls (.int x :: st) h) Q := G_unf rfl rfl
theorem g36_82 : G d 36 82 ls st h Q ↔ GN d 36 82 ls h (pIe st fun x => rtn (some (.int x))) Q := G_unf rfl rfl
theorem g37_0 : G d 37 0 ls st h Q ↔ GN d 37 0 ls h (nx 1 ls (.int (nI 0) :: st) h) Q := G_unf rfl rfl
theorem g37_1 : G d 37 1 ls st h Q ↔ GN d 37 1 ls h (pI st fun x r => ck (3 < ls.length) (nx 2 (st1 ls 3 (.int x)) r h)) Q := G_unf rfl rfl
theorem g37_2 : G d 37 2 ls st h Q ↔ GN d 37 2 ls h (nx 3 ls (.int (nI 0) :: st) h) Q := G_unf rfl rfl
theorem g37_3 : G d 37 3 ls st h Q ↔ GN d 37 3 ls h (pI st fun x r => ck (4 < ls.length) (nx 5 (st1 ls 4 (.int x)) r h)) Q := G_unf rfl rfl
theorem g37_5 : G d 37 5 ls st h Q ↔ GN d 37 5 ls h (ldI ls 4 fun x => nx 7 ls (.int x :: st) h) Q := G_unf rfl rfl
theorem g37_7 : G d 37 7 ls st h Q ↔ GN d 37 7 ls h (ldI ls 2 fun x => nx 8 ls (.int x :: st) h) Q := G_unf rfl rfl
theorem g37_8 : G d 37 8 ls st h Q ↔ GN d 37 8 ls h (pII st fun x y r => br (y ≤ x) (nx 34 ls r h) (nx 11 ls r h)) Q := G_unf rfl rfl
theorem g37_11 : G d 37 11 ls st h Q ↔ GN d 37 11 ls h (ldI ls 3 fun x => nx 12 ls (.int x :: st) h) Q := G_unf rfl rfl
theorem g37_12 : G d 37 12 ls st h Q ↔ GN d 37 12 ls h (nx 13 ls (.int (nI 1) :: st) h) Q := G_unf rfl rfl
theorem g37_13 : G d 37 13 ls st h Q ↔ GN d 37 13 ls h (ldR ls 1 fun a => nx 14 ls (.ref a :: st) h) Q := G_unf rfl rfl
theorem g37_14 : G d 37 14 ls st h Q ↔ GN d 37 14 ls h (pR st fun a r => ck (arr h a 0) (nx 17 ls (rv (hR h a 4) :: r) h)) Q := G_unf rfl rfl
theorem g37_17 : G d 37 17 ls st h Q ↔ GN d 37 17 ls h (ldR ls 0 fun a => nx 18 ls (.ref a :: st) h) Q := G_unf rfl rfl
theorem g37_18 : G d 37 18 ls st h Q ↔ GN d 37 18 ls h (pR st fun a r => ck (arr h a 4) (nx 21 ls (rv (hR h a 0) :: r) h)) Q := G_unf rfl rfl
theorem g37_21 : G d 37 21 ls st h Q ↔ GN d 37 21 ls h (ldI ls 4 fun x => nx 23 ls (.int x :: st) h) Q := G_unf rfl rfl
theorem g37_23 : G d 37 23 ls st h Q ↔ GN d 37 23 ls h (pRI st fun a i r => br (a = 1000003) (ck (inb i (hS h).1) (nx 24 ls (.int ((hS h).2 i.toNatClampNeg) :: r) h)) (ck (arr h a 10 ∧ inb i (hLn h a)) (nx 24 ls (.int (hI h a i.toNatClampNeg) :: r) h))) Q := G_unf rfl rfl
theorem g37_24 : G d 37 24 ls st h Q ↔ GN d 37 24 ls h (pRI st fun a i r => br (a = 1000003) (ck (inb i (hS h).1) (nx 25 ls (.int ((hS h).2 i.toNatClampNeg) :: r) h)) (ck (arr h a 10 ∧ inb i (hLn h a)) (nx 25 ls (.int (hI h a i.toNatClampNeg) :: r) h))) Q := G_unf rfl rfl
theorem g37_25 : G d 37 25 ls st h Q ↔ GN d 37 25 ls h (pII st fun x y r => nx 26 ls (.int (x <<< (y &&& 31)) :: r) h) Q := G_unf rfl rfl
theorem g37_26 : G d 37 26 ls st h Q ↔ GN d 37 26 ls h (pII st fun x y r => nx 27 ls (.int (x ||| y) :: r) h) Q := G_unf rfl rfl
theorem g37_27 : G d 37 27 ls st h Q ↔ GN d 37 27 ls h (pI st fun x r => ck (3 < ls.length) (nx 28 (st1 ls 3 (.int x)) r h)) Q := G_unf rfl rfl
theorem g37_28 : G d 37 28 ls st h Q ↔ GN d 37 28 ls h (ldI ls 4 fun x => nx 31 (st1 ls 4 (.int (x + (nI 1)))) st h) Q := G_unf rfl rfl
theorem g37_31 : G d 37 31 ls st h Q ↔ GN d 37 31 ls h (nx 5 ls st h) Q := G_unf rfl rfl
theorem g37_34 : G d 37 34 ls st h Q ↔ GN d 37 34 ls h (ldI ls 3 fun x => nx 35 ls (.int x :: st) h) Q := G_unf rfl rfl
theorem g37_35 : G d 37 35 ls st h Q ↔ GN d 37 35 ls h (pIe st fun x => rtn (some (.int x))) Q := G_unf rfl rfl
theorem g38_0 : G d 38 0 ls st h Q ↔ GN d 38 0 ls h (nx 1 ls (.int (nI 0) :: st) h) Q := G_unf rfl rfl
theorem g38_1 : G d 38 1 ls st h Q ↔ GN d 38 1 ls h (pI st fun x r => ck (2 < ls.length) (nx 2 (st1 ls 2 (.int x)) r h)) Q := G_unf rfl rfl
theorem g38_2 : G d 38 2 ls st h Q ↔ GN d 38 2 ls h (nx 3 ls (.int (nI 0) :: st) h) Q := G_unf rfl rfl
theorem g38_3 : G d 38 3 ls st h Q ↔ GN d 38 3 ls h (pI st fun x r => ck (3 < ls.length) (nx 4 (st1 ls 3 (.int x)) r h)) Q := G_unf rfl rfl
theorem g38_4 : G d 38 4 ls st h Q ↔ GN d 38 4 ls h (ldI ls 3 fun x => nx 5 ls (.int x :: st) h) Q := G_unf rfl rfl
theorem g38_5 : G d 38 5 ls st h Q ↔ GN d 38 5 ls h (ldI ls 1 fun x => nx 6 ls (.int x :: st) h) Q := G_unf rfl rfl
theorem g38_6 : G d 38 6 ls st h Q ↔ GN d 38 6 ls h (pII st fun x y r => br (y ≤ x) (nx 40 ls r h) (nx 9 ls r h)) Q := G_unf rfl rfl
theorem g38_9 : G d 38 9 ls st h Q ↔ GN d 38 9 ls h (ldR ls 0 fun a => nx 10 ls (.ref a :: st) h) Q := G_unf rfl rfl
theorem g38_10 : G d 38 10 ls st h Q ↔ GN d 38 10 ls h (pR st fun a r => ck (arr h a 4) (nx 13 ls (rv (hR h a 0) :: r) h)) Q := G_unf rfl rfl
theorem g38_13 : G d 38 13 ls st h Q ↔ GN d 38 13 ls h (ldI ls 3 fun x => nx 14 ls (.int x :: st) h) Q := G_unf rfl rfl
theorem g38_14 : G d 38 14 ls st h Q ↔ GN d 38 14 ls h (pRI st fun a i r => br (a = 1000003) (ck (inb i (hS h).1) (nx 15 ls (.int ((hS h).2 i.toNatClampNeg) :: r) h)) (ck (arr h a 10 ∧ inb i (hLn h a)) (nx 15 ls (.int (hI h a i.toNatClampNeg) :: r) h))) Q := G_unf rfl rfl
theorem g38_15 : G d 38 15 ls st h Q ↔ GN d 38 15 ls h (nx 16 ls (.int (-1) :: st) h) Q := G_unf rfl rfl
theorem g38_16 : G d 38 16 ls st h Q ↔ GN d 38 16 ls h (pII st fun x y r => br (x = y) (nx 34 ls r h) (nx 19 ls r h)) Q := G_unf rfl rfl
theorem g38_19 : G d 38 19 ls st h Q ↔ GN d 38 19 ls h (ldR ls 0 fun a => nx 20 ls (.ref a :: st) h) Q := G_unf rfl rfl
theorem g38_20 : G d 38 20 ls st h Q ↔ GN d 38 20 ls h (pR st fun a r => ck (arr h a 4) (nx 23 ls (rv (hR h a 0) :: r) h)) Q := G_unf rfl rfl
theorem g38_23 : G d 38 23 ls st h Q ↔ GN d 38 23 ls h (ldI ls 2 fun x => nx 24 ls (.int x :: st) h) Q := G_unf rfl rfl
theorem g38_24 : G d 38 24 ls st h Q ↔ GN d 38 24 ls h (ldR ls 0 fun a => nx 25 ls (.ref a :: st) h) Q := G_unf rfl rfl
theorem g38_25 : G d 38 25 ls st h Q ↔ GN d 38 25 ls h (pR st fun a r => ck (arr h a 4) (nx 28 ls (rv (hR h a 0) :: r) h)) Q := G_unf rfl rfl
theorem g38_28 : G d 38 28 ls st h Q ↔ GN d 38 28 ls h (ldI ls 3 fun x => nx 29 ls (.int x :: st) h) Q := G_unf rfl rfl
theorem g38_29 : G d 38 29 ls st h Q ↔ GN d 38 29 ls h (pRI st fun a i r => br (a = 1000003) (ck (inb i (hS h).1) (nx 30 ls (.int ((hS h).2 i.toNatClampNeg) :: r) h)) (ck (arr h a 10 ∧ inb i (hLn h a)) (nx 30 ls (.int (hI h a i.toNatClampNeg) :: r) h))) Q := G_unf rfl rfl
theorem g38_30 : G d 38 30 ls st h Q ↔ GN d 38 30 ls h (pRII st fun a i x r => ck (arr h a 10 ∧ inb i (hLn h a)) (nx 31 ls r (sI h a i.toNatClampNeg x))) Q := G_unf rfl rfl
theorem g38_31 : G d 38 31 ls st h Q ↔ GN d 38 31 ls h (ldI ls 2 fun x => nx 34 (st1 ls 2 (.int (x + (nI 1)))) st h) Q := G_unf rfl rfl
theorem g38_34 : G d 38 34 ls st h Q ↔ GN d 38 34 ls h (ldI ls 3 fun x => nx 37 (st1 ls 3 (.int (x + (nI 1)))) st h) Q := G_unf rfl rfl
theorem g38_37 : G d 38 37 ls st h Q ↔ GN d 38 37 ls h (nx 4 ls st h) Q := G_unf rfl rfl
theorem g38_40 : G d 38 40 ls st h Q ↔ GN d 38 40 ls h (ldI ls 2 fun x => nx 41 ls (.int x :: st) h) Q := G_unf rfl rfl
theorem g38_41 : G d 38 41 ls st h Q ↔ GN d 38 41 ls h (pIe st fun x => rtn (some (.int x))) Q := G_unf rfl rfl
theorem g39_0 : G d 39 0 ls st h Q ↔ GN d 39 0 ls h (ldI ls 2 fun x => nx 1 ls (.int x :: st) h) Q := G_unf rfl rfl
theorem g39_1 : G d 39 1 ls st h Q ↔ GN d 39 1 ls h (nx 2 ls (.int (nI 1) :: st) h) Q := G_unf rfl rfl
theorem g39_2 : G d 39 2 ls st h Q ↔ GN d 39 2 ls h (ldI ls 3 fun x => nx 3 ls (.int x :: st) h) Q := G_unf rfl rfl
theorem g39_3 : G d 39 3 ls st h Q ↔ GN d 39 3 ls h (pII st fun x y r => nx 4 ls (.int (x <<< (y &&& 31)) :: r) h) Q := G_unf rfl rfl
theorem g39_4 : G d 39 4 ls st h Q ↔ GN d 39 4 ls h (nx 5 ls (.int (-1) :: st) h) Q := G_unf rfl rfl
theorem g39_5 : G d 39 5 ls st h Q ↔ GN d 39 5 ls h (pII st fun x y r => nx 6 ls (.int (x ^^^ y) :: r) h) Q := G_unf rfl rfl
theorem g39_6 : G d 39 6 ls st h Q ↔ GN d 39 6 ls h (pII st fun x y r => nx 7 ls (.int (x &&& y) :: r) h) Q := G_unf rfl rfl
theorem g39_7 : G d 39 7 ls st h Q ↔ GN d 39 7 ls h (pI st fun x r => ck (4 < ls.length) (nx 9 (st1 ls 4 (.int x)) r h)) Q := G_unf rfl rfl
theorem g39_9 : G d 39 9 ls st h Q ↔ GN d 39 9 ls h (ldI ls 4 fun x => nx 11 ls (.int x :: st) h) Q := G_unf rfl rfl
theorem g39_11 : G d 39 11 ls st h Q ↔ GN d 39 11 ls h (pI st fun x r => ck (5 < ls.length) (nx 13 (st1 ls 5 (.int x)) r h)) Q := G_unf rfl rfl
theorem g39_13 : G d 39 13 ls st h Q ↔ GN d 39 13 ls h (ldR ls 0 fun a => nx 14 ls (.ref a :: st) h) Q := G_unf rfl rfl
theorem g39_14 : G d 39 14 ls st h Q ↔ GN d 39 14 ls h (ldI ls 4 fun x => nx 16 ls (.int x :: st) h) Q := G_unf rfl rfl
theorem g39_16 : G d 39 16 ls st h Q ↔ GN d 39 16 ls h (pA 1 st fun as r => pR r fun a r => ck (r.length ≤ 4 ∧ arr h a 4) (cll 40 (.ref a :: as) r)) Q := G_unf rfl rfl
theorem g39_19 : G d 39 19 ls st h Q ↔ GN d 39 19 ls h (pI st fun x r => ck (6 < ls.length) (nx 21 (st1 ls 6 (.int x)) r h)) Q := G_unf rfl rfl
theorem g39_21 : G d 39 21 ls st h Q ↔ GN d 39 21 ls h (nx 22 ls (.int (nI 0) :: st) h) Q := G_unf rfl rfl
theorem g39_22 : G d 39 22 ls st h Q ↔ GN d 39 22 ls h (pI st fun x r => ck (7 < ls.length) (nx 24 (st1 ls 7 (.int x)) r h)) Q := G_unf rfl rfl
theorem g39_24 : G d 39 24 ls st h Q ↔ GN d 39 24 ls h (nx 25 ls (.int (nI 0) :: st) h) Q := G_unf rfl rfl
theorem g39_25 : G d 39 25 ls st h Q ↔ GN d 39 25 ls h (pI st fun x r => ck (8 < ls.length) (nx 27 (st1 ls 8 (.int x)) r h)) Q := G_unf rfl rfl
theorem g39_27 : G d 39 27 ls st h Q ↔ GN d 39 27 ls h (ldI ls 8 fun x => nx 29 ls (.int x :: st) h) Q := G_unf rfl rfl
theorem g39_29 : G d 39 29 ls st h Q ↔ GN d 39 29 ls h (nx 32 ls (.int (nI 4096) :: st) h) Q := G_unf rfl rfl
theorem g39_32 : G d 39 32 ls st h Q ↔ GN d 39 32 ls h (pII st fun x y r => br (y ≤ x) (nx 126 ls r h) (nx 35 ls r h)) Q := G_unf rfl rfl
theorem g39_35 : G d 39 35 ls st h Q ↔ GN d 39 35 ls h (ldR ls 0 fun a => nx 36 ls (.ref a :: st) h) Q := G_unf rfl rfl
theorem g39_36 : G d 39 36 ls st h Q ↔ GN d 39 36 ls h (ldI ls 7 fun x => nx 38 ls (.int x :: st) h) Q := G_unf rfl rfl
theorem g39_38 : G d 39 38 ls st h Q ↔ GN d 39 38 ls h (pA 1 st fun as r => pR r fun a r => ck (r.length ≤ 4 ∧ arr h a 4) (cll 40 (.ref a :: as) r)) Q := G_unf rfl rfl
theorem g39_41 : G d 39 41 ls st h Q ↔ GN d 39 41 ls h (pI st fun x r => ck (9 < ls.length) (nx 43 (st1 ls 9 (.int x)) r h)) Q := G_unf rfl rfl
theorem g39_43 : G d 39 43 ls st h Q ↔ GN d 39 43 ls h (ldI ls 9 fun x => nx 45 ls (.int x :: st) h) Q := G_unf rfl rfl
theorem g39_45 : G d 39 45 ls st h Q ↔ GN d 39 45 ls h (ldI ls 6 fun x => nx 47 ls (.int x :: st) h) Q := G_unf rfl rfl
theorem g39_47 : G d 39 47 ls st h Q ↔ GN d 39 47 ls h (pII st fun x y r => br (x < y) (nx 64 ls r h) (nx 50 ls r h)) Q := G_unf rfl rfl
theorem g39_50 : G d 39 50 ls st h Q ↔ GN d 39 50 ls h (ldI ls 9 fun x => nx 52 ls (.int x :: st) h) Q := G_unf rfl rfl
theorem g39_52 : G d 39 52 ls st h Q ↔ GN d 39 52 ls h (ldI ls 6 fun x => nx 54 ls (.int x :: st) h) Q := G_unf rfl rfl
theorem g39_54 : G d 39 54 ls st h Q ↔ GN d 39 54 ls h (pII st fun x y r => br (¬ x = y) (nx 68 ls r h) (nx 57 ls r h)) Q := G_unf rfl rfl
theorem g39_57 : G d 39 57 ls st h Q ↔ GN d 39 57 ls h (ldI ls 7 fun x => nx 59 ls (.int x :: st) h) Q := G_unf rfl rfl
theorem g39_59 : G d 39 59 ls st h Q ↔ GN d 39 59 ls h (ldI ls 5 fun x => nx 61 ls (.int x :: st) h) Q := G_unf rfl rfl
theorem g39_61 : G d 39 61 ls st h Q ↔ GN d 39 61 ls h (pII st fun x y r => br (y ≤ x) (nx 68 ls r h) (nx 64 ls r h)) Q := G_unf rfl rfl
theorem g39_64 : G d 39 64 ls st h Q ↔ GN d 39 64 ls h (nx 65 ls (.int (nI 1) :: st) h) Q := G_unf rfl rfl
theorem g39_65 : G d 39 65 ls st h Q ↔ GN d 39 65 ls h (nx 69 ls st h) Q := G_unf rfl rfl
theorem g39_68 : G d 39 68 ls st h Q ↔ GN d 39 68 ls h (nx 69 ls (.int (nI 0) :: st) h) Q := G_unf rfl rfl
theorem g39_69 : G d 39 69 ls st h Q ↔ GN d 39 69 ls h (pI st fun x r => ck (10 < ls.length) (nx 71 (st1 ls 10 (.int x)) r h)) Q := G_unf rfl rfl
theorem g39_71 : G d 39 71 ls st h Q ↔ GN d 39 71 ls h (ldI ls 10 fun x => nx 73 ls (.int x :: st) h) Q := G_unf rfl rfl
theorem g39_73 : G d 39 73 ls st h Q ↔ GN d 39 73 ls h (pI st fun x r => br (x = 0) (nx 102 ls r h) (nx 76 ls r h)) Q := G_unf rfl rfl
theorem g39_76 : G d 39 76 ls st h Q ↔ GN d 39 76 ls h (ldR ls 1 fun a => nx 77 ls (.ref a :: st) h) Q := G_unf rfl rfl
theorem g39_77 : G d 39 77 ls st h Q ↔ GN d 39 77 ls h (ldI ls 4 fun x => nx 79 ls (.int x :: st) h) Q := G_unf rfl rfl
theorem g39_79 : G d 39 79 ls st h Q ↔ GN d 39 79 ls h (ldI ls 7 fun x => nx 81 ls (.int x :: st) h) Q := G_unf rfl rfl
theorem g39_81 : G d 39 81 ls st h Q ↔ GN d 39 81 ls h (nx 82 ls (.int (-1) :: st) h) Q := G_unf rfl rfl
theorem g39_82 : G d 39 82 ls st h Q ↔ GN d 39 82 ls h (pII st fun x y r => nx 83 ls (.int (x ^^^ y) :: r) h) Q := G_unf rfl rfl
theorem g39_83 : G d 39 83 ls st h Q ↔ GN d 39 83 ls h (pII st fun x y r => nx 84 ls (.int (x &&& y) :: r) h) Q := G_unf rfl rfl
theorem g39_84 : G d 39 84 ls st h Q ↔ GN d 39 84 ls h (pA 1 st fun as r => pR r fun a r => ck (r.length ≤ 4 ∧ arr h a 0) (cll 9 (.ref a :: as) r)) Q := G_unf rfl rfl
theorem g39_87 : G d 39 87 ls st h Q ↔ GN d 39 87 ls h (ldI ls 3 fun x => nx 88 ls (.int x :: st) h) Q := G_unf rfl rfl
theorem g39_88 : G d 39 88 ls st h Q ↔ GN d 39 88 ls h (pII st fun x y r => nx 89 ls (.int (x >>> (y &&& 31)) :: r) h) Q := G_unf rfl rfl
theorem g39_89 : G d 39 89 ls st h Q ↔ GN d 39 89 ls h (nx 90 ls (.int (nI 1) :: st) h) Q := G_unf rfl rfl
theorem g39_90 : G d 39 90 ls st h Q ↔ GN d 39 90 ls h (pII st fun x y r => nx 91 ls (.int (x &&& y) :: r) h) Q := G_unf rfl rfl
theorem g39_91 : G d 39 91 ls st h Q ↔ GN d 39 91 ls h (pI st fun x r => br (¬ x = 0) (nx 102 ls r h) (nx 94 ls r h)) Q := G_unf rfl rfl
theorem g39_94 : G d 39 94 ls st h Q ↔ GN d 39 94 ls h (ldI ls 7 fun x => nx 96 ls (.int x :: st) h) Q := G_unf rfl rfl
theorem g39_96 : G d 39 96 ls st h Q ↔ GN d 39 96 ls h (pI st fun x r => ck (5 < ls.length) (nx 98 (st1 ls 5 (.int x)) r h)) Q := G_unf rfl rfl
theorem g39_98 : G d 39 98 ls st h Q ↔ GN d 39 98 ls h (ldI ls 9 fun x => nx 100 ls (.int x :: st) h) Q := G_unf rfl rfl
theorem g39_100 : G d 39 100 ls st h Q ↔ GN d 39 100 ls h (pI st fun x r => ck (6 < ls.length) (nx 102 (st1 ls 6 (.int x)) r h)) Q := G_unf rfl rfl
theorem g39_102 : G d 39 102 ls st h Q ↔ GN d 39 102 ls h (ldI ls 7 fun x => nx 104 ls (.int x :: st) h) Q := G_unf rfl rfl
theorem g39_104 : G d 39 104 ls st h Q ↔ GN d 39 104 ls h (ldI ls 4 fun x => nx 106 ls (.int x :: st) h) Q := G_unf rfl rfl
theorem g39_106 : G d 39 106 ls st h Q ↔ GN d 39 106 ls h (pII st fun x y r => nx 107 ls (.int (x - y) :: r) h) Q := G_unf rfl rfl
theorem g39_107 : G d 39 107 ls st h Q ↔ GN d 39 107 ls h (ldI ls 4 fun x => nx 109 ls (.int x :: st) h) Q := G_unf rfl rfl
theorem g39_109 : G d 39 109 ls st h Q ↔ GN d 39 109 ls h (pII st fun x y r => nx 110 ls (.int (x &&& y) :: r) h) Q := G_unf rfl rfl
theorem g39_110 : G d 39 110 ls st h Q ↔ GN d 39 110 ls h (pI st fun x r => ck (7 < ls.length) (nx 112 (st1 ls 7 (.int x)) r h)) Q := G_unf rfl rfl
theorem g39_112 : G d 39 112 ls st h Q ↔ GN d 39 112 ls h (ldI ls 7 fun x => nx 114 ls (.int x :: st) h) Q := G_unf rfl rfl
theorem g39_114 : G d 39 114 ls st h Q ↔ GN d 39 114 ls h (pI st fun x r => br (¬ x = 0) (nx 120 ls r h) (nx 117 ls r h)) Q := G_unf rfl rfl
theorem g39_117 : G d 39 117 ls st h Q ↔ GN d 39 117 ls h (nx 126 ls st h) Q := G_unf rfl rfl
theorem g39_120 : G d 39 120 ls st h Q ↔ GN d 39 120 ls h (ldI ls 8 fun x => nx 123 (st1 ls 8 (.int (x + (nI 1)))) st h) Q := G_unf rfl rfl
theorem g39_123 : G d 39 123 ls st h Q ↔ GN d 39 123 ls h (nx 27 ls st h) Q := G_unf rfl rfl
theorem g39_126 : G d 39 126 ls st h Q ↔ GN d 39 126 ls h (ldI ls 5 fun x => nx 128 ls (.int x :: st) h) Q := G_unf rfl rfl
theorem g39_128 : G d 39 128 ls st h Q ↔ GN d 39 128 ls h (pIe st fun x => rtn (some (.int x))) Q := G_unf rfl rfl
theorem g40_0 : G d 40 0 ls st h Q ↔ GN d 40 0 ls h (nx 1 ls (.int (nI 0) :: st) h) Q := G_unf rfl rfl
theorem g40_1 : G d 40 1 ls st h Q ↔ GN d 40 1 ls h (pI st fun x r => ck (2 < ls.length) (nx 2 (st1 ls 2 (.int x)) r h)) Q := G_unf rfl rfl
theorem g40_2 : G d 40 2 ls st h Q ↔ GN d 40 2 ls h (nx 3 ls (.int (nI 0) :: st) h) Q := G_unf rfl rfl
theorem g40_3 : G d 40 3 ls st h Q ↔ GN d 40 3 ls h (pI st fun x r => ck (3 < ls.length) (nx 4 (st1 ls 3 (.int x)) r h)) Q := G_unf rfl rfl
theorem g40_4 : G d 40 4 ls st h Q ↔ GN d 40 4 ls h (ldI ls 3 fun x => nx 5 ls (.int x :: st) h) Q := G_unf rfl rfl
theorem g40_5 : G d 40 5 ls st h Q ↔ GN d 40 5 ls h (nx 7 ls (.int (nI 12) :: st) h) Q := G_unf rfl rfl
theorem g40_7 : G d 40 7 ls st h Q ↔ GN d 40 7 ls h (pII st fun x y r => br (y ≤ x) (nx 34 ls r h) (nx 10 ls r h)) Q := G_unf rfl rfl
theorem g40_10 : G d 40 10 ls st h Q ↔ GN d 40 10 ls h (ldI ls 1 fun x => nx 11 ls (.int x :: st) h) Q := G_unf rfl rfl
theorem g40_11 : G d 40 11 ls st h Q ↔ GN d 40 11 ls h (ldI ls 3 fun x => nx 12 ls (.int x :: st) h) Q := G_unf rfl rfl
theorem g40_12 : G d 40 12 ls st h Q ↔ GN d 40 12 ls h (pII st fun x y r => nx 13 ls (.int (x >>> (y &&& 31)) :: r) h) Q := G_unf rfl rfl
theorem g40_13 : G d 40 13 ls st h Q ↔ GN d 40 13 ls h (nx 14 ls (.int (nI 1) :: st) h) Q := G_unf rfl rfl
theorem g40_14 : G d 40 14 ls st h Q ↔ GN d 40 14 ls h (pII st fun x y r => nx 15 ls (.int (x &&& y) :: r) h) Q := G_unf rfl rfl
theorem g40_15 : G d 40 15 ls st h Q ↔ GN d 40 15 ls h (nx 16 ls (.int (nI 1) :: st) h) Q := G_unf rfl rfl
theorem g40_16 : G d 40 16 ls st h Q ↔ GN d 40 16 ls h (pII st fun x y r => br (¬ x = y) (nx 28 ls r h) (nx 19 ls r h)) Q := G_unf rfl rfl
theorem g40_19 : G d 40 19 ls st h Q ↔ GN d 40 19 ls h (ldI ls 2 fun x => nx 20 ls (.int x :: st) h) Q := G_unf rfl rfl
theorem g40_20 : G d 40 20 ls st h Q ↔ GN d 40 20 ls h (ldR ls 0 fun a => nx 21 ls (.ref a :: st) h) Q := G_unf rfl rfl
theorem g40_21 : G d 40 21 ls st h Q ↔ GN d 40 21 ls h (pR st fun a r => ck (arr h a 4) (nx 24 ls (rv (hR h a 1) :: r) h)) Q := G_unf rfl rfl
theorem g40_24 : G d 40 24 ls st h Q ↔ GN d 40 24 ls h (ldI ls 3 fun x => nx 25 ls (.int x :: st) h) Q := G_unf rfl rfl
theorem g40_25 : G d 40 25 ls st h Q ↔ GN d 40 25 ls h (pRI st fun a i r => br (a = 1000003) (ck (inb i (hS h).1) (nx 26 ls (.int ((hS h).2 i.toNatClampNeg) :: r) h)) (ck (arr h a 10 ∧ inb i (hLn h a)) (nx 26 ls (.int (hI h a i.toNatClampNeg) :: r) h))) Q := G_unf rfl rfl
theorem g40_26 : G d 40 26 ls st h Q ↔ GN d 40 26 ls h (pII st fun x y r => nx 27 ls (.int (x + y) :: r) h) Q := G_unf rfl rfl
theorem g40_27 : G d 40 27 ls st h Q ↔ GN d 40 27 ls h (pI st fun x r => ck (2 < ls.length) (nx 28 (st1 ls 2 (.int x)) r h)) Q := G_unf rfl rfl
theorem g40_28 : G d 40 28 ls st h Q ↔ GN d 40 28 ls h (ldI ls 3 fun x => nx 31 (st1 ls 3 (.int (x + (nI 1)))) st h) Q := G_unf rfl rfl
theorem g40_31 : G d 40 31 ls st h Q ↔ GN d 40 31 ls h (nx 4 ls st h) Q := G_unf rfl rfl
theorem g40_34 : G d 40 34 ls st h Q ↔ GN d 40 34 ls h (ldI ls 2 fun x => nx 35 ls (.int x :: st) h) Q := G_unf rfl rfl
theorem g40_35 : G d 40 35 ls st h Q ↔ GN d 40 35 ls h (pIe st fun x => rtn (some (.int x))) Q := G_unf rfl rfl
theorem g41_0 : G d 41 0 ls st h Q ↔ GN d 41 0 ls h (nx 1 ls (.int (nI 0) :: st) h) Q := G_unf rfl rfl
theorem g41_1 : G d 41 1 ls st h Q ↔ GN d 41 1 ls h (pI st fun x r => ck (4 < ls.length) (nx 3 (st1 ls 4 (.int x)) r h)) Q := G_unf rfl rfl
theorem g41_3 : G d 41 3 ls st h Q ↔ GN d 41 3 ls h (ldI ls 4 fun x => nx 5 ls (.int x :: st) h) Q := G_unf rfl rfl
theorem g41_5 : G d 41 5 ls st h Q ↔ GN d 41 5 ls h (ldR ls 1 fun a => nx 6 ls (.ref a :: st) h) Q := G_unf rfl rfl
theorem g41_6 : G d 41 6 ls st h Q ↔ GN d 41 6 ls h (pR st fun a r => ck (arr h a 1) (nx 9 ls (rv (hR h a 0) :: r) h)) Q := G_unf rfl rfl
theorem g41_9 : G d 41 9 ls st h Q ↔ GN d 41 9 ls h (pR st fun a r => ck (arr h a 0) (nx 12 ls (.int (hI h a 3) :: r) h)) Q := G_unf rfl rfl
theorem g41_12 : G d 41 12 ls st h Q ↔ GN d 41 12 ls h (pII st fun x y r => br (y ≤ x) (nx 52 ls r h) (nx 15 ls r h)) Q := G_unf rfl rfl
theorem g41_15 : G d 41 15 ls st h Q ↔ GN d 41 15 ls h (ldR ls 0 fun a => nx 16 ls (.ref a :: st) h) Q := G_unf rfl rfl
theorem g41_16 : G d 41 16 ls st h Q ↔ GN d 41 16 ls h (pR st fun a r => ck (arr h a 4) (nx 19 ls (rv (hR h a 1) :: r) h)) Q := G_unf rfl rfl
theorem g41_19 : G d 41 19 ls st h Q ↔ GN d 41 19 ls h (ldI ls 4 fun x => nx 21 ls (.int x :: st) h) Q := G_unf rfl rfl
theorem g41_21 : G d 41 21 ls st h Q ↔ GN d 41 21 ls h (ldR ls 2 fun a => nx 22 ls (.ref a :: st) h) Q := G_unf rfl rfl
theorem g41_22 : G d 41 22 ls st h Q ↔ GN d 41 22 ls h (ldI ls 3 fun x => nx 23 ls (.int x :: st) h) Q := G_unf rfl rfl
theorem g41_23 : G d 41 23 ls st h Q ↔ GN d 41 23 ls h (ldI ls 4 fun x => nx 25 ls (.int x :: st) h) Q := G_unf rfl rfl
theorem g41_25 : G d 41 25 ls st h Q ↔ GN d 41 25 ls h (pA 2 st fun as r => pR r fun a r => ck (r.length ≤ 4 ∧ arr h a 6) (cll 88 (.ref a :: as) r)) Q := G_unf rfl rfl
theorem g41_28 : G d 41 28 ls st h Q ↔ GN d 41 28 ls h (pI st fun x r => br (x = 0) (nx 35 ls r h) (nx 31 ls r h)) Q := G_unf rfl rfl
theorem g41_31 : G d 41 31 ls st h Q ↔ GN d 41 31 ls h (nx 32 ls (.int (nI 0) :: st) h) Q := G_unf rfl rfl
theorem g41_32 : G d 41 32 ls st h Q ↔ GN d 41 32 ls h (nx 45 ls st h) Q := G_unf rfl rfl
theorem g41_35 : G d 41 35 ls st h Q ↔ GN d 41 35 ls h (ldR ls 1 fun a => nx 36 ls (.ref a :: st) h) Q := G_unf rfl rfl
theorem g41_36 : G d 41 36 ls st h Q ↔ GN d 41 36 ls h (ldR ls 2 fun a => nx 37 ls (.ref a :: st) h) Q := G_unf rfl rfl
theorem g41_37 : G d 41 37 ls st h Q ↔ GN d 41 37 ls h (ldI ls 3 fun x => nx 38 ls (.int x :: st) h) Q := G_unf rfl rfl
theorem g41_38 : G d 41 38 ls st h Q ↔ GN d 41 38 ls h (ldI ls 4 fun x => nx 40 ls (.int x :: st) h) Q := G_unf rfl rfl
theorem g41_40 : G d 41 40 ls st h Q ↔ GN d 41 40 ls h (nx 42 ls (.int (nI 7) :: st) h) Q := G_unf rfl rfl
theorem g41_42 : G d 41 42 ls st h Q ↔ GN d 41 42 ls h (pA 4 st fun as r => pR r fun a r => ck (r.length ≤ 4 ∧ arr h a 1) (cll 20 (.ref a :: as) r)) Q := G_unf rfl rfl
theorem g41_45 : G d 41 45 ls st h Q ↔ GN d 41 45 ls h (pRII st fun a i x r => ck (arr h a 10 ∧ inb i (hLn h a)) (nx 46 ls r (sI h a i.toNatClampNeg x))) Q := G_unf rfl rfl
theorem g41_46 : G d 41 46 ls st h Q ↔ GN d 41 46 ls h (ldI ls 4 fun x => nx 49 (st1 ls 4 (.int (x + (nI 1)))) st h) Q := G_unf rfl rfl
theorem g41_49 : G d 41 49 ls st h Q ↔ GN d 41 49 ls h (nx 3 ls st h) Q := G_unf rfl rfl
theorem g41_52 : G d 41 52 ls st h Q ↔ GN d 41 52 ls h (pE st (rtn none)) Q := G_unf rfl rfl
theorem g42_0 : G d 42 0 ls st h Q ↔ GN d 42 0 ls h (nx 1 ls (.int (nI 0) :: st) h) Q := G_unf rfl rfl
theorem g42_1 : G d 42 1 ls st h Q ↔ GN d 42 1 ls h (pI st fun x r => ck (4 < ls.length) (nx 3 (st1 ls 4 (.int x)) r h)) Q := G_unf rfl rfl
theorem g42_3 : G d 42 3 ls st h Q ↔ GN d 42 3 ls h (nx 4 ls (.int (nI 0) :: st) h) Q := G_unf rfl rfl
theorem g42_4 : G d 42 4 ls st h Q ↔ GN d 42 4 ls h (pI st fun x r => ck (5 < ls.length) (nx 6 (st1 ls 5 (.int x)) r h)) Q := G_unf rfl rfl
theorem g42_6 : G d 42 6 ls st h Q ↔ GN d 42 6 ls h (ldI ls 5 fun x => nx 8 ls (.int x :: st) h) Q := G_unf rfl rfl
theorem g42_8 : G d 42 8 ls st h Q ↔ GN d 42 8 ls h (ldR ls 1 fun a => nx 9 ls (.ref a :: st) h) Q := G_unf rfl rfl
theorem g42_9 : G d 42 9 ls st h Q ↔ GN d 42 9 ls h (pR st fun a r => ck (arr h a 0) (nx 12 ls (.int (hI h a 10) :: r) h)) Q := G_unf rfl rfl
theorem g42_12 : G d 42 12 ls st h Q ↔ GN d 42 12 ls h (pII st fun x y r => br (y ≤ x) (nx 31 ls r h) (nx 15 ls r h)) Q := G_unf rfl rfl
theorem g42_15 : G d 42 15 ls st h Q ↔ GN d 42 15 ls h (ldI ls 4 fun x => nx 17 ls (.int x :: st) h) Q := G_unf rfl rfl
theorem g42_17 : G d 42 17 ls st h Q ↔ GN d 42 17 ls h (ldI ls 5 fun x => nx 19 ls (.int x :: st) h) Q := G_unf rfl rfl
theorem g42_19 : G d 42 19 ls st h Q ↔ GN d 42 19 ls h (pA 1 st fun as r => ck (r.length ≤ 4) (cll 44 as r)) Q := G_unf rfl rfl
theorem g42_22 : G d 42 22 ls st h Q ↔ GN d 42 22 ls h (pII st fun x y r => nx 23 ls (.int (x ||| y) :: r) h) Q := G_unf rfl rfl
theorem g42_23 : G d 42 23 ls st h Q ↔ GN d 42 23 ls h (pI st fun x r => ck (4 < ls.length) (nx 25 (st1 ls 4 (.int x)) r h)) Q := G_unf rfl rfl
theorem g42_25 : G d 42 25 ls st h Q ↔ GN d 42 25 ls h (ldI ls 5 fun x => nx 28 (st1 ls 5 (.int (x + (nI 1)))) st h) Q := G_unf rfl rfl
theorem g42_28 : G d 42 28 ls st h Q ↔ GN d 42 28 ls h (nx 6 ls st h) Q := G_unf rfl rfl
theorem g42_31 : G d 42 31 ls st h Q ↔ GN d 42 31 ls h (ldI ls 4 fun x => nx 33 ls (.int x :: st) h) Q := G_unf rfl rfl
theorem g42_33 : G d 42 33 ls st h Q ↔ GN d 42 33 ls h (pI st fun x r => br (¬ x = 0) (nx 38 ls r h) (nx 36 ls r h)) Q := G_unf rfl rfl
theorem g42_36 : G d 42 36 ls st h Q ↔ GN d 42 36 ls h (nx 37 ls (.int (nI 0) :: st) h) Q := G_unf rfl rfl
theorem g42_37 : G d 42 37 ls st h Q ↔ GN d 42 37 ls h (pIe st fun x => rtn (some (.int x))) Q := G_unf rfl rfl
theorem g42_38 : G d 42 38 ls st h Q ↔ GN d 42 38 ls h (nx 39 ls (.int (nI 1) :: st) h) Q := G_unf rfl rfl
theorem g42_39 : G d 42 39 ls st h Q ↔ GN d 42 39 ls h (pI st fun x r => ck (5 < ls.length) (nx 41 (st1 ls 5 (.int x)) r h)) Q := G_unf rfl rfl
theorem g42_41 : G d 42 41 ls st h Q ↔ GN d 42 41 ls h (ldI ls 5 fun x => nx 43 ls (.int x :: st) h) Q := G_unf rfl rfl
theorem g42_43 : G d 42 43 ls st h Q ↔ GN d 42 43 ls h (nx 44 ls (.int (nI 3) :: st) h) Q := G_unf rfl rfl
theorem g42_44 : G d 42 44 ls st h Q ↔ GN d 42 44 ls h (pII st fun x y r => br (y < x) (nx 100 ls r h) (nx 47 ls r h)) Q := G_unf rfl rfl
theorem g42_47 : G d 42 47 ls st h Q ↔ GN d 42 47 ls h (ldI ls 4 fun x => nx 49 ls (.int x :: st) h) Q := G_unf rfl rfl
theorem g42_49 : G d 42 49 ls st h Q ↔ GN d 42 49 ls h (pI st fun x r => ck (6 < ls.length) (nx 51 (st1 ls 6 (.int x)) r h)) Q := G_unf rfl rfl
theorem g42_51 : G d 42 51 ls st h Q ↔ GN d 42 51 ls h (ldI ls 6 fun x => nx 53 ls (.int x :: st) h) Q := G_unf rfl rfl
theorem g42_53 : G d 42 53 ls st h Q ↔ GN d 42 53 ls h (pI st fun x r => br (x ≤ 0) (nx 94 ls r h) (nx 56 ls r h)) Q := G_unf rfl rfl
theorem g42_56 : G d 42 56 ls st h Q ↔ GN d 42 56 ls h (ldI ls 6 fun x => nx 58 ls (.int x :: st) h) Q := G_unf rfl rfl
theorem g42_58 : G d 42 58 ls st h Q ↔ GN d 42 58 ls h (pA 1 st fun as r => ck (r.length ≤ 4) (cll 273 as r)) Q := G_unf rfl rfl
theorem g42_61 : G d 42 61 ls st h Q ↔ GN d 42 61 ls h (ldI ls 5 fun x => nx 63 ls (.int x :: st) h) Q := G_unf rfl rfl
theorem g42_63 : G d 42 63 ls st h Q ↔ GN d 42 63 ls h (pII st fun x y r => br (¬ x = y) (nx 82 ls r h) (nx 66 ls r h)) Q := G_unf rfl rfl
theorem g42_66 : G d 42 66 ls st h Q ↔ GN d 42 66 ls h (ldR ls 1 fun a => nx 67 ls (.ref a :: st) h) Q := G_unf rfl rfl
theorem g42_67 : G d 42 67 ls st h Q ↔ GN d 42 67 ls h (ldI ls 6 fun x => nx 69 ls (.int x :: st) h) Q := G_unf rfl rfl
theorem g42_69 : G d 42 69 ls st h Q ↔ GN d 42 69 ls h (ldI ls 2 fun x => nx 70 ls (.int x :: st) h) Q := G_unf rfl rfl
theorem g42_70 : G d 42 70 ls st h Q ↔ GN d 42 70 ls h (ldI ls 3 fun x => nx 71 ls (.int x :: st) h) Q := G_unf rfl rfl
theorem g42_71 : G d 42 71 ls st h Q ↔ GN d 42 71 ls h (pA 4 st fun as r => ck (r.length ≤ 4) (cll 45 as r)) Q := G_unf rfl rfl
theorem g42_74 : G d 42 74 ls st h Q ↔ GN d 42 74 ls h (ldI ls 4 fun x => nx 76 ls (.int x :: st) h) Q := G_unf rfl rfl
theorem g42_76 : G d 42 76 ls st h Q ↔ GN d 42 76 ls h (pII st fun x y r => br (¬ x = y) (nx 82 ls r h) (nx 79 ls r h)) Q := G_unf rfl rfl
theorem g42_79 : G d 42 79 ls st h Q ↔ GN d 42 79 ls h (ldI ls 6 fun x => nx 81 ls (.int x :: st) h) Q := G_unf rfl rfl
theorem g42_81 : G d 42 81 ls st h Q ↔ GN d 42 81 ls h (pIe st fun x => rtn (some (.int x))) Q := G_unf rfl rfl
theorem g42_82 : G d 42 82 ls st h Q ↔ GN d 42 82 ls h (ldI ls 6 fun x => nx 84 ls (.int x :: st) h) Q := G_unf rfl rfl
theorem g42_84 : G d 42 84 ls st h Q ↔ GN d 42 84 ls h (nx 85 ls (.int (nI 1) :: st) h) Q := G_unf rfl rfl
theorem g42_85 : G d 42 85 ls st h Q ↔ GN d 42 85 ls h (pII st fun x y r => nx 86 ls (.int (x - y) :: r) h) Q := G_unf rfl rfl
theorem g42_86 : G d 42 86 ls st h Q ↔ GN d 42 86 ls h (ldI ls 4 fun x => nx 88 ls (.int x :: st) h) Q := G_unf rfl rfl
theorem g42_88 : G d 42 88 ls st h Q ↔ GN d 42 88 ls h (pII st fun x y r => nx 89 ls (.int (x &&& y) :: r) h) Q := G_unf rfl rfl
theorem g42_89 : G d 42 89 ls st h Q ↔ GN d 42 89 ls h (pI st fun x r => ck (6 < ls.length) (nx 91 (st1 ls 6 (.int x)) r h)) Q := G_unf rfl rfl
theorem g42_91 : G d 42 91 ls st h Q ↔ GN d 42 91 ls h (nx 51 ls st h) Q := G_unf rfl rfl
theorem g42_94 : G d 42 94 ls st h Q ↔ GN d 42 94 ls h (ldI ls 5 fun x => nx 97 (st1 ls 5 (.int (x + (nI 1)))) st h) Q := G_unf rfl rfl
theorem g42_97 : G d 42 97 ls st h Q ↔ GN d 42 97 ls h (nx 41 ls st h) Q := G_unf rfl rfl
theorem g42_100 : G d 42 100 ls st h Q ↔ GN d 42 100 ls h (nx 101 ls (.int (-1) :: st) h) Q := G_unf rfl rfl
theorem g42_101 : G d 42 101 ls st h Q ↔ GN d 42 101 ls h (pIe st fun x => rtn (some (.int x))) Q := G_unf rfl rfl
theorem g43_0 : G d 43 0 ls st h Q ↔ GN d 43 0 ls h (nx 1 ls (.int (nI 0) :: st) h) Q := G_unf rfl rfl
theorem g43_1 : G d 43 1 ls st h Q ↔ GN d 43 1 ls h (pI st fun x r => ck (3 < ls.length) (nx 2 (st1 ls 3 (.int x)) r h)) Q := G_unf rfl rfl
theorem g43_2 : G d 43 2 ls st h Q ↔ GN d 43 2 ls h (nx 3 ls (.int (nI 0) :: st) h) Q := G_unf rfl rfl
theorem g43_3 : G d 43 3 ls st h Q ↔ GN d 43 3 ls h (pI st fun x r => ck (4 < ls.length) (nx 5 (st1 ls 4 (.int x)) r h)) Q := G_unf rfl rfl
theorem g43_5 : G d 43 5 ls st h Q ↔ GN d 43 5 ls h (ldI ls 4 fun x => nx 7 ls (.int x :: st) h) Q := G_unf rfl rfl
theorem g43_7 : G d 43 7 ls st h Q ↔ GN d 43 7 ls h (nx 9 ls (.int (nI 8) :: st) h) Q := G_unf rfl rfl
theorem g43_9 : G d 43 9 ls st h Q ↔ GN d 43 9 ls h (pII st fun x y r => br (y ≤ x) (nx 39 ls r h) (nx 12 ls r h)) Q := G_unf rfl rfl
theorem g43_12 : G d 43 12 ls st h Q ↔ GN d 43 12 ls h (ldI ls 1 fun x => nx 13 ls (.int x :: st) h) Q := G_unf rfl rfl
theorem g43_13 : G d 43 13 ls st h Q ↔ GN d 43 13 ls h (ldI ls 4 fun x => nx 15 ls (.int x :: st) h) Q := G_unf rfl rfl
theorem g43_15 : G d 43 15 ls st h Q ↔ GN d 43 15 ls h (pA 1 st fun as r => ck (r.length ≤ 4) (cll 44 as r)) Q := G_unf rfl rfl
theorem g43_18 : G d 43 18 ls st h Q ↔ GN d 43 18 ls h (pII st fun x y r => nx 19 ls (.int (x &&& y) :: r) h) Q := G_unf rfl rfl
theorem g43_19 : G d 43 19 ls st h Q ↔ GN d 43 19 ls h (pI st fun x r => br (x = 0) (nx 33 ls r h) (nx 22 ls r h)) Q := G_unf rfl rfl
theorem g43_22 : G d 43 22 ls st h Q ↔ GN d 43 22 ls h (ldI ls 3 fun x => nx 23 ls (.int x :: st) h) Q := G_unf rfl rfl
theorem g43_23 : G d 43 23 ls st h Q ↔ GN d 43 23 ls h (ldI ls 2 fun x => nx 24 ls (.int x :: st) h) Q := G_unf rfl rfl
theorem g43_24 : G d 43 24 ls st h Q ↔ GN d 43 24 ls h (pII st fun x y r => br (¬ x = y) (nx 30 ls r h) (nx 27 ls r h)) Q := G_unf rfl rfl
theorem g43_27 : G d 43 27 ls st h Q ↔ GN d 43 27 ls h (ldI ls 4 fun x => nx 29 ls (.int x :: st) h) Q := G_unf rfl rfl
theorem g43_29 : G d 43 29 ls st h Q ↔ GN d 43 29 ls h (pIe st fun x => rtn (some (.int x))) Q := G_unf rfl rfl
theorem g43_30 : G d 43 30 ls st h Q ↔ GN d 43 30 ls h (ldI ls 3 fun x => nx 33 (st1 ls 3 (.int (x + (nI 1)))) st h) Q := G_unf rfl rfl
theorem g43_33 : G d 43 33 ls st h Q ↔ GN d 43 33 ls h (ldI ls 4 fun x => nx 36 (st1 ls 4 (.int (x + (nI 1)))) st h) Q := G_unf rfl rfl
theorem g43_36 : G d 43 36 ls st h Q ↔ GN d 43 36 ls h (nx 5 ls st h) Q := G_unf rfl rfl
theorem g43_39 : G d 43 39 ls st h Q ↔ GN d 43 39 ls h (nx 40 ls (.int (-1) :: st) h) Q := G_unf rfl rfl
theorem g43_40 : G d 43 40 ls st h Q ↔ GN d 43 40 ls h (pIe st fun x => rtn (some (.int x))) Q := G_unf rfl rfl
theorem g44_0 : G d 44 0 ls st h Q ↔ GN d 44 0 ls h (nx 1 ls (.int (nI 1) :: st) h) Q := G_unf rfl rfl
theorem g44_1 : G d 44 1 ls st h Q ↔ GN d 44 1 ls h (nx 3 ls (.int (nI 7) :: st) h) Q := G_unf rfl rfl
theorem g44_3 : G d 44 3 ls st h Q ↔ GN d 44 3 ls h (ldI ls 0 fun x => nx 4 ls (.int x :: st) h) Q := G_unf rfl rfl
theorem g44_4 : G d 44 4 ls st h Q ↔ GN d 44 4 ls h (pII st fun x y r => nx 5 ls (.int (x - y) :: r) h) Q := G_unf rfl rfl
theorem g44_5 : G d 44 5 ls st h Q ↔ GN d 44 5 ls h (pII st fun x y r => nx 6 ls (.int (x <<< (y &&& 31)) :: r) h) Q := G_unf rfl rfl
theorem g44_6 : G d 44 6 ls st h Q ↔ GN d 44 6 ls h (pIe st fun x => rtn (some (.int x))) Q := G_unf rfl rfl
theorem g45_0 : G d 45 0 ls st h Q ↔ GN d 45 0 ls h (ldI ls 1 fun x => nx 1 ls (.int x :: st) h) Q := G_unf rfl rfl
theorem g45_1 : G d 45 1 ls st h Q ↔ GN d 45 1 ls h (pI st fun x r => ck (4 < ls.length) (nx 3 (st1 ls 4 (.int x)) r h)) Q := G_unf rfl rfl
theorem g45_3 : G d 45 3 ls st h Q ↔ GN d 45 3 ls h (ldI ls 2 fun x => nx 4 ls (.int x :: st) h) Q := G_unf rfl rfl
theorem g45_4 : G d 45 4 ls st h Q ↔ GN d 45 4 ls h (nx 5 ls (.int (nI 1) :: st) h) Q := G_unf rfl rfl
theorem g45_5 : G d 45 5 ls st h Q ↔ GN d 45 5 ls h (pII st fun x y r => nx 6 ls (.int (x + y) :: r) h) Q := G_unf rfl rfl
theorem g45_6 : G d 45 6 ls st h Q ↔ GN d 45 6 ls h (pI st fun x r => ck (5 < ls.length) (nx 8 (st1 ls 5 (.int x)) r h)) Q := G_unf rfl rfl
theorem g45_8 : G d 45 8 ls st h Q ↔ GN d 45 8 ls h (ldI ls 5 fun x => nx 10 ls (.int x :: st) h) Q := G_unf rfl rfl
theorem g45_10 : G d 45 10 ls st h Q ↔ GN d 45 10 ls h (ldI ls 2 fun x => nx 11 ls (.int x :: st) h) Q := G_unf rfl rfl
theorem g45_11 : G d 45 11 ls st h Q ↔ GN d 45 11 ls h (ldI ls 3 fun x => nx 12 ls (.int x :: st) h) Q := G_unf rfl rfl
theorem g45_12 : G d 45 12 ls st h Q ↔ GN d 45 12 ls h (pII st fun x y r => nx 13 ls (.int (x + y) :: r) h) Q := G_unf rfl rfl
theorem g45_13 : G d 45 13 ls st h Q ↔ GN d 45 13 ls h (pII st fun x y r => br (y < x) (nx 86 ls r h) (nx 16 ls r h)) Q := G_unf rfl rfl
theorem g45_16 : G d 45 16 ls st h Q ↔ GN d 45 16 ls h (nx 17 ls (.int (nI 0) :: st) h) Q := G_unf rfl rfl
theorem g45_17 : G d 45 17 ls st h Q ↔ GN d 45 17 ls h (pI st fun x r => ck (6 < ls.length) (nx 19 (st1 ls 6 (.int x)) r h)) Q := G_unf rfl rfl
theorem g45_19 : G d 45 19 ls st h Q ↔ GN d 45 19 ls h (ldI ls 6 fun x => nx 21 ls (.int x :: st) h) Q := G_unf rfl rfl
theorem g45_21 : G d 45 21 ls st h Q ↔ GN d 45 21 ls h (ldR ls 0 fun a => nx 22 ls (.ref a :: st) h) Q := G_unf rfl rfl
theorem g45_22 : G d 45 22 ls st h Q ↔ GN d 45 22 ls h (pR st fun a r => ck (arr h a 0) (nx 25 ls (.int (hI h a 14) :: r) h)) Q := G_unf rfl rfl
theorem g45_25 : G d 45 25 ls st h Q ↔ GN d 45 25 ls h (pII st fun x y r => br (y ≤ x) (nx 80 ls r h) (nx 28 ls r h)) Q := G_unf rfl rfl
theorem g45_28 : G d 45 28 ls st h Q ↔ GN d 45 28 ls h (ldR ls 0 fun a => nx 29 ls (.ref a :: st) h) Q := G_unf rfl rfl
theorem g45_29 : G d 45 29 ls st h Q ↔ GN d 45 29 ls h (pR st fun a r => ck (arr h a 0) (nx 32 ls (rv (hR h a 13) :: r) h)) Q := G_unf rfl rfl
theorem g45_32 : G d 45 32 ls st h Q ↔ GN d 45 32 ls h (ldI ls 6 fun x => nx 34 ls (.int x :: st) h) Q := G_unf rfl rfl
theorem g45_34 : G d 45 34 ls st h Q ↔ GN d 45 34 ls h (pRI st fun a i r => br (a = 1000003) (ck (inb i (hS h).1) (nx 35 ls (.int ((hS h).2 i.toNatClampNeg) :: r) h)) (ck (arr h a 10 ∧ inb i (hLn h a)) (nx 35 ls (.int (hI h a i.toNatClampNeg) :: r) h))) Q := G_unf rfl rfl
theorem g45_35 : G d 45 35 ls st h Q ↔ GN d 45 35 ls h (ldI ls 5 fun x => nx 37 ls (.int x :: st) h) Q := G_unf rfl rfl
theorem g45_37 : G d 45 37 ls st h Q ↔ GN d 45 37 ls h (nx 39 ls (.int (nI 7) :: st) h) Q := G_unf rfl rfl
theorem g45_39 : G d 45 39 ls st h Q ↔ GN d 45 39 ls h (pII st fun x y r => ck (¬ y = 0) (nx 40 ls (.int (x - x / y * y) :: r) h)) Q := G_unf rfl rfl
theorem g45_40 : G d 45 40 ls st h Q ↔ GN d 45 40 ls h (pII st fun x y r => br (¬ x = y) (nx 74 ls r h) (nx 43 ls r h)) Q := G_unf rfl rfl
theorem g45_43 : G d 45 43 ls st h Q ↔ GN d 45 43 ls h (ldI ls 4 fun x => nx 45 ls (.int x :: st) h) Q := G_unf rfl rfl
theorem g45_45 : G d 45 45 ls st h Q ↔ GN d 45 45 ls h (ldR ls 0 fun a => nx 46 ls (.ref a :: st) h) Q := G_unf rfl rfl
theorem g45_46 : G d 45 46 ls st h Q ↔ GN d 45 46 ls h (pR st fun a r => ck (arr h a 0) (nx 49 ls (rv (hR h a 11) :: r) h)) Q := G_unf rfl rfl
theorem g45_49 : G d 45 49 ls st h Q ↔ GN d 45 49 ls h (ldI ls 6 fun x => nx 51 ls (.int x :: st) h) Q := G_unf rfl rfl
theorem g45_51 : G d 45 51 ls st h Q ↔ GN d 45 51 ls h (pRI st fun a i r => br (a = 1000003) (ck (inb i (hS h).1) (nx 52 ls (.int ((hS h).2 i.toNatClampNeg) :: r) h)) (ck (arr h a 10 ∧ inb i (hLn h a)) (nx 52 ls (.int (hI h a i.toNatClampNeg) :: r) h))) Q := G_unf rfl rfl
theorem g45_52 : G d 45 52 ls st h Q ↔ GN d 45 52 ls h (pA 1 st fun as r => ck (r.length ≤ 4) (cll 44 as r)) Q := G_unf rfl rfl
theorem g45_55 : G d 45 55 ls st h Q ↔ GN d 45 55 ls h (pII st fun x y r => nx 56 ls (.int (x &&& y) :: r) h) Q := G_unf rfl rfl
theorem g45_56 : G d 45 56 ls st h Q ↔ GN d 45 56 ls h (pI st fun x r => br (x = 0) (nx 74 ls r h) (nx 59 ls r h)) Q := G_unf rfl rfl
theorem g45_59 : G d 45 59 ls st h Q ↔ GN d 45 59 ls h (ldI ls 4 fun x => nx 61 ls (.int x :: st) h) Q := G_unf rfl rfl
theorem g45_61 : G d 45 61 ls st h Q ↔ GN d 45 61 ls h (ldR ls 0 fun a => nx 62 ls (.ref a :: st) h) Q := G_unf rfl rfl
theorem g45_62 : G d 45 62 ls st h Q ↔ GN d 45 62 ls h (pR st fun a r => ck (arr h a 0) (nx 65 ls (rv (hR h a 12) :: r) h)) Q := G_unf rfl rfl
theorem g45_65 : G d 45 65 ls st h Q ↔ GN d 45 65 ls h (ldI ls 6 fun x => nx 67 ls (.int x :: st) h) Q := G_unf rfl rfl
theorem g45_67 : G d 45 67 ls st h Q ↔ GN d 45 67 ls h (pRI st fun a i r => br (a = 1000003) (ck (inb i (hS h).1) (nx 68 ls (.int ((hS h).2 i.toNatClampNeg) :: r) h)) (ck (arr h a 10 ∧ inb i (hLn h a)) (nx 68 ls (.int (hI h a i.toNatClampNeg) :: r) h))) Q := G_unf rfl rfl
theorem g45_68 : G d 45 68 ls st h Q ↔ GN d 45 68 ls h (pA 1 st fun as r => ck (r.length ≤ 4) (cll 44 as r)) Q := G_unf rfl rfl
theorem g45_71 : G d 45 71 ls st h Q ↔ GN d 45 71 ls h (pII st fun x y r => nx 72 ls (.int (x ||| y) :: r) h) Q := G_unf rfl rfl
theorem g45_72 : G d 45 72 ls st h Q ↔ GN d 45 72 ls h (pI st fun x r => ck (4 < ls.length) (nx 74 (st1 ls 4 (.int x)) r h)) Q := G_unf rfl rfl
theorem g45_74 : G d 45 74 ls st h Q ↔ GN d 45 74 ls h (ldI ls 6 fun x => nx 77 (st1 ls 6 (.int (x + (nI 1)))) st h) Q := G_unf rfl rfl
theorem g45_77 : G d 45 77 ls st h Q ↔ GN d 45 77 ls h (nx 19 ls st h) Q := G_unf rfl rfl
theorem g45_80 : G d 45 80 ls st h Q ↔ GN d 45 80 ls h (ldI ls 5 fun x => nx 83 (st1 ls 5 (.int (x + (nI 1)))) st h) Q := G_unf rfl rfl
theorem g45_83 : G d 45 83 ls st h Q ↔ GN d 45 83 ls h (nx 8 ls st h) Q := G_unf rfl rfl
theorem g45_86 : G d 45 86 ls st h Q ↔ GN d 45 86 ls h (ldI ls 4 fun x => nx 88 ls (.int x :: st) h) Q := G_unf rfl rfl
theorem g45_88 : G d 45 88 ls st h Q ↔ GN d 45 88 ls h (pIe st fun x => rtn (some (.int x))) Q := G_unf rfl rfl
theorem g46_0 : G d 46 0 ls st h Q ↔ GN d 46 0 ls h (ldR ls 1 fun a => nx 1 ls (.ref a :: st) h) Q := G_unf rfl rfl
theorem g46_1 : G d 46 1 ls st h Q ↔ GN d 46 1 ls h (ldI ls 2 fun x => nx 2 ls (.int x :: st) h) Q := G_unf rfl rfl
theorem g46_2 : G d 46 2 ls st h Q ↔ GN d 46 2 ls h (pA 1 st fun as r => pR r fun a r => ck (r.length ≤ 4 ∧ arr h a 0) (cll 3 (.ref a :: as) r)) Q := G_unf rfl rfl
theorem g46_5 : G d 46 5 ls st h Q ↔ GN d 46 5 ls h (pI st fun x r => ck (4 < ls.length) (nx 7 (st1 ls 4 (.int x)) r h)) Q := G_unf rfl rfl
theorem g46_7 : G d 46 7 ls st h Q ↔ GN d 46 7 ls h (ldR ls 1 fun a => nx 8 ls (.ref a :: st) h) Q := G_unf rfl rfl
theorem g46_8 : G d 46 8 ls st h Q ↔ GN d 46 8 ls h (pA 0 st fun as r => pR r fun a r => ck (r.length ≤ 4 ∧ arr h a 0) (cll 2 (.ref a :: as) r)) Q := G_unf rfl rfl
theorem g46_11 : G d 46 11 ls st h Q ↔ GN d 46 11 ls h (pI st fun x r => ck (5 < ls.length) (nx 13 (st1 ls 5 (.int x)) r h)) Q := G_unf rfl rfl
theorem g46_13 : G d 46 13 ls st h Q ↔ GN d 46 13 ls h (ldR ls 0 fun a => nx 14 ls (.ref a :: st) h) Q := G_unf rfl rfl
theorem g46_14 : G d 46 14 ls st h Q ↔ GN d 46 14 ls h (nx 15 ls (.int (nI 0) :: st) h) Q := G_unf rfl rfl
theorem g46_15 : G d 46 15 ls st h Q ↔ GN d 46 15 ls h (pRI st fun a x r => ck (arr h a 4) (nx 18 ls r (sI h a 2 x))) Q := G_unf rfl rfl
theorem g46_18 : G d 46 18 ls st h Q ↔ GN d 46 18 ls h (ldR ls 0 fun a => nx 19 ls (.ref a :: st) h) Q := G_unf rfl rfl
theorem g46_19 : G d 46 19 ls st h Q ↔ GN d 46 19 ls h (ldI ls 5 fun x => nx 21 ls (.int x :: st) h) Q := G_unf rfl rfl
theorem g46_21 : G d 46 21 ls st h Q ↔ GN d 46 21 ls h (pRI st fun a x r => ck (arr h a 4) (nx 24 ls r (sI h a 3 x))) Q := G_unf rfl rfl
theorem g46_24 : G d 46 24 ls st h Q ↔ GN d 46 24 ls h (ldR ls 0 fun a => nx 25 ls (.ref a :: st) h) Q := G_unf rfl rfl
theorem g46_25 : G d 46 25 ls st h Q ↔ GN d 46 25 ls h (nx 26 ls (.int (nI 0) :: st) h) Q := G_unf rfl rfl
theorem g46_26 : G d 46 26 ls st h Q ↔ GN d 46 26 ls h (pRI st fun a x r => ck (arr h a 4) (nx 29 ls r (sI h a 4 x))) Q := G_unf rfl rfl
theorem g46_29 : G d 46 29 ls st h Q ↔ GN d 46 29 ls h (nx 30 ls (.int (nI 0) :: st) h) Q := G_unf rfl rfl
theorem g46_30 : G d 46 30 ls st h Q ↔ GN d 46 30 ls h (pI st fun x r => ck (6 < ls.length) (nx 32 (st1 ls 6 (.int x)) r h)) Q := G_unf rfl rfl
theorem g46_32 : G d 46 32 ls st h Q ↔ GN d 46 32 ls h (ldI ls 6 fun x => nx 34 ls (.int x :: st) h) Q := G_unf rfl rfl
theorem g46_34 : G d 46 34 ls st h Q ↔ GN d 46 34 ls h (ldI ls 5 fun x => nx 36 ls (.int x :: st) h) Q := G_unf rfl rfl
theorem g46_36 : G d 46 36 ls st h Q ↔ GN d 46 36 ls h (pII st fun x y r => br (y < x) (nx 101 ls r h) (nx 39 ls r h)) Q := G_unf rfl rfl
theorem g46_39 : G d 46 39 ls st h Q ↔ GN d 46 39 ls h (ldR ls 1 fun a => nx 40 ls (.ref a :: st) h) Q := G_unf rfl rfl
theorem g46_40 : G d 46 40 ls st h Q ↔ GN d 46 40 ls h (ldI ls 4 fun x => nx 42 ls (.int x :: st) h) Q := G_unf rfl rfl
theorem g46_42 : G d 46 42 ls st h Q ↔ GN d 46 42 ls h (ldI ls 6 fun x => nx 44 ls (.int x :: st) h) Q := G_unf rfl rfl
theorem g46_44 : G d 46 44 ls st h Q ↔ GN d 46 44 ls h (nx 45 ls (.int (-1) :: st) h) Q := G_unf rfl rfl
theorem g46_45 : G d 46 45 ls st h Q ↔ GN d 46 45 ls h (pII st fun x y r => nx 46 ls (.int (x ^^^ y) :: r) h) Q := G_unf rfl rfl
theorem g46_46 : G d 46 46 ls st h Q ↔ GN d 46 46 ls h (pII st fun x y r => nx 47 ls (.int (x &&& y) :: r) h) Q := G_unf rfl rfl
theorem g46_47 : G d 46 47 ls st h Q ↔ GN d 46 47 ls h (pA 1 st fun as r => pR r fun a r => ck (r.length ≤ 4 ∧ arr h a 0) (cll 4 (.ref a :: as) r)) Q := G_unf rfl rfl
theorem g46_50 : G d 46 50 ls st h Q ↔ GN d 46 50 ls h (ldI ls 3 fun x => nx 51 ls (.int x :: st) h) Q := G_unf rfl rfl
theorem g46_51 : G d 46 51 ls st h Q ↔ GN d 46 51 ls h (pII st fun x y r => br (¬ x = y) (nx 95 ls r h) (nx 54 ls r h)) Q := G_unf rfl rfl
theorem g46_54 : G d 46 54 ls st h Q ↔ GN d 46 54 ls h (ldR ls 1 fun a => nx 55 ls (.ref a :: st) h) Q := G_unf rfl rfl
theorem g46_55 : G d 46 55 ls st h Q ↔ GN d 46 55 ls h (ldI ls 6 fun x => nx 57 ls (.int x :: st) h) Q := G_unf rfl rfl
theorem g46_57 : G d 46 57 ls st h Q ↔ GN d 46 57 ls h (pA 1 st fun as r => pR r fun a r => ck (r.length ≤ 4 ∧ arr h a 0) (cll 8 (.ref a :: as) r)) Q := G_unf rfl rfl
theorem g46_60 : G d 46 60 ls st h Q ↔ GN d 46 60 ls h (pI st fun x r => br (x = 0) (nx 95 ls r h) (nx 63 ls r h)) Q := G_unf rfl rfl
theorem g46_63 : G d 46 63 ls st h Q ↔ GN d 46 63 ls h (ldR ls 0 fun a => nx 64 ls (.ref a :: st) h) Q := G_unf rfl rfl
theorem g46_64 : G d 46 64 ls st h Q ↔ GN d 46 64 ls h (p1 st fun v r => nx 65 ls (v :: v :: r) h) Q := G_unf rfl rfl
theorem g46_65 : G d 46 65 ls st h Q ↔ GN d 46 65 ls h (pR st fun a r => ck (arr h a 4) (nx 68 ls (.int (hI h a 2) :: r) h)) Q := G_unf rfl rfl
theorem g46_68 : G d 46 68 ls st h Q ↔ GN d 46 68 ls h (nx 69 ls (.int (nI 1) :: st) h) Q := G_unf rfl rfl
theorem g46_69 : G d 46 69 ls st h Q ↔ GN d 46 69 ls h (pII st fun x y r => nx 70 ls (.int (x + y) :: r) h) Q := G_unf rfl rfl
theorem g46_70 : G d 46 70 ls st h Q ↔ GN d 46 70 ls h (pRI st fun a x r => ck (arr h a 4) (nx 73 ls r (sI h a 2 x))) Q := G_unf rfl rfl
theorem g46_73 : G d 46 73 ls st h Q ↔ GN d 46 73 ls h (ldR ls 0 fun a => nx 74 ls (.ref a :: st) h) Q := G_unf rfl rfl
theorem g46_74 : G d 46 74 ls st h Q ↔ GN d 46 74 ls h (p1 st fun v r => nx 75 ls (v :: v :: r) h) Q := G_unf rfl rfl
theorem g46_75 : G d 46 75 ls st h Q ↔ GN d 46 75 ls h (pR st fun a r => ck (arr h a 4) (nx 78 ls (.int (hI h a 3) :: r) h)) Q := G_unf rfl rfl
theorem g46_78 : G d 46 78 ls st h Q ↔ GN d 46 78 ls h (ldI ls 6 fun x => nx 80 ls (.int x :: st) h) Q := G_unf rfl rfl
theorem g46_80 : G d 46 80 ls st h Q ↔ GN d 46 80 ls h (pII st fun x y r => nx 81 ls (.int (x &&& y) :: r) h) Q := G_unf rfl rfl
theorem g46_81 : G d 46 81 ls st h Q ↔ GN d 46 81 ls h (pRI st fun a x r => ck (arr h a 4) (nx 84 ls r (sI h a 3 x))) Q := G_unf rfl rfl
theorem g46_84 : G d 46 84 ls st h Q ↔ GN d 46 84 ls h (ldR ls 0 fun a => nx 85 ls (.ref a :: st) h) Q := G_unf rfl rfl
theorem g46_85 : G d 46 85 ls st h Q ↔ GN d 46 85 ls h (p1 st fun v r => nx 86 ls (v :: v :: r) h) Q := G_unf rfl rfl
theorem g46_86 : G d 46 86 ls st h Q ↔ GN d 46 86 ls h (pR st fun a r => ck (arr h a 4) (nx 89 ls (.int (hI h a 4) :: r) h)) Q := G_unf rfl rfl
theorem g46_89 : G d 46 89 ls st h Q ↔ GN d 46 89 ls h (ldI ls 6 fun x => nx 91 ls (.int x :: st) h) Q := G_unf rfl rfl
theorem g46_91 : G d 46 91 ls st h Q ↔ GN d 46 91 ls h (pII st fun x y r => nx 92 ls (.int (x ||| y) :: r) h) Q := G_unf rfl rfl
theorem g46_92 : G d 46 92 ls st h Q ↔ GN d 46 92 ls h (pRI st fun a x r => ck (arr h a 4) (nx 95 ls r (sI h a 4 x))) Q := G_unf rfl rfl
theorem g46_95 : G d 46 95 ls st h Q ↔ GN d 46 95 ls h (ldI ls 6 fun x => nx 98 (st1 ls 6 (.int (x + (nI 1)))) st h) Q := G_unf rfl rfl
theorem g46_98 : G d 46 98 ls st h Q ↔ GN d 46 98 ls h (nx 32 ls st h) Q := G_unf rfl rfl
theorem g46_101 : G d 46 101 ls st h Q ↔ GN d 46 101 ls h (ldR ls 0 fun a => nx 102 ls (.ref a :: st) h) Q := G_unf rfl rfl
theorem g46_102 : G d 46 102 ls st h Q ↔ GN d 46 102 ls h (pR st fun a r => ck (arr h a 4) (nx 105 ls (.int (hI h a 2) :: r) h)) Q := G_unf rfl rfl
theorem g46_105 : G d 46 105 ls st h Q ↔ GN d 46 105 ls h (pI st fun x r => br (¬ x = 0) (nx 113 ls r h) (nx 108 ls r h)) Q := G_unf rfl rfl
theorem g46_108 : G d 46 108 ls st h Q ↔ GN d 46 108 ls h (ldR ls 0 fun a => nx 109 ls (.ref a :: st) h) Q := G_unf rfl rfl
theorem g46_109 : G d 46 109 ls st h Q ↔ GN d 46 109 ls h (nx 110 ls (.int (nI 0) :: st) h) Q := G_unf rfl rfl
theorem g46_110 : G d 46 110 ls st h Q ↔ GN d 46 110 ls h (pRI st fun a x r => ck (arr h a 4) (nx 113 ls r (sI h a 3 x))) Q := G_unf rfl rfl
theorem g46_113 : G d 46 113 ls st h Q ↔ GN d 46 113 ls h (pE st (rtn none)) Q := G_unf rfl rfl
theorem g47_0 : G d 47 0 ls st h Q ↔ GN d 47 0 ls h (ldR ls 0 fun a => nx 1 ls (.ref a :: st) h) Q := G_unf rfl rfl
theorem g47_1 : G d 47 1 ls st h Q ↔ GN d 47 1 ls h (nx 2 ls (.int (nI 0) :: st) h) Q := G_unf rfl rfl
theorem g47_2 : G d 47 2 ls st h Q ↔ GN d 47 2 ls h (pRI st fun a x r => ck (arr h a 4) (nx 5 ls r (sI h a 6 x))) Q := G_unf rfl rfl
theorem g47_5 : G d 47 5 ls st h Q ↔ GN d 47 5 ls h (ldR ls 0 fun a => nx 6 ls (.ref a :: st) h) Q := G_unf rfl rfl
theorem g47_6 : G d 47 6 ls st h Q ↔ GN d 47 6 ls h (nx 7 ls (.int (nI 0) :: st) h) Q := G_unf rfl rfl
theorem g47_7 : G d 47 7 ls st h Q ↔ GN d 47 7 ls h (pRI st fun a x r => ck (arr h a 4) (nx 10 ls r (sI h a 7 x))) Q := G_unf rfl rfl
theorem g47_10 : G d 47 10 ls st h Q ↔ GN d 47 10 ls h (ldR ls 0 fun a => nx 11 ls (.ref a :: st) h) Q := G_unf rfl rfl
theorem g47_11 : G d 47 11 ls st h Q ↔ GN d 47 11 ls h (nx 12 ls (.int (nI 0) :: st) h) Q := G_unf rfl rfl
theorem g47_12 : G d 47 12 ls st h Q ↔ GN d 47 12 ls h (pRI st fun a x r => ck (arr h a 4) (nx 15 ls r (sI h a 5 x))) Q := G_unf rfl rfl
theorem g47_15 : G d 47 15 ls st h Q ↔ GN d 47 15 ls h (nx 16 ls (.int (-1) :: st) h) Q := G_unf rfl rfl
theorem g47_16 : G d 47 16 ls st h Q ↔ GN d 47 16 ls h (pI st fun x r => ck (3 < ls.length) (nx 17 (st1 ls 3 (.int x)) r h)) Q := G_unf rfl rfl
theorem g47_17 : G d 47 17 ls st h Q ↔ GN d 47 17 ls h (nx 18 ls (.int (nI 0) :: st) h) Q := G_unf rfl rfl
theorem g47_18 : G d 47 18 ls st h Q ↔ GN d 47 18 ls h (pI st fun x r => ck (4 < ls.length) (nx 20 (st1 ls 4 (.int x)) r h)) Q := G_unf rfl rfl
theorem g47_20 : G d 47 20 ls st h Q ↔ GN d 47 20 ls h (ldI ls 4 fun x => nx 22 ls (.int x :: st) h) Q := G_unf rfl rfl
theorem g47_22 : G d 47 22 ls st h Q ↔ GN d 47 22 ls h (nx 24 ls (.int (nI 96) :: st) h) Q := G_unf rfl rfl
theorem g47_24 : G d 47 24 ls st h Q ↔ GN d 47 24 ls h (pII st fun x y r => br (y < x) (nx 85 ls r h) (nx 27 ls r h)) Q := G_unf rfl rfl
theorem g47_27 : G d 47 27 ls st h Q ↔ GN d 47 27 ls h (ldI ls 3 fun x => nx 28 ls (.int x :: st) h) Q := G_unf rfl rfl
theorem g47_28 : G d 47 28 ls st h Q ↔ GN d 47 28 ls h (ldR ls 0 fun a => nx 29 ls (.ref a :: st) h) Q := G_unf rfl rfl
theorem g47_29 : G d 47 29 ls st h Q ↔ GN d 47 29 ls h (pR st fun a r => ck (arr h a 4) (nx 32 ls (.int (hI h a 6) :: r) h)) Q := G_unf rfl rfl
theorem g47_32 : G d 47 32 ls st h Q ↔ GN d 47 32 ls h (pII st fun x y r => br (x = y) (nx 85 ls r h) (nx 35 ls r h)) Q := G_unf rfl rfl
theorem g47_35 : G d 47 35 ls st h Q ↔ GN d 47 35 ls h (ldR ls 0 fun a => nx 36 ls (.ref a :: st) h) Q := G_unf rfl rfl
theorem g47_36 : G d 47 36 ls st h Q ↔ GN d 47 36 ls h (pR st fun a r => ck (arr h a 4) (nx 39 ls (.int (hI h a 6) :: r) h)) Q := G_unf rfl rfl
theorem g47_39 : G d 47 39 ls st h Q ↔ GN d 47 39 ls h (pI st fun x r => ck (3 < ls.length) (nx 40 (st1 ls 3 (.int x)) r h)) Q := G_unf rfl rfl
theorem g47_40 : G d 47 40 ls st h Q ↔ GN d 47 40 ls h (ldR ls 0 fun a => nx 41 ls (.ref a :: st) h) Q := G_unf rfl rfl
theorem g47_41 : G d 47 41 ls st h Q ↔ GN d 47 41 ls h (p1 st fun v r => nx 42 ls (v :: v :: r) h) Q := G_unf rfl rfl
theorem g47_42 : G d 47 42 ls st h Q ↔ GN d 47 42 ls h (pR st fun a r => ck (arr h a 4) (nx 45 ls (.int (hI h a 5) :: r) h)) Q := G_unf rfl rfl
theorem g47_45 : G d 47 45 ls st h Q ↔ GN d 47 45 ls h (nx 46 ls (.int (nI 1) :: st) h) Q := G_unf rfl rfl
theorem g47_46 : G d 47 46 ls st h Q ↔ GN d 47 46 ls h (pII st fun x y r => nx 47 ls (.int (x + y) :: r) h) Q := G_unf rfl rfl
theorem g47_47 : G d 47 47 ls st h Q ↔ GN d 47 47 ls h (pRI st fun a x r => ck (arr h a 4) (nx 50 ls r (sI h a 5 x))) Q := G_unf rfl rfl
theorem g47_50 : G d 47 50 ls st h Q ↔ GN d 47 50 ls h (nx 51 ls (.int (nI 0) :: st) h) Q := G_unf rfl rfl
theorem g47_51 : G d 47 51 ls st h Q ↔ GN d 47 51 ls h (pI st fun x r => ck (5 < ls.length) (nx 53 (st1 ls 5 (.int x)) r h)) Q := G_unf rfl rfl
theorem g47_53 : G d 47 53 ls st h Q ↔ GN d 47 53 ls h (ldI ls 5 fun x => nx 55 ls (.int x :: st) h) Q := G_unf rfl rfl
theorem g47_55 : G d 47 55 ls st h Q ↔ GN d 47 55 ls h (ldR ls 1 fun a => nx 56 ls (.ref a :: st) h) Q := G_unf rfl rfl
theorem g47_56 : G d 47 56 ls st h Q ↔ GN d 47 56 ls h (pR st fun a r => ck (arr h a 1) (nx 59 ls (rv (hR h a 0) :: r) h)) Q := G_unf rfl rfl
theorem g47_59 : G d 47 59 ls st h Q ↔ GN d 47 59 ls h (pR st fun a r => ck (arr h a 0) (nx 62 ls (.int (hI h a 10) :: r) h)) Q := G_unf rfl rfl
theorem g47_62 : G d 47 62 ls st h Q ↔ GN d 47 62 ls h (pII st fun x y r => br (y ≤ x) (nx 79 ls r h) (nx 65 ls r h)) Q := G_unf rfl rfl
theorem g47_65 : G d 47 65 ls st h Q ↔ GN d 47 65 ls h (ldR ls 0 fun a => nx 66 ls (.ref a :: st) h) Q := G_unf rfl rfl
theorem g47_66 : G d 47 66 ls st h Q ↔ GN d 47 66 ls h (ldR ls 1 fun a => nx 67 ls (.ref a :: st) h) Q := G_unf rfl rfl
theorem g47_67 : G d 47 67 ls st h Q ↔ GN d 47 67 ls h (ldR ls 2 fun a => nx 68 ls (.ref a :: st) h) Q := G_unf rfl rfl
theorem g47_68 : G d 47 68 ls st h Q ↔ GN d 47 68 ls h (ldI ls 5 fun x => nx 70 ls (.int x :: st) h) Q := G_unf rfl rfl
theorem g47_70 : G d 47 70 ls st h Q ↔ GN d 47 70 ls h (pA 3 st fun as r => pR r fun a r => ck (r.length ≤ 4 ∧ arr h a 4) (cll 48 (.ref a :: as) r)) Q := G_unf rfl rfl
theorem g47_73 : G d 47 73 ls st h Q ↔ GN d 47 73 ls h (ldI ls 5 fun x => nx 76 (st1 ls 5 (.int (x + (nI 1)))) st h) Q := G_unf rfl rfl
theorem g47_76 : G d 47 76 ls st h Q ↔ GN d 47 76 ls h (nx 53 ls st h) Q := G_unf rfl rfl
theorem g47_79 : G d 47 79 ls st h Q ↔ GN d 47 79 ls h (ldI ls 4 fun x => nx 82 (st1 ls 4 (.int (x + (nI 1)))) st h) Q := G_unf rfl rfl
theorem g47_82 : G d 47 82 ls st h Q ↔ GN d 47 82 ls h (nx 20 ls st h) Q := G_unf rfl rfl
theorem g47_85 : G d 47 85 ls st h Q ↔ GN d 47 85 ls h (pE st (rtn none)) Q := G_unf rfl rfl
theorem g48_0 : G d 48 0 ls st h Q ↔ GN d 48 0 ls h (ldR ls 1 fun a => nx 1 ls (.ref a :: st) h) Q := G_unf rfl rfl
theorem g48_1 : G d 48 1 ls st h Q ↔ GN d 48 1 ls h (ldR ls 2 fun a => nx 2 ls (.ref a :: st) h) Q := G_unf rfl rfl
theorem g48_2 : G d 48 2 ls st h Q ↔ GN d 48 2 ls h (pA 1 st fun as r => pR r fun a r => ck (r.length ≤ 4 ∧ arr h a 1) (cll 17 (.ref a :: as) r)) Q := G_unf rfl rfl
theorem g48_5 : G d 48 5 ls st h Q ↔ GN d 48 5 ls h (pI st fun x r => br (x ≤ 0) (nx 23 ls r h) (nx 8 ls r h)) Q := G_unf rfl rfl
theorem g48_8 : G d 48 8 ls st h Q ↔ GN d 48 8 ls h (ldR ls 2 fun a => nx 9 ls (.ref a :: st) h) Q := G_unf rfl rfl
theorem g48_9 : G d 48 9 ls st h Q ↔ GN d 48 9 ls h (pR st fun a r => ck (arr h a 6) (nx 12 ls (.int (hI h a 0) :: r) h)) Q := G_unf rfl rfl
theorem g48_12 : G d 48 12 ls st h Q ↔ GN d 48 12 ls h (nx 14 ls (.int (nI 7) :: st) h) Q := G_unf rfl rfl
theorem g48_14 : G d 48 14 ls st h Q ↔ GN d 48 14 ls h (pII st fun x y r => nx 15 ls (.int (x + y) :: r) h) Q := G_unf rfl rfl
theorem g48_15 : G d 48 15 ls st h Q ↔ GN d 48 15 ls h (nx 16 ls (.int (nI 1) :: st) h) Q := G_unf rfl rfl
theorem g48_16 : G d 48 16 ls st h Q ↔ GN d 48 16 ls h (pII st fun x y r => nx 17 ls (.int (x - y) :: r) h) Q := G_unf rfl rfl
theorem g48_17 : G d 48 17 ls st h Q ↔ GN d 48 17 ls h (nx 20 ls (.int (nI 999) :: st) h) Q := G_unf rfl rfl
theorem g48_20 : G d 48 20 ls st h Q ↔ GN d 48 20 ls h (pII st fun x y r => br (x ≤ y) (nx 24 ls r h) (nx 23 ls r h)) Q := G_unf rfl rfl
theorem g48_23 : G d 48 23 ls st h Q ↔ GN d 48 23 ls h (pE st (rtn none)) Q := G_unf rfl rfl
theorem g48_24 : G d 48 24 ls st h Q ↔ GN d 48 24 ls h (ldR ls 1 fun a => nx 25 ls (.ref a :: st) h) Q := G_unf rfl rfl
theorem g48_25 : G d 48 25 ls st h Q ↔ GN d 48 25 ls h (pR st fun a r => ck (arr h a 1) (nx 28 ls (rv (hR h a 0) :: r) h)) Q := G_unf rfl rfl
theorem g48_28 : G d 48 28 ls st h Q ↔ GN d 48 28 ls h (ldR ls 2 fun a => nx 29 ls (.ref a :: st) h) Q := G_unf rfl rfl
theorem g48_29 : G d 48 29 ls st h Q ↔ GN d 48 29 ls h (pR st fun a r => ck (arr h a 6) (nx 32 ls (.int (hI h a 0) :: r) h)) Q := G_unf rfl rfl
theorem g48_32 : G d 48 32 ls st h Q ↔ GN d 48 32 ls h (pA 1 st fun as r => pR r fun a r => ck (r.length ≤ 4 ∧ arr h a 0) (cll 3 (.ref a :: as) r)) Q := G_unf rfl rfl
theorem g48_35 : G d 48 35 ls st h Q ↔ GN d 48 35 ls h (ldR ls 2 fun a => nx 36 ls (.ref a :: st) h) Q := G_unf rfl rfl
theorem g48_36 : G d 48 36 ls st h Q ↔ GN d 48 36 ls h (pR st fun a r => ck (arr h a 6) (nx 39 ls (rv (hR h a 1) :: r) h)) Q := G_unf rfl rfl
theorem g48_39 : G d 48 39 ls st h Q ↔ GN d 48 39 ls h (ldI ls 3 fun x => nx 40 ls (.int x :: st) h) Q := G_unf rfl rfl
theorem g48_40 : G d 48 40 ls st h Q ↔ GN d 48 40 ls h (pRI st fun a i r => br (a = 1000003) (ck (inb i (hS h).1) (nx 41 ls (.int ((hS h).2 i.toNatClampNeg) :: r) h)) (ck (arr h a 10 ∧ inb i (hLn h a)) (nx 41 ls (.int (hI h a i.toNatClampNeg) :: r) h))) Q := G_unf rfl rfl
theorem g48_41 : G d 48 41 ls st h Q ↔ GN d 48 41 ls h (nx 42 ls (.int (-1) :: st) h) Q := G_unf rfl rfl
theorem g48_42 : G d 48 42 ls st h Q ↔ GN d 48 42 ls h (pII st fun x y r => nx 43 ls (.int (x ^^^ y) :: r) h) Q := G_unf rfl rfl
theorem g48_43 : G d 48 43 ls st h Q ↔ GN d 48 43 ls h (pII st fun x y r => nx 44 ls (.int (x &&& y) :: r) h) Q := G_unf rfl rfl
theorem g48_44 : G d 48 44 ls st h Q ↔ GN d 48 44 ls h (ldR ls 2 fun a => nx 45 ls (.ref a :: st) h) Q := G_unf rfl rfl
theorem g48_45 : G d 48 45 ls st h Q ↔ GN d 48 45 ls h (pR st fun a r => ck (arr h a 6) (nx 48 ls (rv (hR h a 4) :: r) h)) Q := G_unf rfl rfl
theorem g48_48 : G d 48 48 ls st h Q ↔ GN d 48 48 ls h (ldI ls 3 fun x => nx 49 ls (.int x :: st) h) Q := G_unf rfl rfl
theorem g48_49 : G d 48 49 ls st h Q ↔ GN d 48 49 ls h (pRI st fun a i r => br (a = 1000003) (ck (inb i (hS h).1) (nx 50 ls (.int ((hS h).2 i.toNatClampNeg) :: r) h)) (ck (arr h a 10 ∧ inb i (hLn h a)) (nx 50 ls (.int (hI h a i.toNatClampNeg) :: r) h))) Q := G_unf rfl rfl
theorem g48_50 : G d 48 50 ls st h Q ↔ GN d 48 50 ls h (nx 51 ls (.int (-1) :: st) h) Q := G_unf rfl rfl
theorem g48_51 : G d 48 51 ls st h Q ↔ GN d 48 51 ls h (pII st fun x y r => nx 52 ls (.int (x ^^^ y) :: r) h) Q := G_unf rfl rfl
theorem g48_52 : G d 48 52 ls st h Q ↔ GN d 48 52 ls h (pII st fun x y r => nx 53 ls (.int (x &&& y) :: r) h) Q := G_unf rfl rfl
theorem g48_53 : G d 48 53 ls st h Q ↔ GN d 48 53 ls h (pI st fun x r => ck (4 < ls.length) (nx 55 (st1 ls 4 (.int x)) r h)) Q := G_unf rfl rfl
theorem g48_55 : G d 48 55 ls st h Q ↔ GN d 48 55 ls h (nx 56 ls (.int (-1) :: st) h) Q := G_unf rfl rfl
theorem g48_56 : G d 48 56 ls st h Q ↔ GN d 48 56 ls h (pI st fun x r => ck (5 < ls.length) (nx 58 (st1 ls 5 (.int x)) r h)) Q := G_unf rfl rfl
theorem g48_58 : G d 48 58 ls st h Q ↔ GN d 48 58 ls h (nx 59 ls (.int (nI 0) :: st) h) Q := G_unf rfl rfl
theorem g48_59 : G d 48 59 ls st h Q ↔ GN d 48 59 ls h (pI st fun x r => ck (6 < ls.length) (nx 61 (st1 ls 6 (.int x)) r h)) Q := G_unf rfl rfl
theorem g48_61 : G d 48 61 ls st h Q ↔ GN d 48 61 ls h (nx 62 ls (.int (nI 0) :: st) h) Q := G_unf rfl rfl
theorem g48_62 : G d 48 62 ls st h Q ↔ GN d 48 62 ls h (pI st fun x r => ck (7 < ls.length) (nx 64 (st1 ls 7 (.int x)) r h)) Q := G_unf rfl rfl
theorem g48_64 : G d 48 64 ls st h Q ↔ GN d 48 64 ls h (nx 65 ls (.int (nI 0) :: st) h) Q := G_unf rfl rfl
theorem g48_65 : G d 48 65 ls st h Q ↔ GN d 48 65 ls h (pI st fun x r => ck (8 < ls.length) (nx 67 (st1 ls 8 (.int x)) r h)) Q := G_unf rfl rfl
theorem g48_67 : G d 48 67 ls st h Q ↔ GN d 48 67 ls h (ldI ls 8 fun x => nx 69 ls (.int x :: st) h) Q := G_unf rfl rfl
theorem g48_69 : G d 48 69 ls st h Q ↔ GN d 48 69 ls h (ldR ls 1 fun a => nx 70 ls (.ref a :: st) h) Q := G_unf rfl rfl
theorem g48_70 : G d 48 70 ls st h Q ↔ GN d 48 70 ls h (pR st fun a r => ck (arr h a 1) (nx 73 ls (rv (hR h a 0) :: r) h)) Q := G_unf rfl rfl
theorem g48_73 : G d 48 73 ls st h Q ↔ GN d 48 73 ls h (pR st fun a r => ck (arr h a 0) (nx 76 ls (.int (hI h a 3) :: r) h)) Q := G_unf rfl rfl
theorem g48_76 : G d 48 76 ls st h Q ↔ GN d 48 76 ls h (pII st fun x y r => br (y ≤ x) (nx 153 ls r h) (nx 79 ls r h)) Q := G_unf rfl rfl
theorem g48_79 : G d 48 79 ls st h Q ↔ GN d 48 79 ls h (ldI ls 4 fun x => nx 81 ls (.int x :: st) h) Q := G_unf rfl rfl
theorem g48_81 : G d 48 81 ls st h Q ↔ GN d 48 81 ls h (ldI ls 8 fun x => nx 83 ls (.int x :: st) h) Q := G_unf rfl rfl
theorem g48_83 : G d 48 83 ls st h Q ↔ GN d 48 83 ls h (pII st fun x y r => nx 84 ls (.int (x >>> (y &&& 31)) :: r) h) Q := G_unf rfl rfl
theorem g48_84 : G d 48 84 ls st h Q ↔ GN d 48 84 ls h (nx 85 ls (.int (nI 1) :: st) h) Q := G_unf rfl rfl
theorem g48_85 : G d 48 85 ls st h Q ↔ GN d 48 85 ls h (pII st fun x y r => nx 86 ls (.int (x &&& y) :: r) h) Q := G_unf rfl rfl
theorem g48_86 : G d 48 86 ls st h Q ↔ GN d 48 86 ls h (nx 87 ls (.int (nI 1) :: st) h) Q := G_unf rfl rfl
theorem g48_87 : G d 48 87 ls st h Q ↔ GN d 48 87 ls h (pII st fun x y r => br (¬ x = y) (nx 147 ls r h) (nx 90 ls r h)) Q := G_unf rfl rfl
theorem g48_90 : G d 48 90 ls st h Q ↔ GN d 48 90 ls h (ldR ls 1 fun a => nx 91 ls (.ref a :: st) h) Q := G_unf rfl rfl
theorem g48_91 : G d 48 91 ls st h Q ↔ GN d 48 91 ls h (ldR ls 2 fun a => nx 92 ls (.ref a :: st) h) Q := G_unf rfl rfl
theorem g48_92 : G d 48 92 ls st h Q ↔ GN d 48 92 ls h (ldI ls 3 fun x => nx 93 ls (.int x :: st) h) Q := G_unf rfl rfl
theorem g48_93 : G d 48 93 ls st h Q ↔ GN d 48 93 ls h (ldI ls 8 fun x => nx 95 ls (.int x :: st) h) Q := G_unf rfl rfl
theorem g48_95 : G d 48 95 ls st h Q ↔ GN d 48 95 ls h (nx 97 ls (.int (nI 7) :: st) h) Q := G_unf rfl rfl
theorem g48_97 : G d 48 97 ls st h Q ↔ GN d 48 97 ls h (pA 4 st fun as r => pR r fun a r => ck (r.length ≤ 4 ∧ arr h a 1) (cll 20 (.ref a :: as) r)) Q := G_unf rfl rfl
theorem g48_100 : G d 48 100 ls st h Q ↔ GN d 48 100 ls h (pI st fun x r => ck (9 < ls.length) (nx 102 (st1 ls 9 (.int x)) r h)) Q := G_unf rfl rfl
theorem g48_102 : G d 48 102 ls st h Q ↔ GN d 48 102 ls h (ldR ls 1 fun a => nx 103 ls (.ref a :: st) h) Q := G_unf rfl rfl
theorem g48_103 : G d 48 103 ls st h Q ↔ GN d 48 103 ls h (pR st fun a r => ck (arr h a 1) (nx 106 ls (rv (hR h a 0) :: r) h)) Q := G_unf rfl rfl
theorem g48_106 : G d 48 106 ls st h Q ↔ GN d 48 106 ls h (pR st fun a r => ck (arr h a 0) (nx 109 ls (rv (hR h a 2) :: r) h)) Q := G_unf rfl rfl
theorem g48_109 : G d 48 109 ls st h Q ↔ GN d 48 109 ls h (ldI ls 8 fun x => nx 111 ls (.int x :: st) h) Q := G_unf rfl rfl
theorem g48_111 : G d 48 111 ls st h Q ↔ GN d 48 111 ls h (pRI st fun a i r => br (a = 1000003) (ck (inb i (hS h).1) (nx 112 ls (.int ((hS h).2 i.toNatClampNeg) :: r) h)) (ck (arr h a 10 ∧ inb i (hLn h a)) (nx 112 ls (.int (hI h a i.toNatClampNeg) :: r) h))) Q := G_unf rfl rfl
theorem g48_112 : G d 48 112 ls st h Q ↔ GN d 48 112 ls h (ldI ls 9 fun x => nx 114 ls (.int x :: st) h) Q := G_unf rfl rfl
theorem g48_114 : G d 48 114 ls st h Q ↔ GN d 48 114 ls h (pII st fun x y r => nx 115 ls (.int (x - y) :: r) h) Q := G_unf rfl rfl
theorem g48_115 : G d 48 115 ls st h Q ↔ GN d 48 115 ls h (pI st fun x r => ck (10 < ls.length) (nx 117 (st1 ls 10 (.int x)) r h)) Q := G_unf rfl rfl
theorem g48_117 : G d 48 117 ls st h Q ↔ GN d 48 117 ls h (ldI ls 9 fun x => nx 119 ls (.int x :: st) h) Q := G_unf rfl rfl
theorem g48_119 : G d 48 119 ls st h Q ↔ GN d 48 119 ls h (ldR ls 2 fun a => nx 120 ls (.ref a :: st) h) Q := G_unf rfl rfl
theorem g48_120 : G d 48 120 ls st h Q ↔ GN d 48 120 ls h (pR st fun a r => ck (arr h a 6) (nx 123 ls (rv (hR h a 2) :: r) h)) Q := G_unf rfl rfl
theorem g48_123 : G d 48 123 ls st h Q ↔ GN d 48 123 ls h (ldI ls 3 fun x => nx 124 ls (.int x :: st) h) Q := G_unf rfl rfl
theorem g48_124 : G d 48 124 ls st h Q ↔ GN d 48 124 ls h (pRI st fun a i r => br (a = 1000003) (ck (inb i (hS h).1) (nx 125 ls (.int ((hS h).2 i.toNatClampNeg) :: r) h)) (ck (arr h a 10 ∧ inb i (hLn h a)) (nx 125 ls (.int (hI h a i.toNatClampNeg) :: r) h))) Q := G_unf rfl rfl
theorem g48_125 : G d 48 125 ls st h Q ↔ GN d 48 125 ls h (pII st fun x y r => br (y < x) (nx 147 ls r h) (nx 128 ls r h)) Q := G_unf rfl rfl
theorem g48_128 : G d 48 128 ls st h Q ↔ GN d 48 128 ls h (ldI ls 10 fun x => nx 130 ls (.int x :: st) h) Q := G_unf rfl rfl
theorem g48_130 : G d 48 130 ls st h Q ↔ GN d 48 130 ls h (ldI ls 7 fun x => nx 132 ls (.int x :: st) h) Q := G_unf rfl rfl
theorem g48_132 : G d 48 132 ls st h Q ↔ GN d 48 132 ls h (pII st fun x y r => br (x ≤ y) (nx 147 ls r h) (nx 135 ls r h)) Q := G_unf rfl rfl
theorem g48_135 : G d 48 135 ls st h Q ↔ GN d 48 135 ls h (ldI ls 8 fun x => nx 137 ls (.int x :: st) h) Q := G_unf rfl rfl
theorem g48_137 : G d 48 137 ls st h Q ↔ GN d 48 137 ls h (pI st fun x r => ck (5 < ls.length) (nx 139 (st1 ls 5 (.int x)) r h)) Q := G_unf rfl rfl
theorem g48_139 : G d 48 139 ls st h Q ↔ GN d 48 139 ls h (ldI ls 9 fun x => nx 141 ls (.int x :: st) h) Q := G_unf rfl rfl
theorem g48_141 : G d 48 141 ls st h Q ↔ GN d 48 141 ls h (pI st fun x r => ck (6 < ls.length) (nx 143 (st1 ls 6 (.int x)) r h)) Q := G_unf rfl rfl
theorem g48_143 : G d 48 143 ls st h Q ↔ GN d 48 143 ls h (ldI ls 10 fun x => nx 145 ls (.int x :: st) h) Q := G_unf rfl rfl
theorem g48_145 : G d 48 145 ls st h Q ↔ GN d 48 145 ls h (pI st fun x r => ck (7 < ls.length) (nx 147 (st1 ls 7 (.int x)) r h)) Q := G_unf rfl rfl
theorem g48_147 : G d 48 147 ls st h Q ↔ GN d 48 147 ls h (ldI ls 8 fun x => nx 150 (st1 ls 8 (.int (x + (nI 1)))) st h) Q := G_unf rfl rfl
theorem g48_150 : G d 48 150 ls st h Q ↔ GN d 48 150 ls h (nx 67 ls st h) Q := G_unf rfl rfl
theorem g48_153 : G d 48 153 ls st h Q ↔ GN d 48 153 ls h (ldI ls 5 fun x => nx 155 ls (.int x :: st) h) Q := G_unf rfl rfl
theorem g48_155 : G d 48 155 ls st h Q ↔ GN d 48 155 ls h (nx 156 ls (.int (-1) :: st) h) Q := G_unf rfl rfl
theorem g48_156 : G d 48 156 ls st h Q ↔ GN d 48 156 ls h (pII st fun x y r => br (x = y) (nx 191 ls r h) (nx 159 ls r h)) Q := G_unf rfl rfl
theorem g48_159 : G d 48 159 ls st h Q ↔ GN d 48 159 ls h (ldR ls 2 fun a => nx 160 ls (.ref a :: st) h) Q := G_unf rfl rfl
theorem g48_160 : G d 48 160 ls st h Q ↔ GN d 48 160 ls h (ldI ls 3 fun x => nx 161 ls (.int x :: st) h) Q := G_unf rfl rfl
theorem g48_161 : G d 48 161 ls st h Q ↔ GN d 48 161 ls h (ldI ls 5 fun x => nx 163 ls (.int x :: st) h) Q := G_unf rfl rfl
theorem g48_163 : G d 48 163 ls st h Q ↔ GN d 48 163 ls h (nx 165 ls (.int (nI 7) :: st) h) Q := G_unf rfl rfl
theorem g48_165 : G d 48 165 ls st h Q ↔ GN d 48 165 ls h (ldI ls 6 fun x => nx 167 ls (.int x :: st) h) Q := G_unf rfl rfl
theorem g48_167 : G d 48 167 ls st h Q ↔ GN d 48 167 ls h (pA 4 st fun as r => pR r fun a r => ck (r.length ≤ 4 ∧ arr h a 6) (cll 94 (.ref a :: as) r)) Q := G_unf rfl rfl
theorem g48_170 : G d 48 170 ls st h Q ↔ GN d 48 170 ls h (ldR ls 0 fun a => nx 171 ls (.ref a :: st) h) Q := G_unf rfl rfl
theorem g48_171 : G d 48 171 ls st h Q ↔ GN d 48 171 ls h (p1 st fun v r => nx 172 ls (v :: v :: r) h) Q := G_unf rfl rfl
theorem g48_172 : G d 48 172 ls st h Q ↔ GN d 48 172 ls h (pR st fun a r => ck (arr h a 4) (nx 175 ls (.int (hI h a 6) :: r) h)) Q := G_unf rfl rfl
theorem g48_175 : G d 48 175 ls st h Q ↔ GN d 48 175 ls h (nx 176 ls (.int (nI 1) :: st) h) Q := G_unf rfl rfl
theorem g48_176 : G d 48 176 ls st h Q ↔ GN d 48 176 ls h (pII st fun x y r => nx 177 ls (.int (x + y) :: r) h) Q := G_unf rfl rfl
theorem g48_177 : G d 48 177 ls st h Q ↔ GN d 48 177 ls h (pRI st fun a x r => ck (arr h a 4) (nx 180 ls r (sI h a 6 x))) Q := G_unf rfl rfl
theorem g48_180 : G d 48 180 ls st h Q ↔ GN d 48 180 ls h (ldR ls 0 fun a => nx 181 ls (.ref a :: st) h) Q := G_unf rfl rfl
theorem g48_181 : G d 48 181 ls st h Q ↔ GN d 48 181 ls h (p1 st fun v r => nx 182 ls (v :: v :: r) h) Q := G_unf rfl rfl
theorem g48_182 : G d 48 182 ls st h Q ↔ GN d 48 182 ls h (pR st fun a r => ck (arr h a 4) (nx 185 ls (.int (hI h a 7) :: r) h)) Q := G_unf rfl rfl
theorem g48_185 : G d 48 185 ls st h Q ↔ GN d 48 185 ls h (ldI ls 6 fun x => nx 187 ls (.int x :: st) h) Q := G_unf rfl rfl
theorem g48_187 : G d 48 187 ls st h Q ↔ GN d 48 187 ls h (pII st fun x y r => nx 188 ls (.int (x + y) :: r) h) Q := G_unf rfl rfl
theorem g48_188 : G d 48 188 ls st h Q ↔ GN d 48 188 ls h (pRI st fun a x r => ck (arr h a 4) (nx 191 ls r (sI h a 7 x))) Q := G_unf rfl rfl
theorem g48_191 : G d 48 191 ls st h Q ↔ GN d 48 191 ls h (pE st (rtn none)) Q := G_unf rfl rfl
theorem g49_0 : G d 49 0 ls st h Q ↔ GN d 49 0 ls h (ldR ls 0 fun a => nx 1 ls (.ref a :: st) h) Q := G_unf rfl rfl
theorem g49_1 : G d 49 1 ls st h Q ↔ GN d 49 1 ls h (pR st fun _ r => ck (r.length ≤ 4) (nx 4 ls r h)) Q := G_unf rfl rfl
theorem g49_4 : G d 49 4 ls st h Q ↔ GN d 49 4 ls h (ldR ls 0 fun a => nx 5 ls (.ref a :: st) h) Q := G_unf rfl rfl
theorem g49_5 : G d 49 5 ls st h Q ↔ GN d 49 5 ls h (nx 6 ls (.int (-1) :: st) h) Q := G_unf rfl rfl
theorem g49_6 : G d 49 6 ls st h Q ↔ GN d 49 6 ls h (pRI st fun a x r => ck (arr h a 5) (nx 9 ls r (sI h a 1 x))) Q := G_unf rfl rfl
theorem g49_9 : G d 49 9 ls st h Q ↔ GN d 49 9 ls h (ldR ls 0 fun a => nx 10 ls (.ref a :: st) h) Q := G_unf rfl rfl
theorem g49_10 : G d 49 10 ls st h Q ↔ GN d 49 10 ls h (nx 13 ls (.int (nI 1600) :: st) h) Q := G_unf rfl rfl
theorem g49_13 : G d 49 13 ls st h Q ↔ GN d 49 13 ls h (pI st fun z r => ck (0 ≤ z.toInt ∧ z.toInt ≤ 1000000 ∧ lay (hN h) = 10) (nx 15 ls (.ref (hN h) :: r) (alc h z.toNatClampNeg z.toNatClampNeg))) Q := G_unf rfl rfl
theorem g49_15 : G d 49 15 ls st h Q ↔ GN d 49 15 ls h (pRR st fun a x r => ck (arr h a 5) (nx 18 ls r (sR h a 13 (some x)))) Q := G_unf rfl rfl
theorem g49_18 : G d 49 18 ls st h Q ↔ GN d 49 18 ls h (ldR ls 0 fun a => nx 19 ls (.ref a :: st) h) Q := G_unf rfl rfl
theorem g49_19 : G d 49 19 ls st h Q ↔ GN d 49 19 ls h (nx 21 ls (.int (nI 26) :: st) h) Q := G_unf rfl rfl
theorem g49_21 : G d 49 21 ls st h Q ↔ GN d 49 21 ls h (pI st fun z r => ck (0 ≤ z.toInt ∧ z.toInt ≤ 1000000 ∧ lay (hN h) = 13) (nx 23 ls (.ref (hN h) :: r) (alc h z.toNatClampNeg z.toNatClampNeg))) Q := G_unf rfl rfl
theorem g49_23 : G d 49 23 ls st h Q ↔ GN d 49 23 ls h (pRR st fun a x r => ck (arr h a 5) (nx 26 ls r (sR h a 15 (some x)))) Q := G_unf rfl rfl
theorem g49_26 : G d 49 26 ls st h Q ↔ GN d 49 26 ls h (nx 27 ls (.int (nI 0) :: st) h) Q := G_unf rfl rfl
theorem g49_27 : G d 49 27 ls st h Q ↔ GN d 49 27 ls h (pI st fun x r => ck (1 < ls.length) (nx 28 (st1 ls 1 (.int x)) r h)) Q := G_unf rfl rfl
theorem g49_28 : G d 49 28 ls st h Q ↔ GN d 49 28 ls h (ldI ls 1 fun x => nx 29 ls (.int x :: st) h) Q := G_unf rfl rfl
theorem g49_29 : G d 49 29 ls st h Q ↔ GN d 49 29 ls h (nx 31 ls (.int (nI 26) :: st) h) Q := G_unf rfl rfl
theorem g49_31 : G d 49 31 ls st h Q ↔ GN d 49 31 ls h (pII st fun x y r => br (y ≤ x) (nx 92 ls r h) (nx 34 ls r h)) Q := G_unf rfl rfl
theorem g49_34 : G d 49 34 ls st h Q ↔ GN d 49 34 ls h (nx 35 ls (.int (nI 0) :: st) h) Q := G_unf rfl rfl
theorem g49_35 : G d 49 35 ls st h Q ↔ GN d 49 35 ls h (pI st fun x r => ck (2 < ls.length) (nx 36 (st1 ls 2 (.int x)) r h)) Q := G_unf rfl rfl
theorem g49_36 : G d 49 36 ls st h Q ↔ GN d 49 36 ls h (ldI ls 2 fun x => nx 37 ls (.int x :: st) h) Q := G_unf rfl rfl
theorem g49_37 : G d 49 37 ls st h Q ↔ GN d 49 37 ls h (nx 39 ls (.int (nI 8) :: st) h) Q := G_unf rfl rfl
theorem g49_39 : G d 49 39 ls st h Q ↔ GN d 49 39 ls h (pII st fun x y r => br (y ≤ x) (nx 86 ls r h) (nx 42 ls r h)) Q := G_unf rfl rfl
theorem g49_42 : G d 49 42 ls st h Q ↔ GN d 49 42 ls h (nx 44 ls (.ref 1000001 :: st) h) Q := G_unf rfl rfl
theorem g49_44 : G d 49 44 ls st h Q ↔ GN d 49 44 ls h (ldI ls 1 fun x => nx 45 ls (.int x :: st) h) Q := G_unf rfl rfl
theorem g49_45 : G d 49 45 ls st h Q ↔ GN d 49 45 ls h (nx 47 ls (.int (nI 8) :: st) h) Q := G_unf rfl rfl
theorem g49_47 : G d 49 47 ls st h Q ↔ GN d 49 47 ls h (pII st fun x y r => nx 48 ls (.int (x * y) :: r) h) Q := G_unf rfl rfl
theorem g49_48 : G d 49 48 ls st h Q ↔ GN d 49 48 ls h (ldI ls 2 fun x => nx 49 ls (.int x :: st) h) Q := G_unf rfl rfl
theorem g49_49 : G d 49 49 ls st h Q ↔ GN d 49 49 ls h (pII st fun x y r => nx 50 ls (.int (x + y) :: r) h) Q := G_unf rfl rfl
theorem g49_50 : G d 49 50 ls st h Q ↔ GN d 49 50 ls h (pA 1 st fun as r => pR r fun a r => ck (r.length ≤ 4 ∧ a = 1000001 ∧ oiOf 280 = 13) (cll 280 (.ref a :: as) r)) Q := G_unf rfl rfl
theorem g49_53 : G d 49 53 ls st h Q ↔ GN d 49 53 ls h (pI st fun x r => ck (3 < ls.length) (nx 54 (st1 ls 3 (.int x)) r h)) Q := G_unf rfl rfl
theorem g49_54 : G d 49 54 ls st h Q ↔ GN d 49 54 ls h (ldI ls 3 fun x => nx 55 ls (.int x :: st) h) Q := G_unf rfl rfl
theorem g49_55 : G d 49 55 ls st h Q ↔ GN d 49 55 ls h (nx 57 ls (.int (nI 32) :: st) h) Q := G_unf rfl rfl
theorem g49_57 : G d 49 57 ls st h Q ↔ GN d 49 57 ls h (pII st fun x y r => br (x = y) (nx 80 ls r h) (nx 60 ls r h)) Q := G_unf rfl rfl
theorem g49_60 : G d 49 60 ls st h Q ↔ GN d 49 60 ls h (ldR ls 0 fun a => nx 61 ls (.ref a :: st) h) Q := G_unf rfl rfl
theorem g49_61 : G d 49 61 ls st h Q ↔ GN d 49 61 ls h (pR st fun a r => ck (arr h a 5) (nx 64 ls (rv (hR h a 15) :: r) h)) Q := G_unf rfl rfl
theorem g49_64 : G d 49 64 ls st h Q ↔ GN d 49 64 ls h (ldI ls 1 fun x => nx 65 ls (.int x :: st) h) Q := G_unf rfl rfl
theorem g49_65 : G d 49 65 ls st h Q ↔ GN d 49 65 ls h (p11 st fun v w r => nx 66 ls (v :: w :: v :: w :: r) h) Q := G_unf rfl rfl
theorem g49_66 : G d 49 66 ls st h Q ↔ GN d 49 66 ls h (pRI st fun a i r => ck (arr h a 13 ∧ inb i (hLn h a)) (nx 67 ls (.long (hL h a i.toNatClampNeg) :: r) h)) Q := G_unf rfl rfl
theorem g49_67 : G d 49 67 ls st h Q ↔ GN d 49 67 ls h (ldI ls 3 fun x => nx 68 ls (.int x :: st) h) Q := G_unf rfl rfl
theorem g49_68 : G d 49 68 ls st h Q ↔ GN d 49 68 ls h (nx 70 ls (.int (nI 97) :: st) h) Q := G_unf rfl rfl
theorem g49_70 : G d 49 70 ls st h Q ↔ GN d 49 70 ls h (pII st fun x y r => nx 71 ls (.int (x - y) :: r) h) Q := G_unf rfl rfl
theorem g49_71 : G d 49 71 ls st h Q ↔ GN d 49 71 ls h (nx 72 ls (.int (nI 1) :: st) h) Q := G_unf rfl rfl
theorem g49_72 : G d 49 72 ls st h Q ↔ GN d 49 72 ls h (pII st fun x y r => nx 73 ls (.int (x + y) :: r) h) Q := G_unf rfl rfl
theorem g49_73 : G d 49 73 ls st h Q ↔ GN d 49 73 ls h (pI st fun x r => nx 74 ls (.long x.toInt64 :: r) h) Q := G_unf rfl rfl
theorem g49_74 : G d 49 74 ls st h Q ↔ GN d 49 74 ls h (nx 75 ls (.int (nI 5) :: st) h) Q := G_unf rfl rfl
theorem g49_75 : G d 49 75 ls st h Q ↔ GN d 49 75 ls h (ldI ls 2 fun x => nx 76 ls (.int x :: st) h) Q := G_unf rfl rfl
theorem g49_76 : G d 49 76 ls st h Q ↔ GN d 49 76 ls h (pII st fun x y r => nx 77 ls (.int (x * y) :: r) h) Q := G_unf rfl rfl
theorem g49_77 : G d 49 77 ls st h Q ↔ GN d 49 77 ls h (pJI st fun x y r => nx 78 ls (.long (x <<< (y.toInt64 &&& 63)) :: r) h) Q := G_unf rfl rfl
theorem g49_78 : G d 49 78 ls st h Q ↔ GN d 49 78 ls h (pJJ st fun x y r => nx 79 ls (.long (x ||| y) :: r) h) Q := G_unf rfl rfl
theorem g49_79 : G d 49 79 ls st h Q ↔ GN d 49 79 ls h (pRIJ st fun a i x r => ck (arr h a 13 ∧ inb i (hLn h a)) (nx 80 ls r (sL h a i.toNatClampNeg x))) Q := G_unf rfl rfl
theorem g49_80 : G d 49 80 ls st h Q ↔ GN d 49 80 ls h (ldI ls 2 fun x => nx 83 (st1 ls 2 (.int (x + (nI 1)))) st h) Q := G_unf rfl rfl
theorem g49_83 : G d 49 83 ls st h Q ↔ GN d 49 83 ls h (nx 36 ls st h) Q := G_unf rfl rfl
theorem g49_86 : G d 49 86 ls st h Q ↔ GN d 49 86 ls h (ldI ls 1 fun x => nx 89 (st1 ls 1 (.int (x + (nI 1)))) st h) Q := G_unf rfl rfl
theorem g49_89 : G d 49 89 ls st h Q ↔ GN d 49 89 ls h (nx 28 ls st h) Q := G_unf rfl rfl
theorem g49_92 : G d 49 92 ls st h Q ↔ GN d 49 92 ls h (pE st (rtn none)) Q := G_unf rfl rfl
theorem g50_0 : G d 50 0 ls st h Q ↔ GN d 50 0 ls h (ldR ls 0 fun a => nx 1 ls (.ref a :: st) h) Q := G_unf rfl rfl
theorem g50_1 : G d 50 1 ls st h Q ↔ GN d 50 1 ls h (ldR ls 1 fun a => nx 2 ls (.ref a :: st) h) Q := G_unf rfl rfl
theorem g50_2 : G d 50 2 ls st h Q ↔ GN d 50 2 ls h (pRR st fun a x r => ck (arr h a 5) (nx 5 ls r (sR h a 2 (some x)))) Q := G_unf rfl rfl
theorem g50_5 : G d 50 5 ls st h Q ↔ GN d 50 5 ls h (ldR ls 0 fun a => nx 6 ls (.ref a :: st) h) Q := G_unf rfl rfl
theorem g50_6 : G d 50 6 ls st h Q ↔ GN d 50 6 ls h (ldI ls 2 fun x => nx 7 ls (.int x :: st) h) Q := G_unf rfl rfl
theorem g50_7 : G d 50 7 ls st h Q ↔ GN d 50 7 ls h (ldR ls 1 fun a => nx 8 ls (.ref a :: st) h) Q := G_unf rfl rfl
theorem g50_8 : G d 50 8 ls st h Q ↔ GN d 50 8 ls h (pR st fun a r => br (a = 1000000) (nx 9 ls (.int (nI 0) :: r) h) (br (a = 1000002) (nx 9 ls (.int (nI 208) :: r) h) (br (a = 1000003) (nx 9 ls (.int (nI (hS h).1) :: r) h) (ck (a < hN h ∧ 10 ≤ lay a) (nx 9 ls (.int (nI (hLn h a)) :: r) h))))) Q := G_unf rfl rfl
theorem g50_9 : G d 50 9 ls st h Q ↔ GN d 50 9 ls h (pA 2 st fun as r => ck (r.length ≤ 4) (cll 278 as r)) Q := G_unf rfl rfl
theorem g50_12 : G d 50 12 ls st h Q ↔ GN d 50 12 ls h (pRI st fun a x r => ck (arr h a 5) (nx 15 ls r (sI h a 3 x))) Q := G_unf rfl rfl
theorem g50_15 : G d 50 15 ls st h Q ↔ GN d 50 15 ls h (ldR ls 0 fun a => nx 16 ls (.ref a :: st) h) Q := G_unf rfl rfl
theorem g50_16 : G d 50 16 ls st h Q ↔ GN d 50 16 ls h (nx 17 ls (.int (nI 0) :: st) h) Q := G_unf rfl rfl
theorem g50_17 : G d 50 17 ls st h Q ↔ GN d 50 17 ls h (pRI st fun a x r => ck (arr h a 5) (nx 20 ls r (sI h a 4 x))) Q := G_unf rfl rfl
theorem g50_20 : G d 50 20 ls st h Q ↔ GN d 50 20 ls h (ldR ls 0 fun a => nx 21 ls (.ref a :: st) h) Q := G_unf rfl rfl
theorem g50_21 : G d 50 21 ls st h Q ↔ GN d 50 21 ls h (ldR ls 3 fun a => nx 22 ls (.ref a :: st) h) Q := G_unf rfl rfl
theorem g50_22 : G d 50 22 ls st h Q ↔ GN d 50 22 ls h (pRR st fun a x r => ck (arr h a 5) (nx 25 ls r (sR h a 5 (some x)))) Q := G_unf rfl rfl
theorem g50_25 : G d 50 25 ls st h Q ↔ GN d 50 25 ls h (ldR ls 0 fun a => nx 26 ls (.ref a :: st) h) Q := G_unf rfl rfl
theorem g50_26 : G d 50 26 ls st h Q ↔ GN d 50 26 ls h (pR st fun a r => ck (arr h a 5) (nx 29 ls (rv (hR h a 5) :: r) h)) Q := G_unf rfl rfl
theorem g50_29 : G d 50 29 ls st h Q ↔ GN d 50 29 ls h (pA 0 st fun as r => pR r fun a r => ck (r.length ≤ 4 ∧ arr h a 0) (cll 1 (.ref a :: as) r)) Q := G_unf rfl rfl
theorem g50_32 : G d 50 32 ls st h Q ↔ GN d 50 32 ls h (ldR ls 0 fun a => nx 33 ls (.ref a :: st) h) Q := G_unf rfl rfl
theorem g50_33 : G d 50 33 ls st h Q ↔ GN d 50 33 ls h (nx 34 ls (.int (nI 0) :: st) h) Q := G_unf rfl rfl
theorem g50_34 : G d 50 34 ls st h Q ↔ GN d 50 34 ls h (pRI st fun a x r => ck (arr h a 5 ∧ (x = 0 ∨ x = 1)) (nx 37 ls r (sI h a 10 x))) Q := G_unf rfl rfl
theorem g50_37 : G d 50 37 ls st h Q ↔ GN d 50 37 ls h (ldR ls 0 fun a => nx 38 ls (.ref a :: st) h) Q := G_unf rfl rfl
theorem g50_38 : G d 50 38 ls st h Q ↔ GN d 50 38 ls h (nx 39 ls (.int (nI 0) :: st) h) Q := G_unf rfl rfl
theorem g50_39 : G d 50 39 ls st h Q ↔ GN d 50 39 ls h (pRI st fun a x r => ck (arr h a 5) (nx 42 ls r (sI h a 0 x))) Q := G_unf rfl rfl
theorem g50_42 : G d 50 42 ls st h Q ↔ GN d 50 42 ls h (ldR ls 0 fun a => nx 43 ls (.ref a :: st) h) Q := G_unf rfl rfl
theorem g50_43 : G d 50 43 ls st h Q ↔ GN d 50 43 ls h (nx 44 ls (.int (-1) :: st) h) Q := G_unf rfl rfl
theorem g50_44 : G d 50 44 ls st h Q ↔ GN d 50 44 ls h (pRI st fun a x r => ck (arr h a 5) (nx 47 ls r (sI h a 1 x))) Q := G_unf rfl rfl
theorem g50_47 : G d 50 47 ls st h Q ↔ GN d 50 47 ls h (ldR ls 0 fun a => nx 48 ls (.ref a :: st) h) Q := G_unf rfl rfl
theorem g50_48 : G d 50 48 ls st h Q ↔ GN d 50 48 ls h (pA 0 st fun as r => pR r fun a r => ck (r.length ≤ 4 ∧ arr h a 5) (cll 52 (.ref a :: as) r)) Q := G_unf rfl rfl
theorem g50_51 : G d 50 51 ls st h Q ↔ GN d 50 51 ls h (nx 52 ls (.int (nI 0) :: st) h) Q := G_unf rfl rfl
theorem g50_52 : G d 50 52 ls st h Q ↔ GN d 50 52 ls h (pI st fun x r => ck (4 < ls.length) (nx 54 (st1 ls 4 (.int x)) r h)) Q := G_unf rfl rfl
theorem g50_54 : G d 50 54 ls st h Q ↔ GN d 50 54 ls h (ldR ls 0 fun a => nx 55 ls (.ref a :: st) h) Q := G_unf rfl rfl
theorem g50_55 : G d 50 55 ls st h Q ↔ GN d 50 55 ls h (pR st fun a r => ck (arr h a 5) (nx 58 ls (.int (hI h a 6) :: r) h)) Q := G_unf rfl rfl
theorem g50_58 : G d 50 58 ls st h Q ↔ GN d 50 58 ls h (nx 60 ls (.int (nI 28) :: st) h) Q := G_unf rfl rfl
theorem g50_60 : G d 50 60 ls st h Q ↔ GN d 50 60 ls h (pII st fun x y r => br (x = y) (nx 108 ls r h) (nx 63 ls r h)) Q := G_unf rfl rfl
theorem g50_63 : G d 50 63 ls st h Q ↔ GN d 50 63 ls h (ldI ls 4 fun x => nx 65 ls (.int x :: st) h) Q := G_unf rfl rfl
theorem g50_65 : G d 50 65 ls st h Q ↔ GN d 50 65 ls h (nx 67 ls (.int (nI 80) :: st) h) Q := G_unf rfl rfl
theorem g50_67 : G d 50 67 ls st h Q ↔ GN d 50 67 ls h (pII st fun x y r => br (x < y) (nx 83 ls r h) (nx 70 ls r h)) Q := G_unf rfl rfl
theorem g50_70 : G d 50 70 ls st h Q ↔ GN d 50 70 ls h (ldR ls 0 fun a => nx 71 ls (.ref a :: st) h) Q := G_unf rfl rfl
theorem g50_71 : G d 50 71 ls st h Q ↔ GN d 50 71 ls h (nx 73 ls (.int (nI 6) :: st) h) Q := G_unf rfl rfl
theorem g50_73 : G d 50 73 ls st h Q ↔ GN d 50 73 ls h (ldR ls 0 fun a => nx 74 ls (.ref a :: st) h) Q := G_unf rfl rfl
theorem g50_74 : G d 50 74 ls st h Q ↔ GN d 50 74 ls h (pR st fun a r => ck (arr h a 5) (nx 77 ls (.int (hI h a 8) :: r) h)) Q := G_unf rfl rfl
theorem g50_77 : G d 50 77 ls st h Q ↔ GN d 50 77 ls h (pA 2 st fun as r => pR r fun a r => ck (r.length ≤ 4 ∧ arr h a 5) (cll 51 (.ref a :: as) r)) Q := G_unf rfl rfl
theorem g50_80 : G d 50 80 ls st h Q ↔ GN d 50 80 ls h (p1 st fun _ r => nx 81 ls r h) Q := G_unf rfl rfl
theorem g50_81 : G d 50 81 ls st h Q ↔ GN d 50 81 ls h (nx 82 ls (.int (-1) :: st) h) Q := G_unf rfl rfl
theorem g50_82 : G d 50 82 ls st h Q ↔ GN d 50 82 ls h (pIe st fun x => rtn (some (.int x))) Q := G_unf rfl rfl
theorem g50_83 : G d 50 83 ls st h Q ↔ GN d 50 83 ls h (ldR ls 0 fun a => nx 84 ls (.ref a :: st) h) Q := G_unf rfl rfl
theorem g50_84 : G d 50 84 ls st h Q ↔ GN d 50 84 ls h (pA 0 st fun as r => pR r fun a r => ck (r.length ≤ 4 ∧ arr h a 5) (cll 60 (.ref a :: as) r)) Q := G_unf rfl rfl
theorem g50_87 : G d 50 87 ls st h Q ↔ GN d 50 87 ls h (pI st fun x r => br (x = 0) (nx 100 ls r h) (nx 90 ls r h)) Q := G_unf rfl rfl
theorem g50_90 : G d 50 90 ls st h Q ↔ GN d 50 90 ls h (ldR ls 0 fun a => nx 91 ls (.ref a :: st) h) Q := G_unf rfl rfl
theorem g50_91 : G d 50 91 ls st h Q ↔ GN d 50 91 ls h (nx 94 ls (.int (nI 159) :: st) h) Q := G_unf rfl rfl
theorem g50_94 : G d 50 94 ls st h Q ↔ GN d 50 94 ls h (pA 1 st fun as r => pR r fun a r => ck (r.length ≤ 4 ∧ arr h a 5) (cll 55 (.ref a :: as) r)) Q := G_unf rfl rfl
theorem g50_97 : G d 50 97 ls st h Q ↔ GN d 50 97 ls h (pI st fun x r => br (¬ x = 0) (nx 102 ls r h) (nx 100 ls r h)) Q := G_unf rfl rfl
theorem g50_100 : G d 50 100 ls st h Q ↔ GN d 50 100 ls h (nx 101 ls (.int (-1) :: st) h) Q := G_unf rfl rfl
theorem g50_101 : G d 50 101 ls st h Q ↔ GN d 50 101 ls h (pIe st fun x => rtn (some (.int x))) Q := G_unf rfl rfl
theorem g50_102 : G d 50 102 ls st h Q ↔ GN d 50 102 ls h (ldI ls 4 fun x => nx 105 (st1 ls 4 (.int (x + (nI 1)))) st h) Q := G_unf rfl rfl
theorem g50_105 : G d 50 105 ls st h Q ↔ GN d 50 105 ls h (nx 54 ls st h) Q := G_unf rfl rfl
theorem g50_108 : G d 50 108 ls st h Q ↔ GN d 50 108 ls h (ldI ls 4 fun x => nx 110 ls (.int x :: st) h) Q := G_unf rfl rfl
theorem g50_110 : G d 50 110 ls st h Q ↔ GN d 50 110 ls h (pIe st fun x => rtn (some (.int x))) Q := G_unf rfl rfl
theorem g51_0 : G d 51 0 ls st h Q ↔ GN d 51 0 ls h (ldR ls 0 fun a => nx 1 ls (.ref a :: st) h) Q := G_unf rfl rfl
theorem g51_1 : G d 51 1 ls st h Q ↔ GN d 51 1 ls h (ldI ls 1 fun x => nx 2 ls (.int x :: st) h) Q := G_unf rfl rfl
theorem g51_2 : G d 51 2 ls st h Q ↔ GN d 51 2 ls h (pRI st fun a x r => ck (arr h a 5) (nx 5 ls r (sI h a 0 x))) Q := G_unf rfl rfl
theorem g51_5 : G d 51 5 ls st h Q ↔ GN d 51 5 ls h (ldR ls 0 fun a => nx 6 ls (.ref a :: st) h) Q := G_unf rfl rfl
theorem g51_6 : G d 51 6 ls st h Q ↔ GN d 51 6 ls h (ldI ls 2 fun x => nx 7 ls (.int x :: st) h) Q := G_unf rfl rfl
theorem g51_7 : G d 51 7 ls st h Q ↔ GN d 51 7 ls h (pRI st fun a x r => ck (arr h a 5) (nx 10 ls r (sI h a 1 x))) Q := G_unf rfl rfl
theorem g51_10 : G d 51 10 ls st h Q ↔ GN d 51 10 ls h (nx 11 ls (.int (nI 0) :: st) h) Q := G_unf rfl rfl
theorem g51_11 : G d 51 11 ls st h Q ↔ GN d 51 11 ls h (pIe st fun x => ck (x = 0 ∨ x = 1) (rtn (some (.int x)))) Q := G_unf rfl rfl
theorem g52_0 : G d 52 0 ls st h Q ↔ GN d 52 0 ls h (ldR ls 0 fun a => nx 1 ls (.ref a :: st) h) Q := G_unf rfl rfl
theorem g52_1 : G d 52 1 ls st h Q ↔ GN d 52 1 ls h (pR st fun a r => ck (arr h a 5) (nx 4 ls (.int (hI h a 4) :: r) h)) Q := G_unf rfl rfl
theorem g52_4 : G d 52 4 ls st h Q ↔ GN d 52 4 ls h (pI st fun x r => ck (1 < ls.length) (nx 5 (st1 ls 1 (.int x)) r h)) Q := G_unf rfl rfl
theorem g52_5 : G d 52 5 ls st h Q ↔ GN d 52 5 ls h (ldR ls 0 fun a => nx 6 ls (.ref a :: st) h) Q := G_unf rfl rfl
theorem g52_6 : G d 52 6 ls st h Q ↔ GN d 52 6 ls h (pR st fun a r => ck (arr h a 5) (nx 9 ls (.int (hI h a 4) :: r) h)) Q := G_unf rfl rfl
theorem g52_9 : G d 52 9 ls st h Q ↔ GN d 52 9 ls h (ldR ls 0 fun a => nx 10 ls (.ref a :: st) h) Q := G_unf rfl rfl
theorem g52_10 : G d 52 10 ls st h Q ↔ GN d 52 10 ls h (pR st fun a r => ck (arr h a 5) (nx 13 ls (.int (hI h a 3) :: r) h)) Q := G_unf rfl rfl
theorem g52_13 : G d 52 13 ls st h Q ↔ GN d 52 13 ls h (pII st fun x y r => br (y ≤ x) (nx 57 ls r h) (nx 16 ls r h)) Q := G_unf rfl rfl
theorem g52_16 : G d 52 16 ls st h Q ↔ GN d 52 16 ls h (ldR ls 0 fun a => nx 17 ls (.ref a :: st) h) Q := G_unf rfl rfl
theorem g52_17 : G d 52 17 ls st h Q ↔ GN d 52 17 ls h (pR st fun a r => ck (arr h a 5) (nx 20 ls (rv (hR h a 2) :: r) h)) Q := G_unf rfl rfl
theorem g52_20 : G d 52 20 ls st h Q ↔ GN d 52 20 ls h (ldR ls 0 fun a => nx 21 ls (.ref a :: st) h) Q := G_unf rfl rfl
theorem g52_21 : G d 52 21 ls st h Q ↔ GN d 52 21 ls h (pR st fun a r => ck (arr h a 5) (nx 24 ls (.int (hI h a 4) :: r) h)) Q := G_unf rfl rfl
theorem g52_24 : G d 52 24 ls st h Q ↔ GN d 52 24 ls h (pRI st fun a i r => br (a = 1000002) (ck (inb i 208) (nx 25 ls (.int (ownB i.toNatClampNeg) :: r) h)) (ck ((arr h a 11 ∨ arr h a 12) ∧ inb i (hLn h a)) (nx 25 ls (.int (hI h a i.toNatClampNeg) :: r) h))) Q := G_unf rfl rfl
theorem g52_25 : G d 52 25 ls st h Q ↔ GN d 52 25 ls h (nx 27 ls (.int (nI 10) :: st) h) Q := G_unf rfl rfl
theorem g52_27 : G d 52 27 ls st h Q ↔ GN d 52 27 ls h (pII st fun x y r => br (x = y) (nx 44 ls r h) (nx 30 ls r h)) Q := G_unf rfl rfl
theorem g52_30 : G d 52 30 ls st h Q ↔ GN d 52 30 ls h (ldR ls 0 fun a => nx 31 ls (.ref a :: st) h) Q := G_unf rfl rfl
theorem g52_31 : G d 52 31 ls st h Q ↔ GN d 52 31 ls h (pR st fun a r => ck (arr h a 5) (nx 34 ls (rv (hR h a 2) :: r) h)) Q := G_unf rfl rfl
theorem g52_34 : G d 52 34 ls st h Q ↔ GN d 52 34 ls h (ldR ls 0 fun a => nx 35 ls (.ref a :: st) h) Q := G_unf rfl rfl
theorem g52_35 : G d 52 35 ls st h Q ↔ GN d 52 35 ls h (pR st fun a r => ck (arr h a 5) (nx 38 ls (.int (hI h a 4) :: r) h)) Q := G_unf rfl rfl
theorem g52_38 : G d 52 38 ls st h Q ↔ GN d 52 38 ls h (pRI st fun a i r => br (a = 1000002) (ck (inb i 208) (nx 39 ls (.int (ownB i.toNatClampNeg) :: r) h)) (ck ((arr h a 11 ∨ arr h a 12) ∧ inb i (hLn h a)) (nx 39 ls (.int (hI h a i.toNatClampNeg) :: r) h))) Q := G_unf rfl rfl
theorem g52_39 : G d 52 39 ls st h Q ↔ GN d 52 39 ls h (nx 41 ls (.int (nI 32) :: st) h) Q := G_unf rfl rfl
theorem g52_41 : G d 52 41 ls st h Q ↔ GN d 52 41 ls h (pII st fun x y r => br (¬ x = y) (nx 57 ls r h) (nx 44 ls r h)) Q := G_unf rfl rfl
theorem g52_44 : G d 52 44 ls st h Q ↔ GN d 52 44 ls h (ldR ls 0 fun a => nx 45 ls (.ref a :: st) h) Q := G_unf rfl rfl
theorem g52_45 : G d 52 45 ls st h Q ↔ GN d 52 45 ls h (p1 st fun v r => nx 46 ls (v :: v :: r) h) Q := G_unf rfl rfl
theorem g52_46 : G d 52 46 ls st h Q ↔ GN d 52 46 ls h (pR st fun a r => ck (arr h a 5) (nx 49 ls (.int (hI h a 4) :: r) h)) Q := G_unf rfl rfl
theorem g52_49 : G d 52 49 ls st h Q ↔ GN d 52 49 ls h (nx 50 ls (.int (nI 1) :: st) h) Q := G_unf rfl rfl
theorem g52_50 : G d 52 50 ls st h Q ↔ GN d 52 50 ls h (pII st fun x y r => nx 51 ls (.int (x + y) :: r) h) Q := G_unf rfl rfl
theorem g52_51 : G d 52 51 ls st h Q ↔ GN d 52 51 ls h (pRI st fun a x r => ck (arr h a 5) (nx 54 ls r (sI h a 4 x))) Q := G_unf rfl rfl
theorem g52_54 : G d 52 54 ls st h Q ↔ GN d 52 54 ls h (nx 5 ls st h) Q := G_unf rfl rfl
theorem g52_57 : G d 52 57 ls st h Q ↔ GN d 52 57 ls h (ldR ls 0 fun a => nx 58 ls (.ref a :: st) h) Q := G_unf rfl rfl
theorem g52_58 : G d 52 58 ls st h Q ↔ GN d 52 58 ls h (ldR ls 0 fun a => nx 59 ls (.ref a :: st) h) Q := G_unf rfl rfl
theorem g52_59 : G d 52 59 ls st h Q ↔ GN d 52 59 ls h (pR st fun a r => ck (arr h a 5) (nx 62 ls (.int (hI h a 4) :: r) h)) Q := G_unf rfl rfl
theorem g52_62 : G d 52 62 ls st h Q ↔ GN d 52 62 ls h (pRI st fun a x r => ck (arr h a 5) (nx 65 ls r (sI h a 8 x))) Q := G_unf rfl rfl
theorem g52_65 : G d 52 65 ls st h Q ↔ GN d 52 65 ls h (ldR ls 0 fun a => nx 66 ls (.ref a :: st) h) Q := G_unf rfl rfl
theorem g52_66 : G d 52 66 ls st h Q ↔ GN d 52 66 ls h (ldR ls 0 fun a => nx 67 ls (.ref a :: st) h) Q := G_unf rfl rfl
theorem g52_67 : G d 52 67 ls st h Q ↔ GN d 52 67 ls h (pR st fun a r => ck (arr h a 5) (nx 70 ls (.int (hI h a 4) :: r) h)) Q := G_unf rfl rfl
theorem g52_70 : G d 52 70 ls st h Q ↔ GN d 52 70 ls h (pRI st fun a x r => ck (arr h a 5) (nx 73 ls r (sI h a 9 x))) Q := G_unf rfl rfl
theorem g52_73 : G d 52 73 ls st h Q ↔ GN d 52 73 ls h (ldR ls 0 fun a => nx 74 ls (.ref a :: st) h) Q := G_unf rfl rfl
theorem g52_74 : G d 52 74 ls st h Q ↔ GN d 52 74 ls h (pR st fun a r => ck (arr h a 5) (nx 77 ls (.int (hI h a 4) :: r) h)) Q := G_unf rfl rfl
theorem g52_77 : G d 52 77 ls st h Q ↔ GN d 52 77 ls h (ldR ls 0 fun a => nx 78 ls (.ref a :: st) h) Q := G_unf rfl rfl
theorem g52_78 : G d 52 78 ls st h Q ↔ GN d 52 78 ls h (pR st fun a r => ck (arr h a 5) (nx 81 ls (.int (hI h a 3) :: r) h)) Q := G_unf rfl rfl
theorem g52_81 : G d 52 81 ls st h Q ↔ GN d 52 81 ls h (pII st fun x y r => br (x < y) (nx 91 ls r h) (nx 84 ls r h)) Q := G_unf rfl rfl
theorem g52_84 : G d 52 84 ls st h Q ↔ GN d 52 84 ls h (ldR ls 0 fun a => nx 85 ls (.ref a :: st) h) Q := G_unf rfl rfl
theorem g52_85 : G d 52 85 ls st h Q ↔ GN d 52 85 ls h (nx 87 ls (.int (nI 28) :: st) h) Q := G_unf rfl rfl
theorem g52_87 : G d 52 87 ls st h Q ↔ GN d 52 87 ls h (pRI st fun a x r => ck (arr h a 5) (nx 90 ls r (sI h a 6 x))) Q := G_unf rfl rfl
theorem g52_90 : G d 52 90 ls st h Q ↔ GN d 52 90 ls h (pE st (rtn none)) Q := G_unf rfl rfl
theorem g52_91 : G d 52 91 ls st h Q ↔ GN d 52 91 ls h (ldR ls 0 fun a => nx 92 ls (.ref a :: st) h) Q := G_unf rfl rfl
theorem g52_92 : G d 52 92 ls st h Q ↔ GN d 52 92 ls h (pR st fun a r => ck (arr h a 5) (nx 95 ls (.int (hI h a 10) :: r) h)) Q := G_unf rfl rfl
theorem g52_95 : G d 52 95 ls st h Q ↔ GN d 52 95 ls h (pI st fun x r => br (x = 0) (nx 110 ls r h) (nx 98 ls r h)) Q := G_unf rfl rfl
theorem g52_98 : G d 52 98 ls st h Q ↔ GN d 52 98 ls h (ldR ls 0 fun a => nx 99 ls (.ref a :: st) h) Q := G_unf rfl rfl
theorem g52_99 : G d 52 99 ls st h Q ↔ GN d 52 99 ls h (pR st fun a r => ck (arr h a 5) (nx 102 ls (.int (hI h a 8) :: r) h)) Q := G_unf rfl rfl
theorem g52_102 : G d 52 102 ls st h Q ↔ GN d 52 102 ls h (ldI ls 1 fun x => nx 103 ls (.int x :: st) h) Q := G_unf rfl rfl
theorem g52_103 : G d 52 103 ls st h Q ↔ GN d 52 103 ls h (pII st fun x y r => br (¬ x = y) (nx 110 ls r h) (nx 106 ls r h)) Q := G_unf rfl rfl
theorem g52_106 : G d 52 106 ls st h Q ↔ GN d 52 106 ls h (nx 107 ls (.int (nI 1) :: st) h) Q := G_unf rfl rfl
theorem g52_107 : G d 52 107 ls st h Q ↔ GN d 52 107 ls h (nx 111 ls st h) Q := G_unf rfl rfl
theorem g52_110 : G d 52 110 ls st h Q ↔ GN d 52 110 ls h (nx 111 ls (.int (nI 0) :: st) h) Q := G_unf rfl rfl
theorem g52_111 : G d 52 111 ls st h Q ↔ GN d 52 111 ls h (pI st fun x r => ck (2 < ls.length) (nx 112 (st1 ls 2 (.int x)) r h)) Q := G_unf rfl rfl
theorem g52_112 : G d 52 112 ls st h Q ↔ GN d 52 112 ls h (ldR ls 0 fun a => nx 113 ls (.ref a :: st) h) Q := G_unf rfl rfl
theorem g52_113 : G d 52 113 ls st h Q ↔ GN d 52 113 ls h (nx 114 ls (.int (nI 1) :: st) h) Q := G_unf rfl rfl
theorem g52_114 : G d 52 114 ls st h Q ↔ GN d 52 114 ls h (pRI st fun a x r => ck (arr h a 5 ∧ (x = 0 ∨ x = 1)) (nx 117 ls r (sI h a 10 x))) Q := G_unf rfl rfl
theorem g52_117 : G d 52 117 ls st h Q ↔ GN d 52 117 ls h (ldR ls 0 fun a => nx 118 ls (.ref a :: st) h) Q := G_unf rfl rfl
theorem g52_118 : G d 52 118 ls st h Q ↔ GN d 52 118 ls h (pR st fun a r => ck (arr h a 5) (nx 121 ls (rv (hR h a 2) :: r) h)) Q := G_unf rfl rfl
theorem g52_121 : G d 52 121 ls st h Q ↔ GN d 52 121 ls h (ldR ls 0 fun a => nx 122 ls (.ref a :: st) h) Q := G_unf rfl rfl
theorem g52_122 : G d 52 122 ls st h Q ↔ GN d 52 122 ls h (pR st fun a r => ck (arr h a 5) (nx 125 ls (.int (hI h a 4) :: r) h)) Q := G_unf rfl rfl
theorem g52_125 : G d 52 125 ls st h Q ↔ GN d 52 125 ls h (pRI st fun a i r => br (a = 1000002) (ck (inb i 208) (nx 126 ls (.int (ownB i.toNatClampNeg) :: r) h)) (ck ((arr h a 11 ∨ arr h a 12) ∧ inb i (hLn h a)) (nx 126 ls (.int (hI h a i.toNatClampNeg) :: r) h))) Q := G_unf rfl rfl
theorem g52_126 : G d 52 126 ls st h Q ↔ GN d 52 126 ls h (nx 128 ls (.int (nI 97) :: st) h) Q := G_unf rfl rfl
theorem g52_128 : G d 52 128 ls st h Q ↔ GN d 52 128 ls h (pII st fun x y r => br (x < y) (nx 152 ls r h) (nx 131 ls r h)) Q := G_unf rfl rfl
theorem g52_131 : G d 52 131 ls st h Q ↔ GN d 52 131 ls h (ldR ls 0 fun a => nx 132 ls (.ref a :: st) h) Q := G_unf rfl rfl
theorem g52_132 : G d 52 132 ls st h Q ↔ GN d 52 132 ls h (pR st fun a r => ck (arr h a 5) (nx 135 ls (rv (hR h a 2) :: r) h)) Q := G_unf rfl rfl
theorem g52_135 : G d 52 135 ls st h Q ↔ GN d 52 135 ls h (ldR ls 0 fun a => nx 136 ls (.ref a :: st) h) Q := G_unf rfl rfl
theorem g52_136 : G d 52 136 ls st h Q ↔ GN d 52 136 ls h (pR st fun a r => ck (arr h a 5) (nx 139 ls (.int (hI h a 4) :: r) h)) Q := G_unf rfl rfl
theorem g52_139 : G d 52 139 ls st h Q ↔ GN d 52 139 ls h (pRI st fun a i r => br (a = 1000002) (ck (inb i 208) (nx 140 ls (.int (ownB i.toNatClampNeg) :: r) h)) (ck ((arr h a 11 ∨ arr h a 12) ∧ inb i (hLn h a)) (nx 140 ls (.int (hI h a i.toNatClampNeg) :: r) h))) Q := G_unf rfl rfl
theorem g52_140 : G d 52 140 ls st h Q ↔ GN d 52 140 ls h (nx 142 ls (.int (nI 122) :: st) h) Q := G_unf rfl rfl
theorem g52_142 : G d 52 142 ls st h Q ↔ GN d 52 142 ls h (pII st fun x y r => br (y < x) (nx 152 ls r h) (nx 145 ls r h)) Q := G_unf rfl rfl
theorem g52_145 : G d 52 145 ls st h Q ↔ GN d 52 145 ls h (ldR ls 0 fun a => nx 146 ls (.ref a :: st) h) Q := G_unf rfl rfl
theorem g52_146 : G d 52 146 ls st h Q ↔ GN d 52 146 ls h (pA 0 st fun as r => pR r fun a r => ck (r.length ≤ 4 ∧ arr h a 5) (cll 53 (.ref a :: as) r)) Q := G_unf rfl rfl
theorem g52_149 : G d 52 149 ls st h Q ↔ GN d 52 149 ls h (nx 222 ls st h) Q := G_unf rfl rfl
theorem g52_152 : G d 52 152 ls st h Q ↔ GN d 52 152 ls h (ldR ls 0 fun a => nx 153 ls (.ref a :: st) h) Q := G_unf rfl rfl
theorem g52_153 : G d 52 153 ls st h Q ↔ GN d 52 153 ls h (pR st fun a r => ck (arr h a 5) (nx 156 ls (rv (hR h a 2) :: r) h)) Q := G_unf rfl rfl
theorem g52_156 : G d 52 156 ls st h Q ↔ GN d 52 156 ls h (ldR ls 0 fun a => nx 157 ls (.ref a :: st) h) Q := G_unf rfl rfl
theorem g52_157 : G d 52 157 ls st h Q ↔ GN d 52 157 ls h (pR st fun a r => ck (arr h a 5) (nx 160 ls (.int (hI h a 4) :: r) h)) Q := G_unf rfl rfl
theorem g52_160 : G d 52 160 ls st h Q ↔ GN d 52 160 ls h (pRI st fun a i r => br (a = 1000002) (ck (inb i 208) (nx 161 ls (.int (ownB i.toNatClampNeg) :: r) h)) (ck ((arr h a 11 ∨ arr h a 12) ∧ inb i (hLn h a)) (nx 161 ls (.int (hI h a i.toNatClampNeg) :: r) h))) Q := G_unf rfl rfl
theorem g52_161 : G d 52 161 ls st h Q ↔ GN d 52 161 ls h (nx 163 ls (.int (nI 48) :: st) h) Q := G_unf rfl rfl
theorem g52_163 : G d 52 163 ls st h Q ↔ GN d 52 163 ls h (pII st fun x y r => br (x < y) (nx 187 ls r h) (nx 166 ls r h)) Q := G_unf rfl rfl
theorem g52_166 : G d 52 166 ls st h Q ↔ GN d 52 166 ls h (ldR ls 0 fun a => nx 167 ls (.ref a :: st) h) Q := G_unf rfl rfl
theorem g52_167 : G d 52 167 ls st h Q ↔ GN d 52 167 ls h (pR st fun a r => ck (arr h a 5) (nx 170 ls (rv (hR h a 2) :: r) h)) Q := G_unf rfl rfl
theorem g52_170 : G d 52 170 ls st h Q ↔ GN d 52 170 ls h (ldR ls 0 fun a => nx 171 ls (.ref a :: st) h) Q := G_unf rfl rfl
theorem g52_171 : G d 52 171 ls st h Q ↔ GN d 52 171 ls h (pR st fun a r => ck (arr h a 5) (nx 174 ls (.int (hI h a 4) :: r) h)) Q := G_unf rfl rfl
theorem g52_174 : G d 52 174 ls st h Q ↔ GN d 52 174 ls h (pRI st fun a i r => br (a = 1000002) (ck (inb i 208) (nx 175 ls (.int (ownB i.toNatClampNeg) :: r) h)) (ck ((arr h a 11 ∨ arr h a 12) ∧ inb i (hLn h a)) (nx 175 ls (.int (hI h a i.toNatClampNeg) :: r) h))) Q := G_unf rfl rfl
theorem g52_175 : G d 52 175 ls st h Q ↔ GN d 52 175 ls h (nx 177 ls (.int (nI 57) :: st) h) Q := G_unf rfl rfl
theorem g52_177 : G d 52 177 ls st h Q ↔ GN d 52 177 ls h (pII st fun x y r => br (y < x) (nx 187 ls r h) (nx 180 ls r h)) Q := G_unf rfl rfl
theorem g52_180 : G d 52 180 ls st h Q ↔ GN d 52 180 ls h (ldR ls 0 fun a => nx 181 ls (.ref a :: st) h) Q := G_unf rfl rfl
theorem g52_181 : G d 52 181 ls st h Q ↔ GN d 52 181 ls h (pA 0 st fun as r => pR r fun a r => ck (r.length ≤ 4 ∧ arr h a 5) (cll 54 (.ref a :: as) r)) Q := G_unf rfl rfl
theorem g52_184 : G d 52 184 ls st h Q ↔ GN d 52 184 ls h (nx 222 ls st h) Q := G_unf rfl rfl
theorem g52_187 : G d 52 187 ls st h Q ↔ GN d 52 187 ls h (ldR ls 0 fun a => nx 188 ls (.ref a :: st) h) Q := G_unf rfl rfl
theorem g52_188 : G d 52 188 ls st h Q ↔ GN d 52 188 ls h (nx 190 ls (.int (nI 100) :: st) h) Q := G_unf rfl rfl
theorem g52_190 : G d 52 190 ls st h Q ↔ GN d 52 190 ls h (ldR ls 0 fun a => nx 191 ls (.ref a :: st) h) Q := G_unf rfl rfl
theorem g52_191 : G d 52 191 ls st h Q ↔ GN d 52 191 ls h (pR st fun a r => ck (arr h a 5) (nx 194 ls (rv (hR h a 2) :: r) h)) Q := G_unf rfl rfl
theorem g52_194 : G d 52 194 ls st h Q ↔ GN d 52 194 ls h (ldR ls 0 fun a => nx 195 ls (.ref a :: st) h) Q := G_unf rfl rfl
theorem g52_195 : G d 52 195 ls st h Q ↔ GN d 52 195 ls h (pR st fun a r => ck (arr h a 5) (nx 198 ls (.int (hI h a 4) :: r) h)) Q := G_unf rfl rfl
theorem g52_198 : G d 52 198 ls st h Q ↔ GN d 52 198 ls h (pRI st fun a i r => br (a = 1000002) (ck (inb i 208) (nx 199 ls (.int (ownB i.toNatClampNeg) :: r) h)) (ck ((arr h a 11 ∨ arr h a 12) ∧ inb i (hLn h a)) (nx 199 ls (.int (hI h a i.toNatClampNeg) :: r) h))) Q := G_unf rfl rfl
theorem g52_199 : G d 52 199 ls st h Q ↔ GN d 52 199 ls h (nx 202 ls (.int (nI 255) :: st) h) Q := G_unf rfl rfl
theorem g52_202 : G d 52 202 ls st h Q ↔ GN d 52 202 ls h (pII st fun x y r => nx 203 ls (.int (x &&& y) :: r) h) Q := G_unf rfl rfl
theorem g52_203 : G d 52 203 ls st h Q ↔ GN d 52 203 ls h (pII st fun x y r => nx 204 ls (.int (x + y) :: r) h) Q := G_unf rfl rfl
theorem g52_204 : G d 52 204 ls st h Q ↔ GN d 52 204 ls h (pRI st fun a x r => ck (arr h a 5) (nx 207 ls r (sI h a 6 x))) Q := G_unf rfl rfl
theorem g52_207 : G d 52 207 ls st h Q ↔ GN d 52 207 ls h (ldR ls 0 fun a => nx 208 ls (.ref a :: st) h) Q := G_unf rfl rfl
theorem g52_208 : G d 52 208 ls st h Q ↔ GN d 52 208 ls h (p1 st fun v r => nx 209 ls (v :: v :: r) h) Q := G_unf rfl rfl
theorem g52_209 : G d 52 209 ls st h Q ↔ GN d 52 209 ls h (pR st fun a r => ck (arr h a 5) (nx 212 ls (.int (hI h a 4) :: r) h)) Q := G_unf rfl rfl
theorem g52_212 : G d 52 212 ls st h Q ↔ GN d 52 212 ls h (nx 213 ls (.int (nI 1) :: st) h) Q := G_unf rfl rfl
theorem g52_213 : G d 52 213 ls st h Q ↔ GN d 52 213 ls h (pII st fun x y r => nx 214 ls (.int (x + y) :: r) h) Q := G_unf rfl rfl
theorem g52_214 : G d 52 214 ls st h Q ↔ GN d 52 214 ls h (pRI st fun a x r => ck (arr h a 5) (nx 217 ls r (sI h a 4 x))) Q := G_unf rfl rfl
theorem g52_217 : G d 52 217 ls st h Q ↔ GN d 52 217 ls h (ldR ls 0 fun a => nx 218 ls (.ref a :: st) h) Q := G_unf rfl rfl
theorem g52_218 : G d 52 218 ls st h Q ↔ GN d 52 218 ls h (nx 219 ls (.int (nI 0) :: st) h) Q := G_unf rfl rfl
theorem g52_219 : G d 52 219 ls st h Q ↔ GN d 52 219 ls h (pRI st fun a x r => ck (arr h a 5 ∧ (x = 0 ∨ x = 1)) (nx 222 ls r (sI h a 10 x))) Q := G_unf rfl rfl
theorem g52_222 : G d 52 222 ls st h Q ↔ GN d 52 222 ls h (ldI ls 2 fun x => nx 223 ls (.int x :: st) h) Q := G_unf rfl rfl
theorem g52_223 : G d 52 223 ls st h Q ↔ GN d 52 223 ls h (pI st fun x r => br (x = 0) (nx 247 ls r h) (nx 226 ls r h)) Q := G_unf rfl rfl
theorem g52_226 : G d 52 226 ls st h Q ↔ GN d 52 226 ls h (ldR ls 0 fun a => nx 227 ls (.ref a :: st) h) Q := G_unf rfl rfl
theorem g52_227 : G d 52 227 ls st h Q ↔ GN d 52 227 ls h (pR st fun a r => ck (arr h a 5) (nx 230 ls (.int (hI h a 10) :: r) h)) Q := G_unf rfl rfl
theorem g52_230 : G d 52 230 ls st h Q ↔ GN d 52 230 ls h (pI st fun x r => br (x = 0) (nx 247 ls r h) (nx 233 ls r h)) Q := G_unf rfl rfl
theorem g52_233 : G d 52 233 ls st h Q ↔ GN d 52 233 ls h (ldR ls 0 fun a => nx 234 ls (.ref a :: st) h) Q := G_unf rfl rfl
theorem g52_234 : G d 52 234 ls st h Q ↔ GN d 52 234 ls h (nx 236 ls (.int (nI 29) :: st) h) Q := G_unf rfl rfl
theorem g52_236 : G d 52 236 ls st h Q ↔ GN d 52 236 ls h (pRI st fun a x r => ck (arr h a 5) (nx 239 ls r (sI h a 6 x))) Q := G_unf rfl rfl
theorem g52_239 : G d 52 239 ls st h Q ↔ GN d 52 239 ls h (ldR ls 0 fun a => nx 240 ls (.ref a :: st) h) Q := G_unf rfl rfl
theorem g52_240 : G d 52 240 ls st h Q ↔ GN d 52 240 ls h (ldR ls 0 fun a => nx 241 ls (.ref a :: st) h) Q := G_unf rfl rfl
theorem g52_241 : G d 52 241 ls st h Q ↔ GN d 52 241 ls h (pR st fun a r => ck (arr h a 5) (nx 244 ls (.int (hI h a 8) :: r) h)) Q := G_unf rfl rfl
theorem g52_244 : G d 52 244 ls st h Q ↔ GN d 52 244 ls h (pRI st fun a x r => ck (arr h a 5) (nx 247 ls r (sI h a 9 x))) Q := G_unf rfl rfl
theorem g52_247 : G d 52 247 ls st h Q ↔ GN d 52 247 ls h (pE st (rtn none)) Q := G_unf rfl rfl
theorem g53_0 : G d 53 0 ls st h Q ↔ GN d 53 0 ls h (nx 1 ls (.long (lN 0) :: st) h) Q := G_unf rfl rfl
theorem g53_1 : G d 53 1 ls st h Q ↔ GN d 53 1 ls h (pJ st fun x r => ck (2 < ls.length) (nx 2 (st2 ls 1 (.long x)) r h)) Q := G_unf rfl rfl
theorem g53_2 : G d 53 2 ls st h Q ↔ GN d 53 2 ls h (ldR ls 0 fun a => nx 3 ls (.ref a :: st) h) Q := G_unf rfl rfl
theorem g53_3 : G d 53 3 ls st h Q ↔ GN d 53 3 ls h (pR st fun a r => ck (arr h a 5) (nx 6 ls (.int (hI h a 4) :: r) h)) Q := G_unf rfl rfl
theorem g53_6 : G d 53 6 ls st h Q ↔ GN d 53 6 ls h (ldR ls 0 fun a => nx 7 ls (.ref a :: st) h) Q := G_unf rfl rfl
theorem g53_7 : G d 53 7 ls st h Q ↔ GN d 53 7 ls h (pR st fun a r => ck (arr h a 5) (nx 10 ls (.int (hI h a 3) :: r) h)) Q := G_unf rfl rfl
theorem g53_10 : G d 53 10 ls st h Q ↔ GN d 53 10 ls h (pII st fun x y r => br (y ≤ x) (nx 98 ls r h) (nx 13 ls r h)) Q := G_unf rfl rfl
theorem g53_13 : G d 53 13 ls st h Q ↔ GN d 53 13 ls h (ldR ls 0 fun a => nx 14 ls (.ref a :: st) h) Q := G_unf rfl rfl
theorem g53_14 : G d 53 14 ls st h Q ↔ GN d 53 14 ls h (pR st fun a r => ck (arr h a 5) (nx 17 ls (rv (hR h a 2) :: r) h)) Q := G_unf rfl rfl
theorem g53_17 : G d 53 17 ls st h Q ↔ GN d 53 17 ls h (ldR ls 0 fun a => nx 18 ls (.ref a :: st) h) Q := G_unf rfl rfl
theorem g53_18 : G d 53 18 ls st h Q ↔ GN d 53 18 ls h (pR st fun a r => ck (arr h a 5) (nx 21 ls (.int (hI h a 4) :: r) h)) Q := G_unf rfl rfl
theorem g53_21 : G d 53 21 ls st h Q ↔ GN d 53 21 ls h (pRI st fun a i r => br (a = 1000002) (ck (inb i 208) (nx 22 ls (.int (ownB i.toNatClampNeg) :: r) h)) (ck ((arr h a 11 ∨ arr h a 12) ∧ inb i (hLn h a)) (nx 22 ls (.int (hI h a i.toNatClampNeg) :: r) h))) Q := G_unf rfl rfl
theorem g53_22 : G d 53 22 ls st h Q ↔ GN d 53 22 ls h (nx 24 ls (.int (nI 97) :: st) h) Q := G_unf rfl rfl
theorem g53_24 : G d 53 24 ls st h Q ↔ GN d 53 24 ls h (pII st fun x y r => br (x < y) (nx 98 ls r h) (nx 27 ls r h)) Q := G_unf rfl rfl
theorem g53_27 : G d 53 27 ls st h Q ↔ GN d 53 27 ls h (ldR ls 0 fun a => nx 28 ls (.ref a :: st) h) Q := G_unf rfl rfl
theorem g53_28 : G d 53 28 ls st h Q ↔ GN d 53 28 ls h (pR st fun a r => ck (arr h a 5) (nx 31 ls (rv (hR h a 2) :: r) h)) Q := G_unf rfl rfl
theorem g53_31 : G d 53 31 ls st h Q ↔ GN d 53 31 ls h (ldR ls 0 fun a => nx 32 ls (.ref a :: st) h) Q := G_unf rfl rfl
theorem g53_32 : G d 53 32 ls st h Q ↔ GN d 53 32 ls h (pR st fun a r => ck (arr h a 5) (nx 35 ls (.int (hI h a 4) :: r) h)) Q := G_unf rfl rfl
theorem g53_35 : G d 53 35 ls st h Q ↔ GN d 53 35 ls h (pRI st fun a i r => br (a = 1000002) (ck (inb i 208) (nx 36 ls (.int (ownB i.toNatClampNeg) :: r) h)) (ck ((arr h a 11 ∨ arr h a 12) ∧ inb i (hLn h a)) (nx 36 ls (.int (hI h a i.toNatClampNeg) :: r) h))) Q := G_unf rfl rfl
theorem g53_36 : G d 53 36 ls st h Q ↔ GN d 53 36 ls h (nx 38 ls (.int (nI 122) :: st) h) Q := G_unf rfl rfl
theorem g53_38 : G d 53 38 ls st h Q ↔ GN d 53 38 ls h (pII st fun x y r => br (y < x) (nx 98 ls r h) (nx 41 ls r h)) Q := G_unf rfl rfl
theorem g53_41 : G d 53 41 ls st h Q ↔ GN d 53 41 ls h (ldR ls 0 fun a => nx 42 ls (.ref a :: st) h) Q := G_unf rfl rfl
theorem g53_42 : G d 53 42 ls st h Q ↔ GN d 53 42 ls h (pR st fun a r => ck (arr h a 5) (nx 45 ls (.int (hI h a 4) :: r) h)) Q := G_unf rfl rfl
theorem g53_45 : G d 53 45 ls st h Q ↔ GN d 53 45 ls h (ldR ls 0 fun a => nx 46 ls (.ref a :: st) h) Q := G_unf rfl rfl
theorem g53_46 : G d 53 46 ls st h Q ↔ GN d 53 46 ls h (pR st fun a r => ck (arr h a 5) (nx 49 ls (.int (hI h a 8) :: r) h)) Q := G_unf rfl rfl
theorem g53_49 : G d 53 49 ls st h Q ↔ GN d 53 49 ls h (pII st fun x y r => nx 50 ls (.int (x - y) :: r) h) Q := G_unf rfl rfl
theorem g53_50 : G d 53 50 ls st h Q ↔ GN d 53 50 ls h (nx 52 ls (.int (nI 8) :: st) h) Q := G_unf rfl rfl
theorem g53_52 : G d 53 52 ls st h Q ↔ GN d 53 52 ls h (pII st fun x y r => br (y ≤ x) (nx 85 ls r h) (nx 55 ls r h)) Q := G_unf rfl rfl
theorem g53_55 : G d 53 55 ls st h Q ↔ GN d 53 55 ls h (ldJ ls 1 fun x => nx 56 ls (.long x :: st) h) Q := G_unf rfl rfl
theorem g53_56 : G d 53 56 ls st h Q ↔ GN d 53 56 ls h (ldR ls 0 fun a => nx 57 ls (.ref a :: st) h) Q := G_unf rfl rfl
theorem g53_57 : G d 53 57 ls st h Q ↔ GN d 53 57 ls h (pR st fun a r => ck (arr h a 5) (nx 60 ls (rv (hR h a 2) :: r) h)) Q := G_unf rfl rfl
theorem g53_60 : G d 53 60 ls st h Q ↔ GN d 53 60 ls h (ldR ls 0 fun a => nx 61 ls (.ref a :: st) h) Q := G_unf rfl rfl
theorem g53_61 : G d 53 61 ls st h Q ↔ GN d 53 61 ls h (pR st fun a r => ck (arr h a 5) (nx 64 ls (.int (hI h a 4) :: r) h)) Q := G_unf rfl rfl
theorem g53_64 : G d 53 64 ls st h Q ↔ GN d 53 64 ls h (pRI st fun a i r => br (a = 1000002) (ck (inb i 208) (nx 65 ls (.int (ownB i.toNatClampNeg) :: r) h)) (ck ((arr h a 11 ∨ arr h a 12) ∧ inb i (hLn h a)) (nx 65 ls (.int (hI h a i.toNatClampNeg) :: r) h))) Q := G_unf rfl rfl
theorem g53_65 : G d 53 65 ls st h Q ↔ GN d 53 65 ls h (nx 67 ls (.int (nI 97) :: st) h) Q := G_unf rfl rfl
theorem g53_67 : G d 53 67 ls st h Q ↔ GN d 53 67 ls h (pII st fun x y r => nx 68 ls (.int (x - y) :: r) h) Q := G_unf rfl rfl
theorem g53_68 : G d 53 68 ls st h Q ↔ GN d 53 68 ls h (nx 69 ls (.int (nI 1) :: st) h) Q := G_unf rfl rfl
theorem g53_69 : G d 53 69 ls st h Q ↔ GN d 53 69 ls h (pII st fun x y r => nx 70 ls (.int (x + y) :: r) h) Q := G_unf rfl rfl
theorem g53_70 : G d 53 70 ls st h Q ↔ GN d 53 70 ls h (pI st fun x r => nx 71 ls (.long x.toInt64 :: r) h) Q := G_unf rfl rfl
theorem g53_71 : G d 53 71 ls st h Q ↔ GN d 53 71 ls h (nx 72 ls (.int (nI 5) :: st) h) Q := G_unf rfl rfl
theorem g53_72 : G d 53 72 ls st h Q ↔ GN d 53 72 ls h (ldR ls 0 fun a => nx 73 ls (.ref a :: st) h) Q := G_unf rfl rfl
theorem g53_73 : G d 53 73 ls st h Q ↔ GN d 53 73 ls h (pR st fun a r => ck (arr h a 5) (nx 76 ls (.int (hI h a 4) :: r) h)) Q := G_unf rfl rfl
theorem g53_76 : G d 53 76 ls st h Q ↔ GN d 53 76 ls h (ldR ls 0 fun a => nx 77 ls (.ref a :: st) h) Q := G_unf rfl rfl
theorem g53_77 : G d 53 77 ls st h Q ↔ GN d 53 77 ls h (pR st fun a r => ck (arr h a 5) (nx 80 ls (.int (hI h a 8) :: r) h)) Q := G_unf rfl rfl
theorem g53_80 : G d 53 80 ls st h Q ↔ GN d 53 80 ls h (pII st fun x y r => nx 81 ls (.int (x - y) :: r) h) Q := G_unf rfl rfl
theorem g53_81 : G d 53 81 ls st h Q ↔ GN d 53 81 ls h (pII st fun x y r => nx 82 ls (.int (x * y) :: r) h) Q := G_unf rfl rfl
theorem g53_82 : G d 53 82 ls st h Q ↔ GN d 53 82 ls h (pJI st fun x y r => nx 83 ls (.long (x <<< (y.toInt64 &&& 63)) :: r) h) Q := G_unf rfl rfl
theorem g53_83 : G d 53 83 ls st h Q ↔ GN d 53 83 ls h (pJJ st fun x y r => nx 84 ls (.long (x ||| y) :: r) h) Q := G_unf rfl rfl
theorem g53_84 : G d 53 84 ls st h Q ↔ GN d 53 84 ls h (pJ st fun x r => ck (2 < ls.length) (nx 85 (st2 ls 1 (.long x)) r h)) Q := G_unf rfl rfl
theorem g53_85 : G d 53 85 ls st h Q ↔ GN d 53 85 ls h (ldR ls 0 fun a => nx 86 ls (.ref a :: st) h) Q := G_unf rfl rfl
theorem g53_86 : G d 53 86 ls st h Q ↔ GN d 53 86 ls h (p1 st fun v r => nx 87 ls (v :: v :: r) h) Q := G_unf rfl rfl
theorem g53_87 : G d 53 87 ls st h Q ↔ GN d 53 87 ls h (pR st fun a r => ck (arr h a 5) (nx 90 ls (.int (hI h a 4) :: r) h)) Q := G_unf rfl rfl
theorem g53_90 : G d 53 90 ls st h Q ↔ GN d 53 90 ls h (nx 91 ls (.int (nI 1) :: st) h) Q := G_unf rfl rfl
theorem g53_91 : G d 53 91 ls st h Q ↔ GN d 53 91 ls h (pII st fun x y r => nx 92 ls (.int (x + y) :: r) h) Q := G_unf rfl rfl
theorem g53_92 : G d 53 92 ls st h Q ↔ GN d 53 92 ls h (pRI st fun a x r => ck (arr h a 5) (nx 95 ls r (sI h a 4 x))) Q := G_unf rfl rfl
theorem g53_95 : G d 53 95 ls st h Q ↔ GN d 53 95 ls h (nx 2 ls st h) Q := G_unf rfl rfl
theorem g53_98 : G d 53 98 ls st h Q ↔ GN d 53 98 ls h (ldR ls 0 fun a => nx 99 ls (.ref a :: st) h) Q := G_unf rfl rfl
theorem g53_99 : G d 53 99 ls st h Q ↔ GN d 53 99 ls h (nx 101 ls (.int (nI 26) :: st) h) Q := G_unf rfl rfl
theorem g53_101 : G d 53 101 ls st h Q ↔ GN d 53 101 ls h (pRI st fun a x r => ck (arr h a 5) (nx 104 ls r (sI h a 6 x))) Q := G_unf rfl rfl
theorem g53_104 : G d 53 104 ls st h Q ↔ GN d 53 104 ls h (ldR ls 0 fun a => nx 105 ls (.ref a :: st) h) Q := G_unf rfl rfl
theorem g53_105 : G d 53 105 ls st h Q ↔ GN d 53 105 ls h (ldJ ls 1 fun x => nx 106 ls (.long x :: st) h) Q := G_unf rfl rfl
theorem g53_106 : G d 53 106 ls st h Q ↔ GN d 53 106 ls h (pJ st fun x r => nx 107 ls (.int x.toInt32 :: r) h) Q := G_unf rfl rfl
theorem g53_107 : G d 53 107 ls st h Q ↔ GN d 53 107 ls h (pRI st fun a x r => ck (arr h a 5) (nx 110 ls r (sI h a 7 x))) Q := G_unf rfl rfl
theorem g53_110 : G d 53 110 ls st h Q ↔ GN d 53 110 ls h (nx 111 ls (.int (nI 0) :: st) h) Q := G_unf rfl rfl
theorem g53_111 : G d 53 111 ls st h Q ↔ GN d 53 111 ls h (pI st fun x r => ck (3 < ls.length) (nx 112 (st1 ls 3 (.int x)) r h)) Q := G_unf rfl rfl
theorem g53_112 : G d 53 112 ls st h Q ↔ GN d 53 112 ls h (ldI ls 3 fun x => nx 113 ls (.int x :: st) h) Q := G_unf rfl rfl
theorem g53_113 : G d 53 113 ls st h Q ↔ GN d 53 113 ls h (nx 115 ls (.int (nI 26) :: st) h) Q := G_unf rfl rfl
theorem g53_115 : G d 53 115 ls st h Q ↔ GN d 53 115 ls h (pII st fun x y r => br (y ≤ x) (nx 140 ls r h) (nx 118 ls r h)) Q := G_unf rfl rfl
theorem g53_118 : G d 53 118 ls st h Q ↔ GN d 53 118 ls h (ldR ls 0 fun a => nx 119 ls (.ref a :: st) h) Q := G_unf rfl rfl
theorem g53_119 : G d 53 119 ls st h Q ↔ GN d 53 119 ls h (pR st fun a r => ck (arr h a 5) (nx 122 ls (rv (hR h a 15) :: r) h)) Q := G_unf rfl rfl
theorem g53_122 : G d 53 122 ls st h Q ↔ GN d 53 122 ls h (ldI ls 3 fun x => nx 123 ls (.int x :: st) h) Q := G_unf rfl rfl
theorem g53_123 : G d 53 123 ls st h Q ↔ GN d 53 123 ls h (pRI st fun a i r => ck (arr h a 13 ∧ inb i (hLn h a)) (nx 124 ls (.long (hL h a i.toNatClampNeg) :: r) h)) Q := G_unf rfl rfl
theorem g53_124 : G d 53 124 ls st h Q ↔ GN d 53 124 ls h (ldJ ls 1 fun x => nx 125 ls (.long x :: st) h) Q := G_unf rfl rfl
theorem g53_125 : G d 53 125 ls st h Q ↔ GN d 53 125 ls h (pJJ st fun x y r => nx 126 ls (.int (lg_cmp x y) :: r) h) Q := G_unf rfl rfl
theorem g53_126 : G d 53 126 ls st h Q ↔ GN d 53 126 ls h (pI st fun x r => br (¬ x = 0) (nx 134 ls r h) (nx 129 ls r h)) Q := G_unf rfl rfl
theorem g53_129 : G d 53 129 ls st h Q ↔ GN d 53 129 ls h (ldR ls 0 fun a => nx 130 ls (.ref a :: st) h) Q := G_unf rfl rfl
theorem g53_130 : G d 53 130 ls st h Q ↔ GN d 53 130 ls h (ldI ls 3 fun x => nx 131 ls (.int x :: st) h) Q := G_unf rfl rfl
theorem g53_131 : G d 53 131 ls st h Q ↔ GN d 53 131 ls h (pRI st fun a x r => ck (arr h a 5) (nx 134 ls r (sI h a 6 x))) Q := G_unf rfl rfl
theorem g53_134 : G d 53 134 ls st h Q ↔ GN d 53 134 ls h (ldI ls 3 fun x => nx 137 (st1 ls 3 (.int (x + (nI 1)))) st h) Q := G_unf rfl rfl
theorem g53_137 : G d 53 137 ls st h Q ↔ GN d 53 137 ls h (nx 112 ls st h) Q := G_unf rfl rfl
theorem g53_140 : G d 53 140 ls st h Q ↔ GN d 53 140 ls h (ldR ls 0 fun a => nx 141 ls (.ref a :: st) h) Q := G_unf rfl rfl
theorem g53_141 : G d 53 141 ls st h Q ↔ GN d 53 141 ls h (pR st fun a r => ck (arr h a 5) (nx 144 ls (.int (hI h a 6) :: r) h)) Q := G_unf rfl rfl
theorem g53_144 : G d 53 144 ls st h Q ↔ GN d 53 144 ls h (nx 146 ls (.int (nI 26) :: st) h) Q := G_unf rfl rfl
theorem g53_146 : G d 53 146 ls st h Q ↔ GN d 53 146 ls h (pII st fun x y r => br (¬ x = y) (nx 180 ls r h) (nx 149 ls r h)) Q := G_unf rfl rfl
theorem g53_149 : G d 53 149 ls st h Q ↔ GN d 53 149 ls h (ldR ls 0 fun a => nx 150 ls (.ref a :: st) h) Q := G_unf rfl rfl
theorem g53_150 : G d 53 150 ls st h Q ↔ GN d 53 150 ls h (pR st fun a r => ck (arr h a 5) (nx 153 ls (.int (hI h a 4) :: r) h)) Q := G_unf rfl rfl
theorem g53_153 : G d 53 153 ls st h Q ↔ GN d 53 153 ls h (ldR ls 0 fun a => nx 154 ls (.ref a :: st) h) Q := G_unf rfl rfl
theorem g53_154 : G d 53 154 ls st h Q ↔ GN d 53 154 ls h (pR st fun a r => ck (arr h a 5) (nx 157 ls (.int (hI h a 8) :: r) h)) Q := G_unf rfl rfl
theorem g53_157 : G d 53 157 ls st h Q ↔ GN d 53 157 ls h (pII st fun x y r => nx 158 ls (.int (x - y) :: r) h) Q := G_unf rfl rfl
theorem g53_158 : G d 53 158 ls st h Q ↔ GN d 53 158 ls h (nx 160 ls (.int (nI 6) :: st) h) Q := G_unf rfl rfl
theorem g53_160 : G d 53 160 ls st h Q ↔ GN d 53 160 ls h (pII st fun x y r => br (x ≤ y) (nx 180 ls r h) (nx 163 ls r h)) Q := G_unf rfl rfl
theorem g53_163 : G d 53 163 ls st h Q ↔ GN d 53 163 ls h (ldR ls 0 fun a => nx 164 ls (.ref a :: st) h) Q := G_unf rfl rfl
theorem g53_164 : G d 53 164 ls st h Q ↔ GN d 53 164 ls h (nx 166 ls (.int (nI 29) :: st) h) Q := G_unf rfl rfl
theorem g53_166 : G d 53 166 ls st h Q ↔ GN d 53 166 ls h (pRI st fun a x r => ck (arr h a 5) (nx 169 ls r (sI h a 6 x))) Q := G_unf rfl rfl
theorem g53_169 : G d 53 169 ls st h Q ↔ GN d 53 169 ls h (ldR ls 0 fun a => nx 170 ls (.ref a :: st) h) Q := G_unf rfl rfl
theorem g53_170 : G d 53 170 ls st h Q ↔ GN d 53 170 ls h (ldR ls 0 fun a => nx 171 ls (.ref a :: st) h) Q := G_unf rfl rfl
theorem g53_171 : G d 53 171 ls st h Q ↔ GN d 53 171 ls h (pR st fun a r => ck (arr h a 5) (nx 174 ls (.int (hI h a 8) :: r) h)) Q := G_unf rfl rfl
theorem g53_174 : G d 53 174 ls st h Q ↔ GN d 53 174 ls h (nx 176 ls (.int (nI 6) :: st) h) Q := G_unf rfl rfl
theorem g53_176 : G d 53 176 ls st h Q ↔ GN d 53 176 ls h (pII st fun x y r => nx 177 ls (.int (x + y) :: r) h) Q := G_unf rfl rfl
theorem g53_177 : G d 53 177 ls st h Q ↔ GN d 53 177 ls h (pRI st fun a x r => ck (arr h a 5) (nx 180 ls r (sI h a 9 x))) Q := G_unf rfl rfl
theorem g53_180 : G d 53 180 ls st h Q ↔ GN d 53 180 ls h (pE st (rtn none)) Q := G_unf rfl rfl
theorem g54_0 : G d 54 0 ls st h Q ↔ GN d 54 0 ls h (ldR ls 0 fun a => nx 1 ls (.ref a :: st) h) Q := G_unf rfl rfl
theorem g54_1 : G d 54 1 ls st h Q ↔ GN d 54 1 ls h (nx 2 ls (.int (nI 0) :: st) h) Q := G_unf rfl rfl
theorem g54_2 : G d 54 2 ls st h Q ↔ GN d 54 2 ls h (pRI st fun a x r => ck (arr h a 5) (nx 5 ls r (sI h a 7 x))) Q := G_unf rfl rfl
theorem g54_5 : G d 54 5 ls st h Q ↔ GN d 54 5 ls h (ldR ls 0 fun a => nx 6 ls (.ref a :: st) h) Q := G_unf rfl rfl
theorem g54_6 : G d 54 6 ls st h Q ↔ GN d 54 6 ls h (pR st fun a r => ck (arr h a 5) (nx 9 ls (.int (hI h a 4) :: r) h)) Q := G_unf rfl rfl
theorem g54_9 : G d 54 9 ls st h Q ↔ GN d 54 9 ls h (ldR ls 0 fun a => nx 10 ls (.ref a :: st) h) Q := G_unf rfl rfl
theorem g54_10 : G d 54 10 ls st h Q ↔ GN d 54 10 ls h (pR st fun a r => ck (arr h a 5) (nx 13 ls (.int (hI h a 3) :: r) h)) Q := G_unf rfl rfl
theorem g54_13 : G d 54 13 ls st h Q ↔ GN d 54 13 ls h (pII st fun x y r => br (y ≤ x) (nx 94 ls r h) (nx 16 ls r h)) Q := G_unf rfl rfl
theorem g54_16 : G d 54 16 ls st h Q ↔ GN d 54 16 ls h (ldR ls 0 fun a => nx 17 ls (.ref a :: st) h) Q := G_unf rfl rfl
theorem g54_17 : G d 54 17 ls st h Q ↔ GN d 54 17 ls h (pR st fun a r => ck (arr h a 5) (nx 20 ls (rv (hR h a 2) :: r) h)) Q := G_unf rfl rfl
theorem g54_20 : G d 54 20 ls st h Q ↔ GN d 54 20 ls h (ldR ls 0 fun a => nx 21 ls (.ref a :: st) h) Q := G_unf rfl rfl
theorem g54_21 : G d 54 21 ls st h Q ↔ GN d 54 21 ls h (pR st fun a r => ck (arr h a 5) (nx 24 ls (.int (hI h a 4) :: r) h)) Q := G_unf rfl rfl
theorem g54_24 : G d 54 24 ls st h Q ↔ GN d 54 24 ls h (pRI st fun a i r => br (a = 1000002) (ck (inb i 208) (nx 25 ls (.int (ownB i.toNatClampNeg) :: r) h)) (ck ((arr h a 11 ∨ arr h a 12) ∧ inb i (hLn h a)) (nx 25 ls (.int (hI h a i.toNatClampNeg) :: r) h))) Q := G_unf rfl rfl
theorem g54_25 : G d 54 25 ls st h Q ↔ GN d 54 25 ls h (nx 27 ls (.int (nI 48) :: st) h) Q := G_unf rfl rfl
theorem g54_27 : G d 54 27 ls st h Q ↔ GN d 54 27 ls h (pII st fun x y r => br (x < y) (nx 94 ls r h) (nx 30 ls r h)) Q := G_unf rfl rfl
theorem g54_30 : G d 54 30 ls st h Q ↔ GN d 54 30 ls h (ldR ls 0 fun a => nx 31 ls (.ref a :: st) h) Q := G_unf rfl rfl
theorem g54_31 : G d 54 31 ls st h Q ↔ GN d 54 31 ls h (pR st fun a r => ck (arr h a 5) (nx 34 ls (rv (hR h a 2) :: r) h)) Q := G_unf rfl rfl
theorem g54_34 : G d 54 34 ls st h Q ↔ GN d 54 34 ls h (ldR ls 0 fun a => nx 35 ls (.ref a :: st) h) Q := G_unf rfl rfl
theorem g54_35 : G d 54 35 ls st h Q ↔ GN d 54 35 ls h (pR st fun a r => ck (arr h a 5) (nx 38 ls (.int (hI h a 4) :: r) h)) Q := G_unf rfl rfl
theorem g54_38 : G d 54 38 ls st h Q ↔ GN d 54 38 ls h (pRI st fun a i r => br (a = 1000002) (ck (inb i 208) (nx 39 ls (.int (ownB i.toNatClampNeg) :: r) h)) (ck ((arr h a 11 ∨ arr h a 12) ∧ inb i (hLn h a)) (nx 39 ls (.int (hI h a i.toNatClampNeg) :: r) h))) Q := G_unf rfl rfl
theorem g54_39 : G d 54 39 ls st h Q ↔ GN d 54 39 ls h (nx 41 ls (.int (nI 57) :: st) h) Q := G_unf rfl rfl
theorem g54_41 : G d 54 41 ls st h Q ↔ GN d 54 41 ls h (pII st fun x y r => br (y < x) (nx 94 ls r h) (nx 44 ls r h)) Q := G_unf rfl rfl
theorem g54_44 : G d 54 44 ls st h Q ↔ GN d 54 44 ls h (ldR ls 0 fun a => nx 45 ls (.ref a :: st) h) Q := G_unf rfl rfl
theorem g54_45 : G d 54 45 ls st h Q ↔ GN d 54 45 ls h (pR st fun a r => ck (arr h a 5) (nx 48 ls (.int (hI h a 4) :: r) h)) Q := G_unf rfl rfl
theorem g54_48 : G d 54 48 ls st h Q ↔ GN d 54 48 ls h (ldR ls 0 fun a => nx 49 ls (.ref a :: st) h) Q := G_unf rfl rfl
theorem g54_49 : G d 54 49 ls st h Q ↔ GN d 54 49 ls h (pR st fun a r => ck (arr h a 5) (nx 52 ls (.int (hI h a 8) :: r) h)) Q := G_unf rfl rfl
theorem g54_52 : G d 54 52 ls st h Q ↔ GN d 54 52 ls h (pII st fun x y r => nx 53 ls (.int (x - y) :: r) h) Q := G_unf rfl rfl
theorem g54_53 : G d 54 53 ls st h Q ↔ GN d 54 53 ls h (nx 54 ls (.int (nI 4) :: st) h) Q := G_unf rfl rfl
theorem g54_54 : G d 54 54 ls st h Q ↔ GN d 54 54 ls h (pII st fun x y r => br (y ≤ x) (nx 81 ls r h) (nx 57 ls r h)) Q := G_unf rfl rfl
theorem g54_57 : G d 54 57 ls st h Q ↔ GN d 54 57 ls h (ldR ls 0 fun a => nx 58 ls (.ref a :: st) h) Q := G_unf rfl rfl
theorem g54_58 : G d 54 58 ls st h Q ↔ GN d 54 58 ls h (ldR ls 0 fun a => nx 59 ls (.ref a :: st) h) Q := G_unf rfl rfl
theorem g54_59 : G d 54 59 ls st h Q ↔ GN d 54 59 ls h (pR st fun a r => ck (arr h a 5) (nx 62 ls (.int (hI h a 7) :: r) h)) Q := G_unf rfl rfl
theorem g54_62 : G d 54 62 ls st h Q ↔ GN d 54 62 ls h (nx 64 ls (.int (nI 10) :: st) h) Q := G_unf rfl rfl
theorem g54_64 : G d 54 64 ls st h Q ↔ GN d 54 64 ls h (pII st fun x y r => nx 65 ls (.int (x * y) :: r) h) Q := G_unf rfl rfl
theorem g54_65 : G d 54 65 ls st h Q ↔ GN d 54 65 ls h (ldR ls 0 fun a => nx 66 ls (.ref a :: st) h) Q := G_unf rfl rfl
theorem g54_66 : G d 54 66 ls st h Q ↔ GN d 54 66 ls h (pR st fun a r => ck (arr h a 5) (nx 69 ls (rv (hR h a 2) :: r) h)) Q := G_unf rfl rfl
theorem g54_69 : G d 54 69 ls st h Q ↔ GN d 54 69 ls h (ldR ls 0 fun a => nx 70 ls (.ref a :: st) h) Q := G_unf rfl rfl
theorem g54_70 : G d 54 70 ls st h Q ↔ GN d 54 70 ls h (pR st fun a r => ck (arr h a 5) (nx 73 ls (.int (hI h a 4) :: r) h)) Q := G_unf rfl rfl
theorem g54_73 : G d 54 73 ls st h Q ↔ GN d 54 73 ls h (pRI st fun a i r => br (a = 1000002) (ck (inb i 208) (nx 74 ls (.int (ownB i.toNatClampNeg) :: r) h)) (ck ((arr h a 11 ∨ arr h a 12) ∧ inb i (hLn h a)) (nx 74 ls (.int (hI h a i.toNatClampNeg) :: r) h))) Q := G_unf rfl rfl
theorem g54_74 : G d 54 74 ls st h Q ↔ GN d 54 74 ls h (pII st fun x y r => nx 75 ls (.int (x + y) :: r) h) Q := G_unf rfl rfl
theorem g54_75 : G d 54 75 ls st h Q ↔ GN d 54 75 ls h (nx 77 ls (.int (nI 48) :: st) h) Q := G_unf rfl rfl
theorem g54_77 : G d 54 77 ls st h Q ↔ GN d 54 77 ls h (pII st fun x y r => nx 78 ls (.int (x - y) :: r) h) Q := G_unf rfl rfl
theorem g54_78 : G d 54 78 ls st h Q ↔ GN d 54 78 ls h (pRI st fun a x r => ck (arr h a 5) (nx 81 ls r (sI h a 7 x))) Q := G_unf rfl rfl
theorem g54_81 : G d 54 81 ls st h Q ↔ GN d 54 81 ls h (ldR ls 0 fun a => nx 82 ls (.ref a :: st) h) Q := G_unf rfl rfl
theorem g54_82 : G d 54 82 ls st h Q ↔ GN d 54 82 ls h (p1 st fun v r => nx 83 ls (v :: v :: r) h) Q := G_unf rfl rfl
theorem g54_83 : G d 54 83 ls st h Q ↔ GN d 54 83 ls h (pR st fun a r => ck (arr h a 5) (nx 86 ls (.int (hI h a 4) :: r) h)) Q := G_unf rfl rfl
theorem g54_86 : G d 54 86 ls st h Q ↔ GN d 54 86 ls h (nx 87 ls (.int (nI 1) :: st) h) Q := G_unf rfl rfl
theorem g54_87 : G d 54 87 ls st h Q ↔ GN d 54 87 ls h (pII st fun x y r => nx 88 ls (.int (x + y) :: r) h) Q := G_unf rfl rfl
theorem g54_88 : G d 54 88 ls st h Q ↔ GN d 54 88 ls h (pRI st fun a x r => ck (arr h a 5) (nx 91 ls r (sI h a 4 x))) Q := G_unf rfl rfl
theorem g54_91 : G d 54 91 ls st h Q ↔ GN d 54 91 ls h (nx 5 ls st h) Q := G_unf rfl rfl
theorem g54_94 : G d 54 94 ls st h Q ↔ GN d 54 94 ls h (ldR ls 0 fun a => nx 95 ls (.ref a :: st) h) Q := G_unf rfl rfl
theorem g54_95 : G d 54 95 ls st h Q ↔ GN d 54 95 ls h (nx 97 ls (.int (nI 27) :: st) h) Q := G_unf rfl rfl
theorem g54_97 : G d 54 97 ls st h Q ↔ GN d 54 97 ls h (pRI st fun a x r => ck (arr h a 5) (nx 100 ls r (sI h a 6 x))) Q := G_unf rfl rfl
theorem g54_100 : G d 54 100 ls st h Q ↔ GN d 54 100 ls h (ldR ls 0 fun a => nx 101 ls (.ref a :: st) h) Q := G_unf rfl rfl
theorem g54_101 : G d 54 101 ls st h Q ↔ GN d 54 101 ls h (pR st fun a r => ck (arr h a 5) (nx 104 ls (.int (hI h a 4) :: r) h)) Q := G_unf rfl rfl
theorem g54_104 : G d 54 104 ls st h Q ↔ GN d 54 104 ls h (ldR ls 0 fun a => nx 105 ls (.ref a :: st) h) Q := G_unf rfl rfl
theorem g54_105 : G d 54 105 ls st h Q ↔ GN d 54 105 ls h (pR st fun a r => ck (arr h a 5) (nx 108 ls (.int (hI h a 8) :: r) h)) Q := G_unf rfl rfl
theorem g54_108 : G d 54 108 ls st h Q ↔ GN d 54 108 ls h (pII st fun x y r => nx 109 ls (.int (x - y) :: r) h) Q := G_unf rfl rfl
theorem g54_109 : G d 54 109 ls st h Q ↔ GN d 54 109 ls h (nx 110 ls (.int (nI 4) :: st) h) Q := G_unf rfl rfl
theorem g54_110 : G d 54 110 ls st h Q ↔ GN d 54 110 ls h (pII st fun x y r => br (x ≤ y) (nx 129 ls r h) (nx 113 ls r h)) Q := G_unf rfl rfl
theorem g54_113 : G d 54 113 ls st h Q ↔ GN d 54 113 ls h (ldR ls 0 fun a => nx 114 ls (.ref a :: st) h) Q := G_unf rfl rfl
theorem g54_114 : G d 54 114 ls st h Q ↔ GN d 54 114 ls h (nx 116 ls (.int (nI 29) :: st) h) Q := G_unf rfl rfl
theorem g54_116 : G d 54 116 ls st h Q ↔ GN d 54 116 ls h (pRI st fun a x r => ck (arr h a 5) (nx 119 ls r (sI h a 6 x))) Q := G_unf rfl rfl
theorem g54_119 : G d 54 119 ls st h Q ↔ GN d 54 119 ls h (ldR ls 0 fun a => nx 120 ls (.ref a :: st) h) Q := G_unf rfl rfl
theorem g54_120 : G d 54 120 ls st h Q ↔ GN d 54 120 ls h (ldR ls 0 fun a => nx 121 ls (.ref a :: st) h) Q := G_unf rfl rfl
theorem g54_121 : G d 54 121 ls st h Q ↔ GN d 54 121 ls h (pR st fun a r => ck (arr h a 5) (nx 124 ls (.int (hI h a 8) :: r) h)) Q := G_unf rfl rfl
theorem g54_124 : G d 54 124 ls st h Q ↔ GN d 54 124 ls h (nx 125 ls (.int (nI 4) :: st) h) Q := G_unf rfl rfl
theorem g54_125 : G d 54 125 ls st h Q ↔ GN d 54 125 ls h (pII st fun x y r => nx 126 ls (.int (x + y) :: r) h) Q := G_unf rfl rfl
theorem g54_126 : G d 54 126 ls st h Q ↔ GN d 54 126 ls h (pRI st fun a x r => ck (arr h a 5) (nx 129 ls r (sI h a 9 x))) Q := G_unf rfl rfl
theorem g54_129 : G d 54 129 ls st h Q ↔ GN d 54 129 ls h (pE st (rtn none)) Q := G_unf rfl rfl
theorem g55_0 : G d 55 0 ls st h Q ↔ GN d 55 0 ls h (ldR ls 0 fun a => nx 1 ls (.ref a :: st) h) Q := G_unf rfl rfl
theorem g55_1 : G d 55 1 ls st h Q ↔ GN d 55 1 ls h (pR st fun a r => ck (arr h a 5) (nx 4 ls (.int (hI h a 6) :: r) h)) Q := G_unf rfl rfl
theorem g55_4 : G d 55 4 ls st h Q ↔ GN d 55 4 ls h (ldI ls 1 fun x => nx 5 ls (.int x :: st) h) Q := G_unf rfl rfl
theorem g55_5 : G d 55 5 ls st h Q ↔ GN d 55 5 ls h (pII st fun x y r => br (x = y) (nx 18 ls r h) (nx 8 ls r h)) Q := G_unf rfl rfl
theorem g55_8 : G d 55 8 ls st h Q ↔ GN d 55 8 ls h (ldR ls 0 fun a => nx 9 ls (.ref a :: st) h) Q := G_unf rfl rfl
theorem g55_9 : G d 55 9 ls st h Q ↔ GN d 55 9 ls h (nx 10 ls (.int (nI 1) :: st) h) Q := G_unf rfl rfl
theorem g55_10 : G d 55 10 ls st h Q ↔ GN d 55 10 ls h (ldR ls 0 fun a => nx 11 ls (.ref a :: st) h) Q := G_unf rfl rfl
theorem g55_11 : G d 55 11 ls st h Q ↔ GN d 55 11 ls h (pR st fun a r => ck (arr h a 5) (nx 14 ls (.int (hI h a 9) :: r) h)) Q := G_unf rfl rfl
theorem g55_14 : G d 55 14 ls st h Q ↔ GN d 55 14 ls h (pA 2 st fun as r => pR r fun a r => ck (r.length ≤ 4 ∧ arr h a 5) (cll 51 (.ref a :: as) r)) Q := G_unf rfl rfl
theorem g55_17 : G d 55 17 ls st h Q ↔ GN d 55 17 ls h (pIe st fun x => ck (x = 0 ∨ x = 1) (rtn (some (.int x)))) Q := G_unf rfl rfl
theorem g55_18 : G d 55 18 ls st h Q ↔ GN d 55 18 ls h (ldR ls 0 fun a => nx 19 ls (.ref a :: st) h) Q := G_unf rfl rfl
theorem g55_19 : G d 55 19 ls st h Q ↔ GN d 55 19 ls h (pA 0 st fun as r => pR r fun a r => ck (r.length ≤ 4 ∧ arr h a 5) (cll 52 (.ref a :: as) r)) Q := G_unf rfl rfl
theorem g55_22 : G d 55 22 ls st h Q ↔ GN d 55 22 ls h (nx 23 ls (.int (nI 1) :: st) h) Q := G_unf rfl rfl
theorem g55_23 : G d 55 23 ls st h Q ↔ GN d 55 23 ls h (pIe st fun x => ck (x = 0 ∨ x = 1) (rtn (some (.int x)))) Q := G_unf rfl rfl
theorem g56_0 : G d 56 0 ls st h Q ↔ GN d 56 0 ls h (ldR ls 0 fun a => nx 1 ls (.ref a :: st) h) Q := G_unf rfl rfl
theorem g56_1 : G d 56 1 ls st h Q ↔ GN d 56 1 ls h (pR st fun a r => ck (arr h a 5) (nx 4 ls (.int (hI h a 6) :: r) h)) Q := G_unf rfl rfl
theorem g56_4 : G d 56 4 ls st h Q ↔ GN d 56 4 ls h (nx 6 ls (.int (nI 27) :: st) h) Q := G_unf rfl rfl
theorem g56_6 : G d 56 6 ls st h Q ↔ GN d 56 6 ls h (pII st fun x y r => br (x = y) (nx 21 ls r h) (nx 9 ls r h)) Q := G_unf rfl rfl
theorem g56_9 : G d 56 9 ls st h Q ↔ GN d 56 9 ls h (ldR ls 0 fun a => nx 10 ls (.ref a :: st) h) Q := G_unf rfl rfl
theorem g56_10 : G d 56 10 ls st h Q ↔ GN d 56 10 ls h (nx 11 ls (.int (nI 1) :: st) h) Q := G_unf rfl rfl
theorem g56_11 : G d 56 11 ls st h Q ↔ GN d 56 11 ls h (ldR ls 0 fun a => nx 12 ls (.ref a :: st) h) Q := G_unf rfl rfl
theorem g56_12 : G d 56 12 ls st h Q ↔ GN d 56 12 ls h (pR st fun a r => ck (arr h a 5) (nx 15 ls (.int (hI h a 9) :: r) h)) Q := G_unf rfl rfl
theorem g56_15 : G d 56 15 ls st h Q ↔ GN d 56 15 ls h (pA 2 st fun as r => pR r fun a r => ck (r.length ≤ 4 ∧ arr h a 5) (cll 51 (.ref a :: as) r)) Q := G_unf rfl rfl
theorem g56_18 : G d 56 18 ls st h Q ↔ GN d 56 18 ls h (p1 st fun _ r => nx 19 ls r h) Q := G_unf rfl rfl
theorem g56_19 : G d 56 19 ls st h Q ↔ GN d 56 19 ls h (nx 20 ls (.int (-1) :: st) h) Q := G_unf rfl rfl
theorem g56_20 : G d 56 20 ls st h Q ↔ GN d 56 20 ls h (pIe st fun x => rtn (some (.int x))) Q := G_unf rfl rfl
theorem g56_21 : G d 56 21 ls st h Q ↔ GN d 56 21 ls h (ldR ls 0 fun a => nx 22 ls (.ref a :: st) h) Q := G_unf rfl rfl
theorem g56_22 : G d 56 22 ls st h Q ↔ GN d 56 22 ls h (pR st fun a r => ck (arr h a 5) (nx 25 ls (.int (hI h a 7) :: r) h)) Q := G_unf rfl rfl
theorem g56_25 : G d 56 25 ls st h Q ↔ GN d 56 25 ls h (pI st fun x r => ck (2 < ls.length) (nx 26 (st1 ls 2 (.int x)) r h)) Q := G_unf rfl rfl
theorem g56_26 : G d 56 26 ls st h Q ↔ GN d 56 26 ls h (ldI ls 2 fun x => nx 27 ls (.int x :: st) h) Q := G_unf rfl rfl
theorem g56_27 : G d 56 27 ls st h Q ↔ GN d 56 27 ls h (ldI ls 1 fun x => nx 28 ls (.int x :: st) h) Q := G_unf rfl rfl
theorem g56_28 : G d 56 28 ls st h Q ↔ GN d 56 28 ls h (pII st fun x y r => br (x ≤ y) (nx 43 ls r h) (nx 31 ls r h)) Q := G_unf rfl rfl
theorem g56_31 : G d 56 31 ls st h Q ↔ GN d 56 31 ls h (ldR ls 0 fun a => nx 32 ls (.ref a :: st) h) Q := G_unf rfl rfl
theorem g56_32 : G d 56 32 ls st h Q ↔ GN d 56 32 ls h (nx 33 ls (.int (nI 4) :: st) h) Q := G_unf rfl rfl
theorem g56_33 : G d 56 33 ls st h Q ↔ GN d 56 33 ls h (ldR ls 0 fun a => nx 34 ls (.ref a :: st) h) Q := G_unf rfl rfl
theorem g56_34 : G d 56 34 ls st h Q ↔ GN d 56 34 ls h (pR st fun a r => ck (arr h a 5) (nx 37 ls (.int (hI h a 8) :: r) h)) Q := G_unf rfl rfl
theorem g56_37 : G d 56 37 ls st h Q ↔ GN d 56 37 ls h (pA 2 st fun as r => pR r fun a r => ck (r.length ≤ 4 ∧ arr h a 5) (cll 51 (.ref a :: as) r)) Q := G_unf rfl rfl
theorem g56_40 : G d 56 40 ls st h Q ↔ GN d 56 40 ls h (p1 st fun _ r => nx 41 ls r h) Q := G_unf rfl rfl
theorem g56_41 : G d 56 41 ls st h Q ↔ GN d 56 41 ls h (nx 42 ls (.int (-1) :: st) h) Q := G_unf rfl rfl
theorem g56_42 : G d 56 42 ls st h Q ↔ GN d 56 42 ls h (pIe st fun x => rtn (some (.int x))) Q := G_unf rfl rfl
theorem g56_43 : G d 56 43 ls st h Q ↔ GN d 56 43 ls h (ldR ls 0 fun a => nx 44 ls (.ref a :: st) h) Q := G_unf rfl rfl
theorem g56_44 : G d 56 44 ls st h Q ↔ GN d 56 44 ls h (pA 0 st fun as r => pR r fun a r => ck (r.length ≤ 4 ∧ arr h a 5) (cll 52 (.ref a :: as) r)) Q := G_unf rfl rfl
theorem g56_47 : G d 56 47 ls st h Q ↔ GN d 56 47 ls h (ldI ls 2 fun x => nx 48 ls (.int x :: st) h) Q := G_unf rfl rfl
theorem g56_48 : G d 56 48 ls st h Q ↔ GN d 56 48 ls h (pIe st fun x => rtn (some (.int x))) Q := G_unf rfl rfl
theorem g57_0 : G d 57 0 ls st h Q ↔ GN d 57 0 ls h (ldR ls 0 fun a => nx 1 ls (.ref a :: st) h) Q := G_unf rfl rfl
theorem g57_1 : G d 57 1 ls st h Q ↔ GN d 57 1 ls h (pR st fun a r => ck (arr h a 5) (nx 4 ls (.int (hI h a 6) :: r) h)) Q := G_unf rfl rfl
theorem g57_4 : G d 57 4 ls st h Q ↔ GN d 57 4 ls h (nx 6 ls (.int (nI 26) :: st) h) Q := G_unf rfl rfl
theorem g57_6 : G d 57 6 ls st h Q ↔ GN d 57 6 ls h (pII st fun x y r => br (x = y) (nx 21 ls r h) (nx 9 ls r h)) Q := G_unf rfl rfl
theorem g57_9 : G d 57 9 ls st h Q ↔ GN d 57 9 ls h (ldR ls 0 fun a => nx 10 ls (.ref a :: st) h) Q := G_unf rfl rfl
theorem g57_10 : G d 57 10 ls st h Q ↔ GN d 57 10 ls h (nx 11 ls (.int (nI 1) :: st) h) Q := G_unf rfl rfl
theorem g57_11 : G d 57 11 ls st h Q ↔ GN d 57 11 ls h (ldR ls 0 fun a => nx 12 ls (.ref a :: st) h) Q := G_unf rfl rfl
theorem g57_12 : G d 57 12 ls st h Q ↔ GN d 57 12 ls h (pR st fun a r => ck (arr h a 5) (nx 15 ls (.int (hI h a 9) :: r) h)) Q := G_unf rfl rfl
theorem g57_15 : G d 57 15 ls st h Q ↔ GN d 57 15 ls h (pA 2 st fun as r => pR r fun a r => ck (r.length ≤ 4 ∧ arr h a 5) (cll 51 (.ref a :: as) r)) Q := G_unf rfl rfl
theorem g57_18 : G d 57 18 ls st h Q ↔ GN d 57 18 ls h (p1 st fun _ r => nx 19 ls r h) Q := G_unf rfl rfl
theorem g57_19 : G d 57 19 ls st h Q ↔ GN d 57 19 ls h (nx 20 ls (.int (-1) :: st) h) Q := G_unf rfl rfl
theorem g57_20 : G d 57 20 ls st h Q ↔ GN d 57 20 ls h (pIe st fun x => rtn (some (.int x))) Q := G_unf rfl rfl
theorem g57_21 : G d 57 21 ls st h Q ↔ GN d 57 21 ls h (ldR ls 0 fun a => nx 22 ls (.ref a :: st) h) Q := G_unf rfl rfl
theorem g57_22 : G d 57 22 ls st h Q ↔ GN d 57 22 ls h (pR st fun a r => ck (arr h a 5) (nx 25 ls (.int (hI h a 7) :: r) h)) Q := G_unf rfl rfl
theorem g57_25 : G d 57 25 ls st h Q ↔ GN d 57 25 ls h (pI st fun x r => ck (1 < ls.length) (nx 26 (st1 ls 1 (.int x)) r h)) Q := G_unf rfl rfl
theorem g57_26 : G d 57 26 ls st h Q ↔ GN d 57 26 ls h (ldR ls 0 fun a => nx 27 ls (.ref a :: st) h) Q := G_unf rfl rfl
theorem g57_27 : G d 57 27 ls st h Q ↔ GN d 57 27 ls h (ldR ls 0 fun a => nx 28 ls (.ref a :: st) h) Q := G_unf rfl rfl
theorem g57_28 : G d 57 28 ls st h Q ↔ GN d 57 28 ls h (pR st fun a r => ck (arr h a 5) (nx 31 ls (rv (hR h a 5) :: r) h)) Q := G_unf rfl rfl
theorem g57_31 : G d 57 31 ls st h Q ↔ GN d 57 31 ls h (pR st fun a r => ck (arr h a 0) (nx 34 ls (rv (hR h a 0) :: r) h)) Q := G_unf rfl rfl
theorem g57_34 : G d 57 34 ls st h Q ↔ GN d 57 34 ls h (ldR ls 0 fun a => nx 35 ls (.ref a :: st) h) Q := G_unf rfl rfl
theorem g57_35 : G d 57 35 ls st h Q ↔ GN d 57 35 ls h (pR st fun a r => ck (arr h a 5) (nx 38 ls (rv (hR h a 5) :: r) h)) Q := G_unf rfl rfl
theorem g57_38 : G d 57 38 ls st h Q ↔ GN d 57 38 ls h (pR st fun a r => ck (arr h a 0) (nx 41 ls (.int (hI h a 3) :: r) h)) Q := G_unf rfl rfl
theorem g57_41 : G d 57 41 ls st h Q ↔ GN d 57 41 ls h (pA 2 st fun as r => pR r fun a r => ck (r.length ≤ 4 ∧ arr h a 5) (cll 59 (.ref a :: as) r)) Q := G_unf rfl rfl
theorem g57_44 : G d 57 44 ls st h Q ↔ GN d 57 44 ls h (nx 45 ls (.int (-1) :: st) h) Q := G_unf rfl rfl
theorem g57_45 : G d 57 45 ls st h Q ↔ GN d 57 45 ls h (pII st fun x y r => br (¬ x = y) (nx 70 ls r h) (nx 48 ls r h)) Q := G_unf rfl rfl
theorem g57_48 : G d 57 48 ls st h Q ↔ GN d 57 48 ls h (ldR ls 0 fun a => nx 49 ls (.ref a :: st) h) Q := G_unf rfl rfl
theorem g57_49 : G d 57 49 ls st h Q ↔ GN d 57 49 ls h (ldR ls 0 fun a => nx 50 ls (.ref a :: st) h) Q := G_unf rfl rfl
theorem g57_50 : G d 57 50 ls st h Q ↔ GN d 57 50 ls h (pR st fun a r => ck (arr h a 5) (nx 53 ls (rv (hR h a 5) :: r) h)) Q := G_unf rfl rfl
theorem g57_53 : G d 57 53 ls st h Q ↔ GN d 57 53 ls h (pR st fun a r => ck (arr h a 0) (nx 56 ls (rv (hR h a 7) :: r) h)) Q := G_unf rfl rfl
theorem g57_56 : G d 57 56 ls st h Q ↔ GN d 57 56 ls h (ldR ls 0 fun a => nx 57 ls (.ref a :: st) h) Q := G_unf rfl rfl
theorem g57_57 : G d 57 57 ls st h Q ↔ GN d 57 57 ls h (pR st fun a r => ck (arr h a 5) (nx 60 ls (rv (hR h a 5) :: r) h)) Q := G_unf rfl rfl
theorem g57_60 : G d 57 60 ls st h Q ↔ GN d 57 60 ls h (pR st fun a r => ck (arr h a 0) (nx 63 ls (.int (hI h a 10) :: r) h)) Q := G_unf rfl rfl
theorem g57_63 : G d 57 63 ls st h Q ↔ GN d 57 63 ls h (pA 2 st fun as r => pR r fun a r => ck (r.length ≤ 4 ∧ arr h a 5) (cll 59 (.ref a :: as) r)) Q := G_unf rfl rfl
theorem g57_66 : G d 57 66 ls st h Q ↔ GN d 57 66 ls h (nx 67 ls (.int (-1) :: st) h) Q := G_unf rfl rfl
theorem g57_67 : G d 57 67 ls st h Q ↔ GN d 57 67 ls h (pII st fun x y r => br (x = y) (nx 82 ls r h) (nx 70 ls r h)) Q := G_unf rfl rfl
theorem g57_70 : G d 57 70 ls st h Q ↔ GN d 57 70 ls h (ldR ls 0 fun a => nx 71 ls (.ref a :: st) h) Q := G_unf rfl rfl
theorem g57_71 : G d 57 71 ls st h Q ↔ GN d 57 71 ls h (nx 72 ls (.int (nI 2) :: st) h) Q := G_unf rfl rfl
theorem g57_72 : G d 57 72 ls st h Q ↔ GN d 57 72 ls h (ldR ls 0 fun a => nx 73 ls (.ref a :: st) h) Q := G_unf rfl rfl
theorem g57_73 : G d 57 73 ls st h Q ↔ GN d 57 73 ls h (pR st fun a r => ck (arr h a 5) (nx 76 ls (.int (hI h a 8) :: r) h)) Q := G_unf rfl rfl
theorem g57_76 : G d 57 76 ls st h Q ↔ GN d 57 76 ls h (pA 2 st fun as r => pR r fun a r => ck (r.length ≤ 4 ∧ arr h a 5) (cll 51 (.ref a :: as) r)) Q := G_unf rfl rfl
theorem g57_79 : G d 57 79 ls st h Q ↔ GN d 57 79 ls h (p1 st fun _ r => nx 80 ls r h) Q := G_unf rfl rfl
theorem g57_80 : G d 57 80 ls st h Q ↔ GN d 57 80 ls h (nx 81 ls (.int (-1) :: st) h) Q := G_unf rfl rfl
theorem g57_81 : G d 57 81 ls st h Q ↔ GN d 57 81 ls h (pIe st fun x => rtn (some (.int x))) Q := G_unf rfl rfl
theorem g57_82 : G d 57 82 ls st h Q ↔ GN d 57 82 ls h (ldR ls 0 fun a => nx 83 ls (.ref a :: st) h) Q := G_unf rfl rfl
theorem g57_83 : G d 57 83 ls st h Q ↔ GN d 57 83 ls h (pA 0 st fun as r => pR r fun a r => ck (r.length ≤ 4 ∧ arr h a 5) (cll 52 (.ref a :: as) r)) Q := G_unf rfl rfl
theorem g57_86 : G d 57 86 ls st h Q ↔ GN d 57 86 ls h (ldI ls 1 fun x => nx 87 ls (.int x :: st) h) Q := G_unf rfl rfl
theorem g57_87 : G d 57 87 ls st h Q ↔ GN d 57 87 ls h (pIe st fun x => rtn (some (.int x))) Q := G_unf rfl rfl
theorem g58_0 : G d 58 0 ls st h Q ↔ GN d 58 0 ls h (ldR ls 0 fun a => nx 1 ls (.ref a :: st) h) Q := G_unf rfl rfl
theorem g58_1 : G d 58 1 ls st h Q ↔ GN d 58 1 ls h (pR st fun a r => ck (arr h a 5) (nx 4 ls (.int (hI h a 6) :: r) h)) Q := G_unf rfl rfl
theorem g58_4 : G d 58 4 ls st h Q ↔ GN d 58 4 ls h (nx 6 ls (.int (nI 26) :: st) h) Q := G_unf rfl rfl
theorem g58_6 : G d 58 6 ls st h Q ↔ GN d 58 6 ls h (pII st fun x y r => br (x = y) (nx 21 ls r h) (nx 9 ls r h)) Q := G_unf rfl rfl
theorem g58_9 : G d 58 9 ls st h Q ↔ GN d 58 9 ls h (ldR ls 0 fun a => nx 10 ls (.ref a :: st) h) Q := G_unf rfl rfl
theorem g58_10 : G d 58 10 ls st h Q ↔ GN d 58 10 ls h (nx 11 ls (.int (nI 1) :: st) h) Q := G_unf rfl rfl
theorem g58_11 : G d 58 11 ls st h Q ↔ GN d 58 11 ls h (ldR ls 0 fun a => nx 12 ls (.ref a :: st) h) Q := G_unf rfl rfl
theorem g58_12 : G d 58 12 ls st h Q ↔ GN d 58 12 ls h (pR st fun a r => ck (arr h a 5) (nx 15 ls (.int (hI h a 9) :: r) h)) Q := G_unf rfl rfl
theorem g58_15 : G d 58 15 ls st h Q ↔ GN d 58 15 ls h (pA 2 st fun as r => pR r fun a r => ck (r.length ≤ 4 ∧ arr h a 5) (cll 51 (.ref a :: as) r)) Q := G_unf rfl rfl
theorem g58_18 : G d 58 18 ls st h Q ↔ GN d 58 18 ls h (p1 st fun _ r => nx 19 ls r h) Q := G_unf rfl rfl
theorem g58_19 : G d 58 19 ls st h Q ↔ GN d 58 19 ls h (nx 20 ls (.int (-1) :: st) h) Q := G_unf rfl rfl
theorem g58_20 : G d 58 20 ls st h Q ↔ GN d 58 20 ls h (pIe st fun x => rtn (some (.int x))) Q := G_unf rfl rfl
theorem g58_21 : G d 58 21 ls st h Q ↔ GN d 58 21 ls h (ldR ls 0 fun a => nx 22 ls (.ref a :: st) h) Q := G_unf rfl rfl
theorem g58_22 : G d 58 22 ls st h Q ↔ GN d 58 22 ls h (ldR ls 1 fun a => nx 23 ls (.ref a :: st) h) Q := G_unf rfl rfl
theorem g58_23 : G d 58 23 ls st h Q ↔ GN d 58 23 ls h (ldI ls 2 fun x => nx 24 ls (.int x :: st) h) Q := G_unf rfl rfl
theorem g58_24 : G d 58 24 ls st h Q ↔ GN d 58 24 ls h (pA 2 st fun as r => pR r fun a r => ck (r.length ≤ 4 ∧ arr h a 5) (cll 59 (.ref a :: as) r)) Q := G_unf rfl rfl
theorem g58_27 : G d 58 27 ls st h Q ↔ GN d 58 27 ls h (pI st fun x r => ck (4 < ls.length) (nx 29 (st1 ls 4 (.int x)) r h)) Q := G_unf rfl rfl
theorem g58_29 : G d 58 29 ls st h Q ↔ GN d 58 29 ls h (ldI ls 4 fun x => nx 31 ls (.int x :: st) h) Q := G_unf rfl rfl
theorem g58_31 : G d 58 31 ls st h Q ↔ GN d 58 31 ls h (nx 32 ls (.int (-1) :: st) h) Q := G_unf rfl rfl
theorem g58_32 : G d 58 32 ls st h Q ↔ GN d 58 32 ls h (pII st fun x y r => br (x = y) (nx 45 ls r h) (nx 35 ls r h)) Q := G_unf rfl rfl
theorem g58_35 : G d 58 35 ls st h Q ↔ GN d 58 35 ls h (ldI ls 3 fun x => nx 36 ls (.int x :: st) h) Q := G_unf rfl rfl
theorem g58_36 : G d 58 36 ls st h Q ↔ GN d 58 36 ls h (ldI ls 4 fun x => nx 38 ls (.int x :: st) h) Q := G_unf rfl rfl
theorem g58_38 : G d 58 38 ls st h Q ↔ GN d 58 38 ls h (pII st fun x y r => nx 39 ls (.int (x >>> (y &&& 31)) :: r) h) Q := G_unf rfl rfl
theorem g58_39 : G d 58 39 ls st h Q ↔ GN d 58 39 ls h (nx 40 ls (.int (nI 1) :: st) h) Q := G_unf rfl rfl
theorem g58_40 : G d 58 40 ls st h Q ↔ GN d 58 40 ls h (pII st fun x y r => nx 41 ls (.int (x &&& y) :: r) h) Q := G_unf rfl rfl
theorem g58_41 : G d 58 41 ls st h Q ↔ GN d 58 41 ls h (nx 42 ls (.int (nI 1) :: st) h) Q := G_unf rfl rfl
theorem g58_42 : G d 58 42 ls st h Q ↔ GN d 58 42 ls h (pII st fun x y r => br (¬ x = y) (nx 57 ls r h) (nx 45 ls r h)) Q := G_unf rfl rfl
theorem g58_45 : G d 58 45 ls st h Q ↔ GN d 58 45 ls h (ldR ls 0 fun a => nx 46 ls (.ref a :: st) h) Q := G_unf rfl rfl
theorem g58_46 : G d 58 46 ls st h Q ↔ GN d 58 46 ls h (nx 47 ls (.int (nI 3) :: st) h) Q := G_unf rfl rfl
theorem g58_47 : G d 58 47 ls st h Q ↔ GN d 58 47 ls h (ldR ls 0 fun a => nx 48 ls (.ref a :: st) h) Q := G_unf rfl rfl
theorem g58_48 : G d 58 48 ls st h Q ↔ GN d 58 48 ls h (pR st fun a r => ck (arr h a 5) (nx 51 ls (.int (hI h a 8) :: r) h)) Q := G_unf rfl rfl
theorem g58_51 : G d 58 51 ls st h Q ↔ GN d 58 51 ls h (pA 2 st fun as r => pR r fun a r => ck (r.length ≤ 4 ∧ arr h a 5) (cll 51 (.ref a :: as) r)) Q := G_unf rfl rfl
theorem g58_54 : G d 58 54 ls st h Q ↔ GN d 58 54 ls h (p1 st fun _ r => nx 55 ls r h) Q := G_unf rfl rfl
theorem g58_55 : G d 58 55 ls st h Q ↔ GN d 58 55 ls h (nx 56 ls (.int (-1) :: st) h) Q := G_unf rfl rfl
theorem g58_56 : G d 58 56 ls st h Q ↔ GN d 58 56 ls h (pIe st fun x => rtn (some (.int x))) Q := G_unf rfl rfl
theorem g58_57 : G d 58 57 ls st h Q ↔ GN d 58 57 ls h (ldR ls 0 fun a => nx 58 ls (.ref a :: st) h) Q := G_unf rfl rfl
theorem g58_58 : G d 58 58 ls st h Q ↔ GN d 58 58 ls h (pA 0 st fun as r => pR r fun a r => ck (r.length ≤ 4 ∧ arr h a 5) (cll 52 (.ref a :: as) r)) Q := G_unf rfl rfl
theorem g58_61 : G d 58 61 ls st h Q ↔ GN d 58 61 ls h (ldI ls 4 fun x => nx 63 ls (.int x :: st) h) Q := G_unf rfl rfl
theorem g58_63 : G d 58 63 ls st h Q ↔ GN d 58 63 ls h (pIe st fun x => rtn (some (.int x))) Q := G_unf rfl rfl
theorem g59_0 : G d 59 0 ls st h Q ↔ GN d 59 0 ls h (nx 1 ls (.int (nI 0) :: st) h) Q := G_unf rfl rfl
theorem g59_1 : G d 59 1 ls st h Q ↔ GN d 59 1 ls h (pI st fun x r => ck (3 < ls.length) (nx 2 (st1 ls 3 (.int x)) r h)) Q := G_unf rfl rfl
theorem g59_2 : G d 59 2 ls st h Q ↔ GN d 59 2 ls h (ldI ls 3 fun x => nx 3 ls (.int x :: st) h) Q := G_unf rfl rfl
theorem g59_3 : G d 59 3 ls st h Q ↔ GN d 59 3 ls h (ldI ls 2 fun x => nx 4 ls (.int x :: st) h) Q := G_unf rfl rfl
theorem g59_4 : G d 59 4 ls st h Q ↔ GN d 59 4 ls h (pII st fun x y r => br (y ≤ x) (nx 31 ls r h) (nx 7 ls r h)) Q := G_unf rfl rfl
theorem g59_7 : G d 59 7 ls st h Q ↔ GN d 59 7 ls h (ldI ls 3 fun x => nx 8 ls (.int x :: st) h) Q := G_unf rfl rfl
theorem g59_8 : G d 59 8 ls st h Q ↔ GN d 59 8 ls h (ldR ls 1 fun a => nx 9 ls (.ref a :: st) h) Q := G_unf rfl rfl
theorem g59_9 : G d 59 9 ls st h Q ↔ GN d 59 9 ls h (pR st fun a r => br (a = 1000000) (nx 10 ls (.int (nI 0) :: r) h) (br (a = 1000002) (nx 10 ls (.int (nI 208) :: r) h) (br (a = 1000003) (nx 10 ls (.int (nI (hS h).1) :: r) h) (ck (a < hN h ∧ 10 ≤ lay a) (nx 10 ls (.int (nI (hLn h a)) :: r) h))))) Q := G_unf rfl rfl
theorem g59_10 : G d 59 10 ls st h Q ↔ GN d 59 10 ls h (pII st fun x y r => br (y ≤ x) (nx 31 ls r h) (nx 13 ls r h)) Q := G_unf rfl rfl
theorem g59_13 : G d 59 13 ls st h Q ↔ GN d 59 13 ls h (ldR ls 1 fun a => nx 14 ls (.ref a :: st) h) Q := G_unf rfl rfl
theorem g59_14 : G d 59 14 ls st h Q ↔ GN d 59 14 ls h (ldI ls 3 fun x => nx 15 ls (.int x :: st) h) Q := G_unf rfl rfl
theorem g59_15 : G d 59 15 ls st h Q ↔ GN d 59 15 ls h (pRI st fun a i r => br (a = 1000003) (ck (inb i (hS h).1) (nx 16 ls (.int ((hS h).2 i.toNatClampNeg) :: r) h)) (ck (arr h a 10 ∧ inb i (hLn h a)) (nx 16 ls (.int (hI h a i.toNatClampNeg) :: r) h))) Q := G_unf rfl rfl
theorem g59_16 : G d 59 16 ls st h Q ↔ GN d 59 16 ls h (ldR ls 0 fun a => nx 17 ls (.ref a :: st) h) Q := G_unf rfl rfl
theorem g59_17 : G d 59 17 ls st h Q ↔ GN d 59 17 ls h (pR st fun a r => ck (arr h a 5) (nx 20 ls (.int (hI h a 7) :: r) h)) Q := G_unf rfl rfl
theorem g59_20 : G d 59 20 ls st h Q ↔ GN d 59 20 ls h (pII st fun x y r => br (¬ x = y) (nx 25 ls r h) (nx 23 ls r h)) Q := G_unf rfl rfl
theorem g59_23 : G d 59 23 ls st h Q ↔ GN d 59 23 ls h (ldI ls 3 fun x => nx 24 ls (.int x :: st) h) Q := G_unf rfl rfl
theorem g59_24 : G d 59 24 ls st h Q ↔ GN d 59 24 ls h (pIe st fun x => rtn (some (.int x))) Q := G_unf rfl rfl
theorem g59_25 : G d 59 25 ls st h Q ↔ GN d 59 25 ls h (ldI ls 3 fun x => nx 28 (st1 ls 3 (.int (x + (nI 1)))) st h) Q := G_unf rfl rfl
theorem g59_28 : G d 59 28 ls st h Q ↔ GN d 59 28 ls h (nx 2 ls st h) Q := G_unf rfl rfl
theorem g59_31 : G d 59 31 ls st h Q ↔ GN d 59 31 ls h (nx 32 ls (.int (-1) :: st) h) Q := G_unf rfl rfl
theorem g59_32 : G d 59 32 ls st h Q ↔ GN d 59 32 ls h (pIe st fun x => rtn (some (.int x))) Q := G_unf rfl rfl
theorem g60_0 : G d 60 0 ls st h Q ↔ GN d 60 0 ls h (ldR ls 0 fun a => nx 1 ls (.ref a :: st) h) Q := G_unf rfl rfl
theorem g60_1 : G d 60 1 ls st h Q ↔ GN d 60 1 ls h (ldR ls 0 fun a => nx 2 ls (.ref a :: st) h) Q := G_unf rfl rfl
theorem g60_2 : G d 60 2 ls st h Q ↔ GN d 60 2 ls h (pR st fun a r => ck (arr h a 5) (nx 5 ls (.int (hI h a 8) :: r) h)) Q := G_unf rfl rfl
theorem g60_5 : G d 60 5 ls st h Q ↔ GN d 60 5 ls h (pRI st fun a x r => ck (arr h a 5) (nx 8 ls r (sI h a 11 x))) Q := G_unf rfl rfl
theorem g60_8 : G d 60 8 ls st h Q ↔ GN d 60 8 ls h (ldR ls 0 fun a => nx 9 ls (.ref a :: st) h) Q := G_unf rfl rfl
theorem g60_9 : G d 60 9 ls st h Q ↔ GN d 60 9 ls h (pA 0 st fun as r => pR r fun a r => ck (r.length ≤ 4 ∧ arr h a 5) (cll 61 (.ref a :: as) r)) Q := G_unf rfl rfl
theorem g60_12 : G d 60 12 ls st h Q ↔ GN d 60 12 ls h (pI st fun x r => br (x = 0) (nx 26 ls r h) (nx 15 ls r h)) Q := G_unf rfl rfl
theorem g60_15 : G d 60 15 ls st h Q ↔ GN d 60 15 ls h (ldR ls 0 fun a => nx 16 ls (.ref a :: st) h) Q := G_unf rfl rfl
theorem g60_16 : G d 60 16 ls st h Q ↔ GN d 60 16 ls h (nx 18 ls (.int (nI 6) :: st) h) Q := G_unf rfl rfl
theorem g60_18 : G d 60 18 ls st h Q ↔ GN d 60 18 ls h (ldR ls 0 fun a => nx 19 ls (.ref a :: st) h) Q := G_unf rfl rfl
theorem g60_19 : G d 60 19 ls st h Q ↔ GN d 60 19 ls h (pR st fun a r => ck (arr h a 5) (nx 22 ls (.int (hI h a 11) :: r) h)) Q := G_unf rfl rfl
theorem g60_22 : G d 60 22 ls st h Q ↔ GN d 60 22 ls h (pA 2 st fun as r => pR r fun a r => ck (r.length ≤ 4 ∧ arr h a 5) (cll 51 (.ref a :: as) r)) Q := G_unf rfl rfl
theorem g60_25 : G d 60 25 ls st h Q ↔ GN d 60 25 ls h (pIe st fun x => ck (x = 0 ∨ x = 1) (rtn (some (.int x)))) Q := G_unf rfl rfl
theorem g60_26 : G d 60 26 ls st h Q ↔ GN d 60 26 ls h (ldR ls 0 fun a => nx 27 ls (.ref a :: st) h) Q := G_unf rfl rfl
theorem g60_27 : G d 60 27 ls st h Q ↔ GN d 60 27 ls h (pR st fun a r => ck (arr h a 5) (nx 30 ls (.int (hI h a 6) :: r) h)) Q := G_unf rfl rfl
theorem g60_30 : G d 60 30 ls st h Q ↔ GN d 60 30 ls h (pI st fun x r => ck (1 < ls.length) (nx 31 (st1 ls 1 (.int x)) r h)) Q := G_unf rfl rfl
theorem g60_31 : G d 60 31 ls st h Q ↔ GN d 60 31 ls h (ldR ls 0 fun a => nx 32 ls (.ref a :: st) h) Q := G_unf rfl rfl
theorem g60_32 : G d 60 32 ls st h Q ↔ GN d 60 32 ls h (pR st fun a r => ck (arr h a 5) (nx 35 ls (.int (hI h a 9) :: r) h)) Q := G_unf rfl rfl
theorem g60_35 : G d 60 35 ls st h Q ↔ GN d 60 35 ls h (pI st fun x r => ck (2 < ls.length) (nx 36 (st1 ls 2 (.int x)) r h)) Q := G_unf rfl rfl
theorem g60_36 : G d 60 36 ls st h Q ↔ GN d 60 36 ls h (ldI ls 1 fun x => nx 37 ls (.int x :: st) h) Q := G_unf rfl rfl
theorem g60_37 : G d 60 37 ls st h Q ↔ GN d 60 37 ls h (nx 39 ls (.int (nI 26) :: st) h) Q := G_unf rfl rfl
theorem g60_39 : G d 60 39 ls st h Q ↔ GN d 60 39 ls h (pII st fun x y r => br (y ≤ x) (nx 46 ls r h) (nx 42 ls r h)) Q := G_unf rfl rfl
theorem g60_42 : G d 60 42 ls st h Q ↔ GN d 60 42 ls h (ldR ls 0 fun a => nx 43 ls (.ref a :: st) h) Q := G_unf rfl rfl
theorem g60_43 : G d 60 43 ls st h Q ↔ GN d 60 43 ls h (pA 0 st fun as r => pR r fun a r => ck (r.length ≤ 4 ∧ arr h a 5) (cll 52 (.ref a :: as) r)) Q := G_unf rfl rfl
theorem g60_46 : G d 60 46 ls st h Q ↔ GN d 60 46 ls h (ldR ls 0 fun a => nx 47 ls (.ref a :: st) h) Q := G_unf rfl rfl
theorem g60_47 : G d 60 47 ls st h Q ↔ GN d 60 47 ls h (nx 48 ls (.int (nI 0) :: st) h) Q := G_unf rfl rfl
theorem g60_48 : G d 60 48 ls st h Q ↔ GN d 60 48 ls h (pRI st fun a x r => ck (arr h a 5) (nx 51 ls r (sI h a 14 x))) Q := G_unf rfl rfl
theorem g60_51 : G d 60 51 ls st h Q ↔ GN d 60 51 ls h (ldR ls 0 fun a => nx 52 ls (.ref a :: st) h) Q := G_unf rfl rfl
theorem g60_52 : G d 60 52 ls st h Q ↔ GN d 60 52 ls h (nx 53 ls (.int (nI 0) :: st) h) Q := G_unf rfl rfl
theorem g60_53 : G d 60 53 ls st h Q ↔ GN d 60 53 ls h (pRI st fun a x r => ck (arr h a 5) (nx 56 ls r (sI h a 12 x))) Q := G_unf rfl rfl
theorem g60_56 : G d 60 56 ls st h Q ↔ GN d 60 56 ls h (ldI ls 1 fun x => nx 57 ls (.int x :: st) h) Q := G_unf rfl rfl
theorem g60_57 : G d 60 57 ls st h Q ↔ GN d 60 57 ls h (pI st fun x r => br (x.toInt = 0) (nx 132 ls r h) (br (x.toInt = 1) (nx 202 ls r h) (br (x.toInt = 2) (nx 202 ls r h) (br (x.toInt = 3) (nx 137 ls r h) (br (x.toInt = 4) (nx 202 ls r h) (br (x.toInt = 5) (nx 142 ls r h) (br (x.toInt = 6) (nx 202 ls r h) (br (x.toInt = 7) (nx 202 ls r h) (br (x.toInt = 8) (nx 147 ls r h) (br (x.toInt = 9) (nx 202 ls r h) (br (x.toInt = 10) (nx 152 ls r h) (br (x.toInt = 11) (nx 202 ls r h) (br (x.toInt = 12) (nx 162 ls r h) (br (x.toInt = 13) (nx 182 ls r h) (br (x.toInt = 14) (nx 157 ls r h) (nx 202 ls r h)))))))))))))))) Q := G_unf rfl rfl
theorem g60_132 : G d 60 132 ls st h Q ↔ GN d 60 132 ls h (ldR ls 0 fun a => nx 133 ls (.ref a :: st) h) Q := G_unf rfl rfl
theorem g60_133 : G d 60 133 ls st h Q ↔ GN d 60 133 ls h (pA 0 st fun as r => pR r fun a r => ck (r.length ≤ 4 ∧ arr h a 5) (cll 62 (.ref a :: as) r)) Q := G_unf rfl rfl
theorem g60_136 : G d 60 136 ls st h Q ↔ GN d 60 136 ls h (pIe st fun x => ck (x = 0 ∨ x = 1) (rtn (some (.int x)))) Q := G_unf rfl rfl
theorem g60_137 : G d 60 137 ls st h Q ↔ GN d 60 137 ls h (ldR ls 0 fun a => nx 138 ls (.ref a :: st) h) Q := G_unf rfl rfl
theorem g60_138 : G d 60 138 ls st h Q ↔ GN d 60 138 ls h (pA 0 st fun as r => pR r fun a r => ck (r.length ≤ 4 ∧ arr h a 5) (cll 63 (.ref a :: as) r)) Q := G_unf rfl rfl
theorem g60_141 : G d 60 141 ls st h Q ↔ GN d 60 141 ls h (pIe st fun x => ck (x = 0 ∨ x = 1) (rtn (some (.int x)))) Q := G_unf rfl rfl
theorem g60_142 : G d 60 142 ls st h Q ↔ GN d 60 142 ls h (ldR ls 0 fun a => nx 143 ls (.ref a :: st) h) Q := G_unf rfl rfl
theorem g60_143 : G d 60 143 ls st h Q ↔ GN d 60 143 ls h (pA 0 st fun as r => pR r fun a r => ck (r.length ≤ 4 ∧ arr h a 5) (cll 64 (.ref a :: as) r)) Q := G_unf rfl rfl
theorem g60_146 : G d 60 146 ls st h Q ↔ GN d 60 146 ls h (pIe st fun x => ck (x = 0 ∨ x = 1) (rtn (some (.int x)))) Q := G_unf rfl rfl
theorem g60_147 : G d 60 147 ls st h Q ↔ GN d 60 147 ls h (ldR ls 0 fun a => nx 148 ls (.ref a :: st) h) Q := G_unf rfl rfl
theorem g60_148 : G d 60 148 ls st h Q ↔ GN d 60 148 ls h (pA 0 st fun as r => pR r fun a r => ck (r.length ≤ 4 ∧ arr h a 5) (cll 65 (.ref a :: as) r)) Q := G_unf rfl rfl
theorem g60_151 : G d 60 151 ls st h Q ↔ GN d 60 151 ls h (pIe st fun x => ck (x = 0 ∨ x = 1) (rtn (some (.int x)))) Q := G_unf rfl rfl
theorem g60_152 : G d 60 152 ls st h Q ↔ GN d 60 152 ls h (ldR ls 0 fun a => nx 153 ls (.ref a :: st) h) Q := G_unf rfl rfl
theorem g60_153 : G d 60 153 ls st h Q ↔ GN d 60 153 ls h (pA 0 st fun as r => pR r fun a r => ck (r.length ≤ 4 ∧ arr h a 5) (cll 66 (.ref a :: as) r)) Q := G_unf rfl rfl
theorem g60_156 : G d 60 156 ls st h Q ↔ GN d 60 156 ls h (pIe st fun x => ck (x = 0 ∨ x = 1) (rtn (some (.int x)))) Q := G_unf rfl rfl
theorem g60_157 : G d 60 157 ls st h Q ↔ GN d 60 157 ls h (ldR ls 0 fun a => nx 158 ls (.ref a :: st) h) Q := G_unf rfl rfl
theorem g60_158 : G d 60 158 ls st h Q ↔ GN d 60 158 ls h (pA 0 st fun as r => pR r fun a r => ck (r.length ≤ 4 ∧ arr h a 5) (cll 68 (.ref a :: as) r)) Q := G_unf rfl rfl
theorem g60_161 : G d 60 161 ls st h Q ↔ GN d 60 161 ls h (pIe st fun x => ck (x = 0 ∨ x = 1) (rtn (some (.int x)))) Q := G_unf rfl rfl
theorem g60_162 : G d 60 162 ls st h Q ↔ GN d 60 162 ls h (ldR ls 0 fun a => nx 163 ls (.ref a :: st) h) Q := G_unf rfl rfl
theorem g60_163 : G d 60 163 ls st h Q ↔ GN d 60 163 ls h (pA 0 st fun as r => pR r fun a r => ck (r.length ≤ 4 ∧ arr h a 5) (cll 77 (.ref a :: as) r)) Q := G_unf rfl rfl
theorem g60_166 : G d 60 166 ls st h Q ↔ GN d 60 166 ls h (pI st fun x r => br (x = 0) (nx 180 ls r h) (nx 169 ls r h)) Q := G_unf rfl rfl
theorem g60_169 : G d 60 169 ls st h Q ↔ GN d 60 169 ls h (ldR ls 0 fun a => nx 170 ls (.ref a :: st) h) Q := G_unf rfl rfl
theorem g60_170 : G d 60 170 ls st h Q ↔ GN d 60 170 ls h (pA 0 st fun as r => pR r fun a r => ck (r.length ≤ 4 ∧ arr h a 5) (cll 69 (.ref a :: as) r)) Q := G_unf rfl rfl
theorem g60_173 : G d 60 173 ls st h Q ↔ GN d 60 173 ls h (pI st fun x r => br (x = 0) (nx 180 ls r h) (nx 176 ls r h)) Q := G_unf rfl rfl
theorem g60_176 : G d 60 176 ls st h Q ↔ GN d 60 176 ls h (nx 177 ls (.int (nI 1) :: st) h) Q := G_unf rfl rfl
theorem g60_177 : G d 60 177 ls st h Q ↔ GN d 60 177 ls h (nx 181 ls st h) Q := G_unf rfl rfl
theorem g60_180 : G d 60 180 ls st h Q ↔ GN d 60 180 ls h (nx 181 ls (.int (nI 0) :: st) h) Q := G_unf rfl rfl
theorem g60_181 : G d 60 181 ls st h Q ↔ GN d 60 181 ls h (pIe st fun x => ck (x = 0 ∨ x = 1) (rtn (some (.int x)))) Q := G_unf rfl rfl
theorem g60_182 : G d 60 182 ls st h Q ↔ GN d 60 182 ls h (ldR ls 0 fun a => nx 183 ls (.ref a :: st) h) Q := G_unf rfl rfl
theorem g60_183 : G d 60 183 ls st h Q ↔ GN d 60 183 ls h (pA 0 st fun as r => pR r fun a r => ck (r.length ≤ 4 ∧ arr h a 5) (cll 73 (.ref a :: as) r)) Q := G_unf rfl rfl
theorem g60_186 : G d 60 186 ls st h Q ↔ GN d 60 186 ls h (pI st fun x r => br (x = 0) (nx 200 ls r h) (nx 189 ls r h)) Q := G_unf rfl rfl
theorem g60_189 : G d 60 189 ls st h Q ↔ GN d 60 189 ls h (ldR ls 0 fun a => nx 190 ls (.ref a :: st) h) Q := G_unf rfl rfl
theorem g60_190 : G d 60 190 ls st h Q ↔ GN d 60 190 ls h (pA 0 st fun as r => pR r fun a r => ck (r.length ≤ 4 ∧ arr h a 5) (cll 70 (.ref a :: as) r)) Q := G_unf rfl rfl
theorem g60_193 : G d 60 193 ls st h Q ↔ GN d 60 193 ls h (pI st fun x r => br (x = 0) (nx 200 ls r h) (nx 196 ls r h)) Q := G_unf rfl rfl
theorem g60_196 : G d 60 196 ls st h Q ↔ GN d 60 196 ls h (nx 197 ls (.int (nI 1) :: st) h) Q := G_unf rfl rfl
theorem g60_197 : G d 60 197 ls st h Q ↔ GN d 60 197 ls h (nx 201 ls st h) Q := G_unf rfl rfl
theorem g60_200 : G d 60 200 ls st h Q ↔ GN d 60 200 ls h (nx 201 ls (.int (nI 0) :: st) h) Q := G_unf rfl rfl
theorem g60_201 : G d 60 201 ls st h Q ↔ GN d 60 201 ls h (pIe st fun x => ck (x = 0 ∨ x = 1) (rtn (some (.int x)))) Q := G_unf rfl rfl
theorem g60_202 : G d 60 202 ls st h Q ↔ GN d 60 202 ls h (ldR ls 0 fun a => nx 203 ls (.ref a :: st) h) Q := G_unf rfl rfl
theorem g60_203 : G d 60 203 ls st h Q ↔ GN d 60 203 ls h (nx 204 ls (.int (nI 1) :: st) h) Q := G_unf rfl rfl
theorem g60_204 : G d 60 204 ls st h Q ↔ GN d 60 204 ls h (ldI ls 2 fun x => nx 205 ls (.int x :: st) h) Q := G_unf rfl rfl
theorem g60_205 : G d 60 205 ls st h Q ↔ GN d 60 205 ls h (pA 2 st fun as r => pR r fun a r => ck (r.length ≤ 4 ∧ arr h a 5) (cll 51 (.ref a :: as) r)) Q := G_unf rfl rfl
theorem g60_208 : G d 60 208 ls st h Q ↔ GN d 60 208 ls h (pIe st fun x => ck (x = 0 ∨ x = 1) (rtn (some (.int x)))) Q := G_unf rfl rfl
theorem g61_0 : G d 61 0 ls st h Q ↔ GN d 61 0 ls h (ldR ls 0 fun a => nx 1 ls (.ref a :: st) h) Q := G_unf rfl rfl
theorem g61_1 : G d 61 1 ls st h Q ↔ GN d 61 1 ls h (pR st fun a r => ck (arr h a 5) (nx 4 ls (.int (hI h a 6) :: r) h)) Q := G_unf rfl rfl
theorem g61_4 : G d 61 4 ls st h Q ↔ GN d 61 4 ls h (pI st fun x r => br (x.toInt = 0) (nx 80 ls r h) (br (x.toInt = 1) (nx 202 ls r h) (br (x.toInt = 2) (nx 202 ls r h) (br (x.toInt = 3) (nx 98 ls r h) (br (x.toInt = 4) (nx 202 ls r h) (br (x.toInt = 5) (nx 116 ls r h) (br (x.toInt = 6) (nx 202 ls r h) (br (x.toInt = 7) (nx 202 ls r h) (br (x.toInt = 8) (nx 134 ls r h) (br (x.toInt = 9) (nx 202 ls r h) (br (x.toInt = 10) (nx 202 ls r h) (br (x.toInt = 11) (nx 202 ls r h) (br (x.toInt = 12) (nx 152 ls r h) (br (x.toInt = 13) (nx 169 ls r h) (br (x.toInt = 14) (nx 186 ls r h) (nx 202 ls r h)))))))))))))))) Q := G_unf rfl rfl
theorem g61_80 : G d 61 80 ls st h Q ↔ GN d 61 80 ls h (ldR ls 0 fun a => nx 81 ls (.ref a :: st) h) Q := G_unf rfl rfl
theorem g61_81 : G d 61 81 ls st h Q ↔ GN d 61 81 ls h (pR st fun a r => ck (arr h a 5) (nx 84 ls (rv (hR h a 5) :: r) h)) Q := G_unf rfl rfl
theorem g61_84 : G d 61 84 ls st h Q ↔ GN d 61 84 ls h (pR st fun a r => ck (arr h a 0) (nx 87 ls (.int (hI h a 3) :: r) h)) Q := G_unf rfl rfl
theorem g61_87 : G d 61 87 ls st h Q ↔ GN d 61 87 ls h (nx 89 ls (.int (nI 12) :: st) h) Q := G_unf rfl rfl
theorem g61_89 : G d 61 89 ls st h Q ↔ GN d 61 89 ls h (pII st fun x y r => br (x < y) (nx 96 ls r h) (nx 92 ls r h)) Q := G_unf rfl rfl
theorem g61_92 : G d 61 92 ls st h Q ↔ GN d 61 92 ls h (nx 93 ls (.int (nI 1) :: st) h) Q := G_unf rfl rfl
theorem g61_93 : G d 61 93 ls st h Q ↔ GN d 61 93 ls h (nx 97 ls st h) Q := G_unf rfl rfl
theorem g61_96 : G d 61 96 ls st h Q ↔ GN d 61 96 ls h (nx 97 ls (.int (nI 0) :: st) h) Q := G_unf rfl rfl
theorem g61_97 : G d 61 97 ls st h Q ↔ GN d 61 97 ls h (pIe st fun x => ck (x = 0 ∨ x = 1) (rtn (some (.int x)))) Q := G_unf rfl rfl
theorem g61_98 : G d 61 98 ls st h Q ↔ GN d 61 98 ls h (ldR ls 0 fun a => nx 99 ls (.ref a :: st) h) Q := G_unf rfl rfl
theorem g61_99 : G d 61 99 ls st h Q ↔ GN d 61 99 ls h (pR st fun a r => ck (arr h a 5) (nx 102 ls (rv (hR h a 5) :: r) h)) Q := G_unf rfl rfl
theorem g61_102 : G d 61 102 ls st h Q ↔ GN d 61 102 ls h (pR st fun a r => ck (arr h a 0) (nx 105 ls (.int (hI h a 6) :: r) h)) Q := G_unf rfl rfl
theorem g61_105 : G d 61 105 ls st h Q ↔ GN d 61 105 ls h (nx 107 ls (.int (nI 16) :: st) h) Q := G_unf rfl rfl
theorem g61_107 : G d 61 107 ls st h Q ↔ GN d 61 107 ls h (pII st fun x y r => br (x < y) (nx 114 ls r h) (nx 110 ls r h)) Q := G_unf rfl rfl
theorem g61_110 : G d 61 110 ls st h Q ↔ GN d 61 110 ls h (nx 111 ls (.int (nI 1) :: st) h) Q := G_unf rfl rfl
theorem g61_111 : G d 61 111 ls st h Q ↔ GN d 61 111 ls h (nx 115 ls st h) Q := G_unf rfl rfl
theorem g61_114 : G d 61 114 ls st h Q ↔ GN d 61 114 ls h (nx 115 ls (.int (nI 0) :: st) h) Q := G_unf rfl rfl
theorem g61_115 : G d 61 115 ls st h Q ↔ GN d 61 115 ls h (pIe st fun x => ck (x = 0 ∨ x = 1) (rtn (some (.int x)))) Q := G_unf rfl rfl
theorem g61_116 : G d 61 116 ls st h Q ↔ GN d 61 116 ls h (ldR ls 0 fun a => nx 117 ls (.ref a :: st) h) Q := G_unf rfl rfl
theorem g61_117 : G d 61 117 ls st h Q ↔ GN d 61 117 ls h (pR st fun a r => ck (arr h a 5) (nx 120 ls (rv (hR h a 5) :: r) h)) Q := G_unf rfl rfl
theorem g61_120 : G d 61 120 ls st h Q ↔ GN d 61 120 ls h (pR st fun a r => ck (arr h a 0) (nx 123 ls (.int (hI h a 10) :: r) h)) Q := G_unf rfl rfl
theorem g61_123 : G d 61 123 ls st h Q ↔ GN d 61 123 ls h (nx 125 ls (.int (nI 8) :: st) h) Q := G_unf rfl rfl
theorem g61_125 : G d 61 125 ls st h Q ↔ GN d 61 125 ls h (pII st fun x y r => br (x < y) (nx 132 ls r h) (nx 128 ls r h)) Q := G_unf rfl rfl
theorem g61_128 : G d 61 128 ls st h Q ↔ GN d 61 128 ls h (nx 129 ls (.int (nI 1) :: st) h) Q := G_unf rfl rfl
theorem g61_129 : G d 61 129 ls st h Q ↔ GN d 61 129 ls h (nx 133 ls st h) Q := G_unf rfl rfl
theorem g61_132 : G d 61 132 ls st h Q ↔ GN d 61 132 ls h (nx 133 ls (.int (nI 0) :: st) h) Q := G_unf rfl rfl
theorem g61_133 : G d 61 133 ls st h Q ↔ GN d 61 133 ls h (pIe st fun x => ck (x = 0 ∨ x = 1) (rtn (some (.int x)))) Q := G_unf rfl rfl
theorem g61_134 : G d 61 134 ls st h Q ↔ GN d 61 134 ls h (ldR ls 0 fun a => nx 135 ls (.ref a :: st) h) Q := G_unf rfl rfl
theorem g61_135 : G d 61 135 ls st h Q ↔ GN d 61 135 ls h (pR st fun a r => ck (arr h a 5) (nx 138 ls (rv (hR h a 5) :: r) h)) Q := G_unf rfl rfl
theorem g61_138 : G d 61 138 ls st h Q ↔ GN d 61 138 ls h (pR st fun a r => ck (arr h a 0) (nx 141 ls (.int (hI h a 14) :: r) h)) Q := G_unf rfl rfl
theorem g61_141 : G d 61 141 ls st h Q ↔ GN d 61 141 ls h (nx 143 ls (.int (nI 16) :: st) h) Q := G_unf rfl rfl
theorem g61_143 : G d 61 143 ls st h Q ↔ GN d 61 143 ls h (pII st fun x y r => br (x < y) (nx 150 ls r h) (nx 146 ls r h)) Q := G_unf rfl rfl
theorem g61_146 : G d 61 146 ls st h Q ↔ GN d 61 146 ls h (nx 147 ls (.int (nI 1) :: st) h) Q := G_unf rfl rfl
theorem g61_147 : G d 61 147 ls st h Q ↔ GN d 61 147 ls h (nx 151 ls st h) Q := G_unf rfl rfl
theorem g61_150 : G d 61 150 ls st h Q ↔ GN d 61 150 ls h (nx 151 ls (.int (nI 0) :: st) h) Q := G_unf rfl rfl
theorem g61_151 : G d 61 151 ls st h Q ↔ GN d 61 151 ls h (pIe st fun x => ck (x = 0 ∨ x = 1) (rtn (some (.int x)))) Q := G_unf rfl rfl
theorem g61_152 : G d 61 152 ls st h Q ↔ GN d 61 152 ls h (ldR ls 0 fun a => nx 153 ls (.ref a :: st) h) Q := G_unf rfl rfl
theorem g61_153 : G d 61 153 ls st h Q ↔ GN d 61 153 ls h (pR st fun a r => ck (arr h a 5) (nx 156 ls (rv (hR h a 5) :: r) h)) Q := G_unf rfl rfl
theorem g61_156 : G d 61 156 ls st h Q ↔ GN d 61 156 ls h (pR st fun a r => ck (arr h a 0) (nx 159 ls (rv (hR h a 18) :: r) h)) Q := G_unf rfl rfl
theorem g61_159 : G d 61 159 ls st h Q ↔ GN d 61 159 ls h (pR st fun a r => br (a = 1000000) (nx 160 ls (.int (nI 0) :: r) h) (br (a = 1000002) (nx 160 ls (.int (nI 208) :: r) h) (br (a = 1000003) (nx 160 ls (.int (nI (hS h).1) :: r) h) (ck (a < hN h ∧ 10 ≤ lay a) (nx 160 ls (.int (nI (hLn h a)) :: r) h))))) Q := G_unf rfl rfl
theorem g61_160 : G d 61 160 ls st h Q ↔ GN d 61 160 ls h (pI st fun x r => br (x ≤ 0) (nx 167 ls r h) (nx 163 ls r h)) Q := G_unf rfl rfl
theorem g61_163 : G d 61 163 ls st h Q ↔ GN d 61 163 ls h (nx 164 ls (.int (nI 1) :: st) h) Q := G_unf rfl rfl
theorem g61_164 : G d 61 164 ls st h Q ↔ GN d 61 164 ls h (nx 168 ls st h) Q := G_unf rfl rfl
theorem g61_167 : G d 61 167 ls st h Q ↔ GN d 61 167 ls h (nx 168 ls (.int (nI 0) :: st) h) Q := G_unf rfl rfl
theorem g61_168 : G d 61 168 ls st h Q ↔ GN d 61 168 ls h (pIe st fun x => ck (x = 0 ∨ x = 1) (rtn (some (.int x)))) Q := G_unf rfl rfl
theorem g61_169 : G d 61 169 ls st h Q ↔ GN d 61 169 ls h (ldR ls 0 fun a => nx 170 ls (.ref a :: st) h) Q := G_unf rfl rfl
theorem g61_170 : G d 61 170 ls st h Q ↔ GN d 61 170 ls h (pR st fun a r => ck (arr h a 5) (nx 173 ls (rv (hR h a 5) :: r) h)) Q := G_unf rfl rfl
theorem g61_173 : G d 61 173 ls st h Q ↔ GN d 61 173 ls h (pR st fun a r => ck (arr h a 0) (nx 176 ls (rv (hR h a 19) :: r) h)) Q := G_unf rfl rfl
theorem g61_176 : G d 61 176 ls st h Q ↔ GN d 61 176 ls h (pR st fun a r => br (a = 1000000) (nx 177 ls (.int (nI 0) :: r) h) (br (a = 1000002) (nx 177 ls (.int (nI 208) :: r) h) (br (a = 1000003) (nx 177 ls (.int (nI (hS h).1) :: r) h) (ck (a < hN h ∧ 10 ≤ lay a) (nx 177 ls (.int (nI (hLn h a)) :: r) h))))) Q := G_unf rfl rfl
theorem g61_177 : G d 61 177 ls st h Q ↔ GN d 61 177 ls h (pI st fun x r => br (x ≤ 0) (nx 184 ls r h) (nx 180 ls r h)) Q := G_unf rfl rfl
theorem g61_180 : G d 61 180 ls st h Q ↔ GN d 61 180 ls h (nx 181 ls (.int (nI 1) :: st) h) Q := G_unf rfl rfl
theorem g61_181 : G d 61 181 ls st h Q ↔ GN d 61 181 ls h (nx 185 ls st h) Q := G_unf rfl rfl
theorem g61_184 : G d 61 184 ls st h Q ↔ GN d 61 184 ls h (nx 185 ls (.int (nI 0) :: st) h) Q := G_unf rfl rfl
theorem g61_185 : G d 61 185 ls st h Q ↔ GN d 61 185 ls h (pIe st fun x => ck (x = 0 ∨ x = 1) (rtn (some (.int x)))) Q := G_unf rfl rfl
theorem g61_186 : G d 61 186 ls st h Q ↔ GN d 61 186 ls h (ldR ls 0 fun a => nx 187 ls (.ref a :: st) h) Q := G_unf rfl rfl
theorem g61_187 : G d 61 187 ls st h Q ↔ GN d 61 187 ls h (pR st fun a r => ck (arr h a 5) (nx 190 ls (rv (hR h a 5) :: r) h)) Q := G_unf rfl rfl
theorem g61_190 : G d 61 190 ls st h Q ↔ GN d 61 190 ls h (pR st fun a r => ck (arr h a 0) (nx 193 ls (.int (hI h a 16) :: r) h)) Q := G_unf rfl rfl
theorem g61_193 : G d 61 193 ls st h Q ↔ GN d 61 193 ls h (pI st fun x r => br (x ≤ 0) (nx 200 ls r h) (nx 196 ls r h)) Q := G_unf rfl rfl
theorem g61_196 : G d 61 196 ls st h Q ↔ GN d 61 196 ls h (nx 197 ls (.int (nI 1) :: st) h) Q := G_unf rfl rfl
theorem g61_197 : G d 61 197 ls st h Q ↔ GN d 61 197 ls h (nx 201 ls st h) Q := G_unf rfl rfl
theorem g61_200 : G d 61 200 ls st h Q ↔ GN d 61 200 ls h (nx 201 ls (.int (nI 0) :: st) h) Q := G_unf rfl rfl
theorem g61_201 : G d 61 201 ls st h Q ↔ GN d 61 201 ls h (pIe st fun x => ck (x = 0 ∨ x = 1) (rtn (some (.int x)))) Q := G_unf rfl rfl
theorem g61_202 : G d 61 202 ls st h Q ↔ GN d 61 202 ls h (nx 203 ls (.int (nI 0) :: st) h) Q := G_unf rfl rfl
theorem g61_203 : G d 61 203 ls st h Q ↔ GN d 61 203 ls h (pIe st fun x => ck (x = 0 ∨ x = 1) (rtn (some (.int x)))) Q := G_unf rfl rfl
theorem g62_0 : G d 62 0 ls st h Q ↔ GN d 62 0 ls h (ldR ls 0 fun a => nx 1 ls (.ref a :: st) h) Q := G_unf rfl rfl
theorem g62_1 : G d 62 1 ls st h Q ↔ GN d 62 1 ls h (pA 0 st fun as r => pR r fun a r => ck (r.length ≤ 4 ∧ arr h a 5) (cll 57 (.ref a :: as) r)) Q := G_unf rfl rfl
theorem g62_4 : G d 62 4 ls st h Q ↔ GN d 62 4 ls h (pI st fun x r => ck (1 < ls.length) (nx 5 (st1 ls 1 (.int x)) r h)) Q := G_unf rfl rfl
theorem g62_5 : G d 62 5 ls st h Q ↔ GN d 62 5 ls h (ldI ls 1 fun x => nx 6 ls (.int x :: st) h) Q := G_unf rfl rfl
theorem g62_6 : G d 62 6 ls st h Q ↔ GN d 62 6 ls h (nx 7 ls (.int (-1) :: st) h) Q := G_unf rfl rfl
theorem g62_7 : G d 62 7 ls st h Q ↔ GN d 62 7 ls h (pII st fun x y r => br (x = y) (nx 18 ls r h) (nx 10 ls r h)) Q := G_unf rfl rfl
theorem g62_10 : G d 62 10 ls st h Q ↔ GN d 62 10 ls h (ldR ls 0 fun a => nx 11 ls (.ref a :: st) h) Q := G_unf rfl rfl
theorem g62_11 : G d 62 11 ls st h Q ↔ GN d 62 11 ls h (nx 12 ls (.int (nI 1) :: st) h) Q := G_unf rfl rfl
theorem g62_12 : G d 62 12 ls st h Q ↔ GN d 62 12 ls h (pA 1 st fun as r => pR r fun a r => ck (r.length ≤ 4 ∧ arr h a 5) (cll 55 (.ref a :: as) r)) Q := G_unf rfl rfl
theorem g62_15 : G d 62 15 ls st h Q ↔ GN d 62 15 ls h (pI st fun x r => br (¬ x = 0) (nx 20 ls r h) (nx 18 ls r h)) Q := G_unf rfl rfl
theorem g62_18 : G d 62 18 ls st h Q ↔ GN d 62 18 ls h (nx 19 ls (.int (nI 0) :: st) h) Q := G_unf rfl rfl
theorem g62_19 : G d 62 19 ls st h Q ↔ GN d 62 19 ls h (pIe st fun x => ck (x = 0 ∨ x = 1) (rtn (some (.int x)))) Q := G_unf rfl rfl
theorem g62_20 : G d 62 20 ls st h Q ↔ GN d 62 20 ls h (ldR ls 0 fun a => nx 21 ls (.ref a :: st) h) Q := G_unf rfl rfl
theorem g62_21 : G d 62 21 ls st h Q ↔ GN d 62 21 ls h (nx 24 ls (.int (nI 999) :: st) h) Q := G_unf rfl rfl
theorem g62_24 : G d 62 24 ls st h Q ↔ GN d 62 24 ls h (pA 1 st fun as r => pR r fun a r => ck (r.length ≤ 4 ∧ arr h a 5) (cll 56 (.ref a :: as) r)) Q := G_unf rfl rfl
theorem g62_27 : G d 62 27 ls st h Q ↔ GN d 62 27 ls h (pI st fun x r => ck (2 < ls.length) (nx 28 (st1 ls 2 (.int x)) r h)) Q := G_unf rfl rfl
theorem g62_28 : G d 62 28 ls st h Q ↔ GN d 62 28 ls h (ldI ls 2 fun x => nx 29 ls (.int x :: st) h) Q := G_unf rfl rfl
theorem g62_29 : G d 62 29 ls st h Q ↔ GN d 62 29 ls h (nx 30 ls (.int (-1) :: st) h) Q := G_unf rfl rfl
theorem g62_30 : G d 62 30 ls st h Q ↔ GN d 62 30 ls h (pII st fun x y r => br (x = y) (nx 41 ls r h) (nx 33 ls r h)) Q := G_unf rfl rfl
theorem g62_33 : G d 62 33 ls st h Q ↔ GN d 62 33 ls h (ldR ls 0 fun a => nx 34 ls (.ref a :: st) h) Q := G_unf rfl rfl
theorem g62_34 : G d 62 34 ls st h Q ↔ GN d 62 34 ls h (nx 35 ls (.int (nI 2) :: st) h) Q := G_unf rfl rfl
theorem g62_35 : G d 62 35 ls st h Q ↔ GN d 62 35 ls h (pA 1 st fun as r => pR r fun a r => ck (r.length ≤ 4 ∧ arr h a 5) (cll 55 (.ref a :: as) r)) Q := G_unf rfl rfl
theorem g62_38 : G d 62 38 ls st h Q ↔ GN d 62 38 ls h (pI st fun x r => br (¬ x = 0) (nx 43 ls r h) (nx 41 ls r h)) Q := G_unf rfl rfl
theorem g62_41 : G d 62 41 ls st h Q ↔ GN d 62 41 ls h (nx 42 ls (.int (nI 0) :: st) h) Q := G_unf rfl rfl
theorem g62_42 : G d 62 42 ls st h Q ↔ GN d 62 42 ls h (pIe st fun x => ck (x = 0 ∨ x = 1) (rtn (some (.int x)))) Q := G_unf rfl rfl
theorem g62_43 : G d 62 43 ls st h Q ↔ GN d 62 43 ls h (ldR ls 0 fun a => nx 44 ls (.ref a :: st) h) Q := G_unf rfl rfl
theorem g62_44 : G d 62 44 ls st h Q ↔ GN d 62 44 ls h (nx 46 ls (.int (nI 99) :: st) h) Q := G_unf rfl rfl
theorem g62_46 : G d 62 46 ls st h Q ↔ GN d 62 46 ls h (pA 1 st fun as r => pR r fun a r => ck (r.length ≤ 4 ∧ arr h a 5) (cll 56 (.ref a :: as) r)) Q := G_unf rfl rfl
theorem g62_49 : G d 62 49 ls st h Q ↔ GN d 62 49 ls h (pI st fun x r => ck (3 < ls.length) (nx 50 (st1 ls 3 (.int x)) r h)) Q := G_unf rfl rfl
theorem g62_50 : G d 62 50 ls st h Q ↔ GN d 62 50 ls h (ldI ls 3 fun x => nx 51 ls (.int x :: st) h) Q := G_unf rfl rfl
theorem g62_51 : G d 62 51 ls st h Q ↔ GN d 62 51 ls h (nx 52 ls (.int (-1) :: st) h) Q := G_unf rfl rfl
theorem g62_52 : G d 62 52 ls st h Q ↔ GN d 62 52 ls h (pII st fun x y r => br (¬ x = y) (nx 57 ls r h) (nx 55 ls r h)) Q := G_unf rfl rfl
theorem g62_55 : G d 62 55 ls st h Q ↔ GN d 62 55 ls h (nx 56 ls (.int (nI 0) :: st) h) Q := G_unf rfl rfl
theorem g62_56 : G d 62 56 ls st h Q ↔ GN d 62 56 ls h (pIe st fun x => ck (x = 0 ∨ x = 1) (rtn (some (.int x)))) Q := G_unf rfl rfl
theorem g62_57 : G d 62 57 ls st h Q ↔ GN d 62 57 ls h (ldR ls 0 fun a => nx 58 ls (.ref a :: st) h) Q := G_unf rfl rfl
theorem g62_58 : G d 62 58 ls st h Q ↔ GN d 62 58 ls h (pR st fun a r => ck (arr h a 5) (nx 61 ls (rv (hR h a 5) :: r) h)) Q := G_unf rfl rfl
theorem g62_61 : G d 62 61 ls st h Q ↔ GN d 62 61 ls h (pR st fun a r => ck (arr h a 0) (nx 64 ls (rv (hR h a 0) :: r) h)) Q := G_unf rfl rfl
theorem g62_64 : G d 62 64 ls st h Q ↔ GN d 62 64 ls h (ldR ls 0 fun a => nx 65 ls (.ref a :: st) h) Q := G_unf rfl rfl
theorem g62_65 : G d 62 65 ls st h Q ↔ GN d 62 65 ls h (pR st fun a r => ck (arr h a 5) (nx 68 ls (rv (hR h a 5) :: r) h)) Q := G_unf rfl rfl
theorem g62_68 : G d 62 68 ls st h Q ↔ GN d 62 68 ls h (pR st fun a r => ck (arr h a 0) (nx 71 ls (.int (hI h a 3) :: r) h)) Q := G_unf rfl rfl
theorem g62_71 : G d 62 71 ls st h Q ↔ GN d 62 71 ls h (ldI ls 1 fun x => nx 72 ls (.int x :: st) h) Q := G_unf rfl rfl
theorem g62_72 : G d 62 72 ls st h Q ↔ GN d 62 72 ls h (pRII st fun a i x r => ck (arr h a 10 ∧ inb i (hLn h a)) (nx 73 ls r (sI h a i.toNatClampNeg x))) Q := G_unf rfl rfl
theorem g62_73 : G d 62 73 ls st h Q ↔ GN d 62 73 ls h (ldR ls 0 fun a => nx 74 ls (.ref a :: st) h) Q := G_unf rfl rfl
theorem g62_74 : G d 62 74 ls st h Q ↔ GN d 62 74 ls h (pR st fun a r => ck (arr h a 5) (nx 77 ls (rv (hR h a 5) :: r) h)) Q := G_unf rfl rfl
theorem g62_77 : G d 62 77 ls st h Q ↔ GN d 62 77 ls h (pR st fun a r => ck (arr h a 0) (nx 80 ls (rv (hR h a 1) :: r) h)) Q := G_unf rfl rfl
theorem g62_80 : G d 62 80 ls st h Q ↔ GN d 62 80 ls h (ldR ls 0 fun a => nx 81 ls (.ref a :: st) h) Q := G_unf rfl rfl
theorem g62_81 : G d 62 81 ls st h Q ↔ GN d 62 81 ls h (pR st fun a r => ck (arr h a 5) (nx 84 ls (rv (hR h a 5) :: r) h)) Q := G_unf rfl rfl
theorem g62_84 : G d 62 84 ls st h Q ↔ GN d 62 84 ls h (pR st fun a r => ck (arr h a 0) (nx 87 ls (.int (hI h a 3) :: r) h)) Q := G_unf rfl rfl
theorem g62_87 : G d 62 87 ls st h Q ↔ GN d 62 87 ls h (ldI ls 2 fun x => nx 88 ls (.int x :: st) h) Q := G_unf rfl rfl
theorem g62_88 : G d 62 88 ls st h Q ↔ GN d 62 88 ls h (pRII st fun a i x r => ck (arr h a 10 ∧ inb i (hLn h a)) (nx 89 ls r (sI h a i.toNatClampNeg x))) Q := G_unf rfl rfl
theorem g62_89 : G d 62 89 ls st h Q ↔ GN d 62 89 ls h (ldR ls 0 fun a => nx 90 ls (.ref a :: st) h) Q := G_unf rfl rfl
theorem g62_90 : G d 62 90 ls st h Q ↔ GN d 62 90 ls h (pR st fun a r => ck (arr h a 5) (nx 93 ls (rv (hR h a 5) :: r) h)) Q := G_unf rfl rfl
theorem g62_93 : G d 62 93 ls st h Q ↔ GN d 62 93 ls h (pR st fun a r => ck (arr h a 0) (nx 96 ls (rv (hR h a 2) :: r) h)) Q := G_unf rfl rfl
theorem g62_96 : G d 62 96 ls st h Q ↔ GN d 62 96 ls h (ldR ls 0 fun a => nx 97 ls (.ref a :: st) h) Q := G_unf rfl rfl
theorem g62_97 : G d 62 97 ls st h Q ↔ GN d 62 97 ls h (pR st fun a r => ck (arr h a 5) (nx 100 ls (rv (hR h a 5) :: r) h)) Q := G_unf rfl rfl
theorem g62_100 : G d 62 100 ls st h Q ↔ GN d 62 100 ls h (pR st fun a r => ck (arr h a 0) (nx 103 ls (.int (hI h a 3) :: r) h)) Q := G_unf rfl rfl
theorem g62_103 : G d 62 103 ls st h Q ↔ GN d 62 103 ls h (ldI ls 3 fun x => nx 104 ls (.int x :: st) h) Q := G_unf rfl rfl
theorem g62_104 : G d 62 104 ls st h Q ↔ GN d 62 104 ls h (pRII st fun a i x r => ck (arr h a 10 ∧ inb i (hLn h a)) (nx 105 ls r (sI h a i.toNatClampNeg x))) Q := G_unf rfl rfl
theorem g62_105 : G d 62 105 ls st h Q ↔ GN d 62 105 ls h (ldR ls 0 fun a => nx 106 ls (.ref a :: st) h) Q := G_unf rfl rfl
theorem g62_106 : G d 62 106 ls st h Q ↔ GN d 62 106 ls h (pR st fun a r => ck (arr h a 5) (nx 109 ls (rv (hR h a 5) :: r) h)) Q := G_unf rfl rfl
theorem g62_109 : G d 62 109 ls st h Q ↔ GN d 62 109 ls h (p1 st fun v r => nx 110 ls (v :: v :: r) h) Q := G_unf rfl rfl
theorem g62_110 : G d 62 110 ls st h Q ↔ GN d 62 110 ls h (pR st fun a r => ck (arr h a 0) (nx 113 ls (.int (hI h a 3) :: r) h)) Q := G_unf rfl rfl
theorem g62_113 : G d 62 113 ls st h Q ↔ GN d 62 113 ls h (nx 114 ls (.int (nI 1) :: st) h) Q := G_unf rfl rfl
theorem g62_114 : G d 62 114 ls st h Q ↔ GN d 62 114 ls h (pII st fun x y r => nx 115 ls (.int (x + y) :: r) h) Q := G_unf rfl rfl
theorem g62_115 : G d 62 115 ls st h Q ↔ GN d 62 115 ls h (pRI st fun a x r => ck (arr h a 0) (nx 118 ls r (sI h a 3 x))) Q := G_unf rfl rfl
theorem g62_118 : G d 62 118 ls st h Q ↔ GN d 62 118 ls h (nx 119 ls (.int (nI 1) :: st) h) Q := G_unf rfl rfl
theorem g62_119 : G d 62 119 ls st h Q ↔ GN d 62 119 ls h (pIe st fun x => ck (x = 0 ∨ x = 1) (rtn (some (.int x)))) Q := G_unf rfl rfl
theorem g63_0 : G d 63 0 ls st h Q ↔ GN d 63 0 ls h (ldR ls 0 fun a => nx 1 ls (.ref a :: st) h) Q := G_unf rfl rfl
theorem g63_1 : G d 63 1 ls st h Q ↔ GN d 63 1 ls h (ldR ls 0 fun a => nx 2 ls (.ref a :: st) h) Q := G_unf rfl rfl
theorem g63_2 : G d 63 2 ls st h Q ↔ GN d 63 2 ls h (pR st fun a r => ck (arr h a 5) (nx 5 ls (rv (hR h a 5) :: r) h)) Q := G_unf rfl rfl
theorem g63_5 : G d 63 5 ls st h Q ↔ GN d 63 5 ls h (pR st fun a r => ck (arr h a 0) (nx 8 ls (rv (hR h a 0) :: r) h)) Q := G_unf rfl rfl
theorem g63_8 : G d 63 8 ls st h Q ↔ GN d 63 8 ls h (ldR ls 0 fun a => nx 9 ls (.ref a :: st) h) Q := G_unf rfl rfl
theorem g63_9 : G d 63 9 ls st h Q ↔ GN d 63 9 ls h (pR st fun a r => ck (arr h a 5) (nx 12 ls (rv (hR h a 5) :: r) h)) Q := G_unf rfl rfl
theorem g63_12 : G d 63 12 ls st h Q ↔ GN d 63 12 ls h (pR st fun a r => ck (arr h a 0) (nx 15 ls (.int (hI h a 3) :: r) h)) Q := G_unf rfl rfl
theorem g63_15 : G d 63 15 ls st h Q ↔ GN d 63 15 ls h (nx 16 ls (.int (nI 0) :: st) h) Q := G_unf rfl rfl
theorem g63_16 : G d 63 16 ls st h Q ↔ GN d 63 16 ls h (pA 3 st fun as r => pR r fun a r => ck (r.length ≤ 4 ∧ arr h a 5) (cll 58 (.ref a :: as) r)) Q := G_unf rfl rfl
theorem g63_19 : G d 63 19 ls st h Q ↔ GN d 63 19 ls h (pI st fun x r => ck (1 < ls.length) (nx 20 (st1 ls 1 (.int x)) r h)) Q := G_unf rfl rfl
theorem g63_20 : G d 63 20 ls st h Q ↔ GN d 63 20 ls h (ldI ls 1 fun x => nx 21 ls (.int x :: st) h) Q := G_unf rfl rfl
theorem g63_21 : G d 63 21 ls st h Q ↔ GN d 63 21 ls h (nx 22 ls (.int (-1) :: st) h) Q := G_unf rfl rfl
theorem g63_22 : G d 63 22 ls st h Q ↔ GN d 63 22 ls h (pII st fun x y r => br (x = y) (nx 33 ls r h) (nx 25 ls r h)) Q := G_unf rfl rfl
theorem g63_25 : G d 63 25 ls st h Q ↔ GN d 63 25 ls h (ldR ls 0 fun a => nx 26 ls (.ref a :: st) h) Q := G_unf rfl rfl
theorem g63_26 : G d 63 26 ls st h Q ↔ GN d 63 26 ls h (nx 27 ls (.int (nI 4) :: st) h) Q := G_unf rfl rfl
theorem g63_27 : G d 63 27 ls st h Q ↔ GN d 63 27 ls h (pA 1 st fun as r => pR r fun a r => ck (r.length ≤ 4 ∧ arr h a 5) (cll 55 (.ref a :: as) r)) Q := G_unf rfl rfl
theorem g63_30 : G d 63 30 ls st h Q ↔ GN d 63 30 ls h (pI st fun x r => br (¬ x = 0) (nx 35 ls r h) (nx 33 ls r h)) Q := G_unf rfl rfl
theorem g63_33 : G d 63 33 ls st h Q ↔ GN d 63 33 ls h (nx 34 ls (.int (nI 0) :: st) h) Q := G_unf rfl rfl
theorem g63_34 : G d 63 34 ls st h Q ↔ GN d 63 34 ls h (pIe st fun x => ck (x = 0 ∨ x = 1) (rtn (some (.int x)))) Q := G_unf rfl rfl
theorem g63_35 : G d 63 35 ls st h Q ↔ GN d 63 35 ls h (nx 36 ls (.int (nI 0) :: st) h) Q := G_unf rfl rfl
theorem g63_36 : G d 63 36 ls st h Q ↔ GN d 63 36 ls h (pI st fun x r => ck (2 < ls.length) (nx 37 (st1 ls 2 (.int x)) r h)) Q := G_unf rfl rfl
theorem g63_37 : G d 63 37 ls st h Q ↔ GN d 63 37 ls h (nx 38 ls (.int (nI 0) :: st) h) Q := G_unf rfl rfl
theorem g63_38 : G d 63 38 ls st h Q ↔ GN d 63 38 ls h (pI st fun x r => ck (3 < ls.length) (nx 39 (st1 ls 3 (.int x)) r h)) Q := G_unf rfl rfl
theorem g63_39 : G d 63 39 ls st h Q ↔ GN d 63 39 ls h (ldI ls 3 fun x => nx 40 ls (.int x :: st) h) Q := G_unf rfl rfl
theorem g63_40 : G d 63 40 ls st h Q ↔ GN d 63 40 ls h (nx 42 ls (.int (nI 12) :: st) h) Q := G_unf rfl rfl
theorem g63_42 : G d 63 42 ls st h Q ↔ GN d 63 42 ls h (pII st fun x y r => br (y ≤ x) (nx 104 ls r h) (nx 45 ls r h)) Q := G_unf rfl rfl
theorem g63_45 : G d 63 45 ls st h Q ↔ GN d 63 45 ls h (ldI ls 3 fun x => nx 46 ls (.int x :: st) h) Q := G_unf rfl rfl
theorem g63_46 : G d 63 46 ls st h Q ↔ GN d 63 46 ls h (pI st fun x r => br (x = 0) (nx 58 ls r h) (nx 49 ls r h)) Q := G_unf rfl rfl
theorem g63_49 : G d 63 49 ls st h Q ↔ GN d 63 49 ls h (ldR ls 0 fun a => nx 50 ls (.ref a :: st) h) Q := G_unf rfl rfl
theorem g63_50 : G d 63 50 ls st h Q ↔ GN d 63 50 ls h (pR st fun a r => ck (arr h a 5) (nx 53 ls (.int (hI h a 6) :: r) h)) Q := G_unf rfl rfl
theorem g63_53 : G d 63 53 ls st h Q ↔ GN d 63 53 ls h (nx 55 ls (.int (nI 26) :: st) h) Q := G_unf rfl rfl
theorem g63_55 : G d 63 55 ls st h Q ↔ GN d 63 55 ls h (pII st fun x y r => br (¬ x = y) (nx 104 ls r h) (nx 58 ls r h)) Q := G_unf rfl rfl
theorem g63_58 : G d 63 58 ls st h Q ↔ GN d 63 58 ls h (ldR ls 0 fun a => nx 59 ls (.ref a :: st) h) Q := G_unf rfl rfl
theorem g63_59 : G d 63 59 ls st h Q ↔ GN d 63 59 ls h (ldR ls 0 fun a => nx 60 ls (.ref a :: st) h) Q := G_unf rfl rfl
theorem g63_60 : G d 63 60 ls st h Q ↔ GN d 63 60 ls h (pR st fun a r => ck (arr h a 5) (nx 63 ls (rv (hR h a 5) :: r) h)) Q := G_unf rfl rfl
theorem g63_63 : G d 63 63 ls st h Q ↔ GN d 63 63 ls h (pR st fun a r => ck (arr h a 0) (nx 66 ls (rv (hR h a 0) :: r) h)) Q := G_unf rfl rfl
theorem g63_66 : G d 63 66 ls st h Q ↔ GN d 63 66 ls h (ldR ls 0 fun a => nx 67 ls (.ref a :: st) h) Q := G_unf rfl rfl
theorem g63_67 : G d 63 67 ls st h Q ↔ GN d 63 67 ls h (pR st fun a r => ck (arr h a 5) (nx 70 ls (rv (hR h a 5) :: r) h)) Q := G_unf rfl rfl
theorem g63_70 : G d 63 70 ls st h Q ↔ GN d 63 70 ls h (pR st fun a r => ck (arr h a 0) (nx 73 ls (.int (hI h a 3) :: r) h)) Q := G_unf rfl rfl
theorem g63_73 : G d 63 73 ls st h Q ↔ GN d 63 73 ls h (ldI ls 2 fun x => nx 74 ls (.int x :: st) h) Q := G_unf rfl rfl
theorem g63_74 : G d 63 74 ls st h Q ↔ GN d 63 74 ls h (nx 75 ls (.int (nI 1) :: st) h) Q := G_unf rfl rfl
theorem g63_75 : G d 63 75 ls st h Q ↔ GN d 63 75 ls h (ldI ls 1 fun x => nx 76 ls (.int x :: st) h) Q := G_unf rfl rfl
theorem g63_76 : G d 63 76 ls st h Q ↔ GN d 63 76 ls h (pII st fun x y r => nx 77 ls (.int (x <<< (y &&& 31)) :: r) h) Q := G_unf rfl rfl
theorem g63_77 : G d 63 77 ls st h Q ↔ GN d 63 77 ls h (pII st fun x y r => nx 78 ls (.int (x ||| y) :: r) h) Q := G_unf rfl rfl
theorem g63_78 : G d 63 78 ls st h Q ↔ GN d 63 78 ls h (pA 3 st fun as r => pR r fun a r => ck (r.length ≤ 4 ∧ arr h a 5) (cll 58 (.ref a :: as) r)) Q := G_unf rfl rfl
theorem g63_81 : G d 63 81 ls st h Q ↔ GN d 63 81 ls h (pI st fun x r => ck (4 < ls.length) (nx 83 (st1 ls 4 (.int x)) r h)) Q := G_unf rfl rfl
theorem g63_83 : G d 63 83 ls st h Q ↔ GN d 63 83 ls h (ldI ls 4 fun x => nx 85 ls (.int x :: st) h) Q := G_unf rfl rfl
theorem g63_85 : G d 63 85 ls st h Q ↔ GN d 63 85 ls h (nx 86 ls (.int (-1) :: st) h) Q := G_unf rfl rfl
theorem g63_86 : G d 63 86 ls st h Q ↔ GN d 63 86 ls h (pII st fun x y r => br (¬ x = y) (nx 91 ls r h) (nx 89 ls r h)) Q := G_unf rfl rfl
theorem g63_89 : G d 63 89 ls st h Q ↔ GN d 63 89 ls h (nx 90 ls (.int (nI 0) :: st) h) Q := G_unf rfl rfl
theorem g63_90 : G d 63 90 ls st h Q ↔ GN d 63 90 ls h (pIe st fun x => ck (x = 0 ∨ x = 1) (rtn (some (.int x)))) Q := G_unf rfl rfl
theorem g63_91 : G d 63 91 ls st h Q ↔ GN d 63 91 ls h (ldI ls 2 fun x => nx 92 ls (.int x :: st) h) Q := G_unf rfl rfl
theorem g63_92 : G d 63 92 ls st h Q ↔ GN d 63 92 ls h (nx 93 ls (.int (nI 1) :: st) h) Q := G_unf rfl rfl
theorem g63_93 : G d 63 93 ls st h Q ↔ GN d 63 93 ls h (ldI ls 4 fun x => nx 95 ls (.int x :: st) h) Q := G_unf rfl rfl
theorem g63_95 : G d 63 95 ls st h Q ↔ GN d 63 95 ls h (pII st fun x y r => nx 96 ls (.int (x <<< (y &&& 31)) :: r) h) Q := G_unf rfl rfl
theorem g63_96 : G d 63 96 ls st h Q ↔ GN d 63 96 ls h (pII st fun x y r => nx 97 ls (.int (x ||| y) :: r) h) Q := G_unf rfl rfl
theorem g63_97 : G d 63 97 ls st h Q ↔ GN d 63 97 ls h (pI st fun x r => ck (2 < ls.length) (nx 98 (st1 ls 2 (.int x)) r h)) Q := G_unf rfl rfl
theorem g63_98 : G d 63 98 ls st h Q ↔ GN d 63 98 ls h (ldI ls 3 fun x => nx 101 (st1 ls 3 (.int (x + (nI 1)))) st h) Q := G_unf rfl rfl
theorem g63_101 : G d 63 101 ls st h Q ↔ GN d 63 101 ls h (nx 39 ls st h) Q := G_unf rfl rfl
theorem g63_104 : G d 63 104 ls st h Q ↔ GN d 63 104 ls h (ldR ls 0 fun a => nx 105 ls (.ref a :: st) h) Q := G_unf rfl rfl
theorem g63_105 : G d 63 105 ls st h Q ↔ GN d 63 105 ls h (pR st fun a r => ck (arr h a 5) (nx 108 ls (rv (hR h a 5) :: r) h)) Q := G_unf rfl rfl
theorem g63_108 : G d 63 108 ls st h Q ↔ GN d 63 108 ls h (pR st fun a r => ck (arr h a 0) (nx 111 ls (rv (hR h a 4) :: r) h)) Q := G_unf rfl rfl
theorem g63_111 : G d 63 111 ls st h Q ↔ GN d 63 111 ls h (ldR ls 0 fun a => nx 112 ls (.ref a :: st) h) Q := G_unf rfl rfl
theorem g63_112 : G d 63 112 ls st h Q ↔ GN d 63 112 ls h (pR st fun a r => ck (arr h a 5) (nx 115 ls (rv (hR h a 5) :: r) h)) Q := G_unf rfl rfl
theorem g63_115 : G d 63 115 ls st h Q ↔ GN d 63 115 ls h (pR st fun a r => ck (arr h a 0) (nx 118 ls (.int (hI h a 6) :: r) h)) Q := G_unf rfl rfl
theorem g63_118 : G d 63 118 ls st h Q ↔ GN d 63 118 ls h (ldI ls 1 fun x => nx 119 ls (.int x :: st) h) Q := G_unf rfl rfl
theorem g63_119 : G d 63 119 ls st h Q ↔ GN d 63 119 ls h (pRII st fun a i x r => ck (arr h a 10 ∧ inb i (hLn h a)) (nx 120 ls r (sI h a i.toNatClampNeg x))) Q := G_unf rfl rfl
theorem g63_120 : G d 63 120 ls st h Q ↔ GN d 63 120 ls h (ldR ls 0 fun a => nx 121 ls (.ref a :: st) h) Q := G_unf rfl rfl
theorem g63_121 : G d 63 121 ls st h Q ↔ GN d 63 121 ls h (pR st fun a r => ck (arr h a 5) (nx 124 ls (rv (hR h a 5) :: r) h)) Q := G_unf rfl rfl
theorem g63_124 : G d 63 124 ls st h Q ↔ GN d 63 124 ls h (pR st fun a r => ck (arr h a 0) (nx 127 ls (rv (hR h a 5) :: r) h)) Q := G_unf rfl rfl
theorem g63_127 : G d 63 127 ls st h Q ↔ GN d 63 127 ls h (ldR ls 0 fun a => nx 128 ls (.ref a :: st) h) Q := G_unf rfl rfl
theorem g63_128 : G d 63 128 ls st h Q ↔ GN d 63 128 ls h (pR st fun a r => ck (arr h a 5) (nx 131 ls (rv (hR h a 5) :: r) h)) Q := G_unf rfl rfl
theorem g63_131 : G d 63 131 ls st h Q ↔ GN d 63 131 ls h (pR st fun a r => ck (arr h a 0) (nx 134 ls (.int (hI h a 6) :: r) h)) Q := G_unf rfl rfl
theorem g63_134 : G d 63 134 ls st h Q ↔ GN d 63 134 ls h (ldI ls 2 fun x => nx 135 ls (.int x :: st) h) Q := G_unf rfl rfl
theorem g63_135 : G d 63 135 ls st h Q ↔ GN d 63 135 ls h (pRII st fun a i x r => ck (arr h a 10 ∧ inb i (hLn h a)) (nx 136 ls r (sI h a i.toNatClampNeg x))) Q := G_unf rfl rfl
theorem g63_136 : G d 63 136 ls st h Q ↔ GN d 63 136 ls h (ldR ls 0 fun a => nx 137 ls (.ref a :: st) h) Q := G_unf rfl rfl
theorem g63_137 : G d 63 137 ls st h Q ↔ GN d 63 137 ls h (pR st fun a r => ck (arr h a 5) (nx 140 ls (rv (hR h a 5) :: r) h)) Q := G_unf rfl rfl
theorem g63_140 : G d 63 140 ls st h Q ↔ GN d 63 140 ls h (p1 st fun v r => nx 141 ls (v :: v :: r) h) Q := G_unf rfl rfl
theorem g63_141 : G d 63 141 ls st h Q ↔ GN d 63 141 ls h (pR st fun a r => ck (arr h a 0) (nx 144 ls (.int (hI h a 6) :: r) h)) Q := G_unf rfl rfl
theorem g63_144 : G d 63 144 ls st h Q ↔ GN d 63 144 ls h (nx 145 ls (.int (nI 1) :: st) h) Q := G_unf rfl rfl
theorem g63_145 : G d 63 145 ls st h Q ↔ GN d 63 145 ls h (pII st fun x y r => nx 146 ls (.int (x + y) :: r) h) Q := G_unf rfl rfl
theorem g63_146 : G d 63 146 ls st h Q ↔ GN d 63 146 ls h (pRI st fun a x r => ck (arr h a 0) (nx 149 ls r (sI h a 6 x))) Q := G_unf rfl rfl
theorem g63_149 : G d 63 149 ls st h Q ↔ GN d 63 149 ls h (nx 150 ls (.int (nI 1) :: st) h) Q := G_unf rfl rfl
theorem g63_150 : G d 63 150 ls st h Q ↔ GN d 63 150 ls h (pIe st fun x => ck (x = 0 ∨ x = 1) (rtn (some (.int x)))) Q := G_unf rfl rfl
theorem g64_0 : G d 64 0 ls st h Q ↔ GN d 64 0 ls h (ldR ls 0 fun a => nx 1 ls (.ref a :: st) h) Q := G_unf rfl rfl
theorem g64_1 : G d 64 1 ls st h Q ↔ GN d 64 1 ls h (pA 0 st fun as r => pR r fun a r => ck (r.length ≤ 4 ∧ arr h a 5) (cll 57 (.ref a :: as) r)) Q := G_unf rfl rfl
theorem g64_4 : G d 64 4 ls st h Q ↔ GN d 64 4 ls h (pI st fun x r => ck (1 < ls.length) (nx 5 (st1 ls 1 (.int x)) r h)) Q := G_unf rfl rfl
theorem g64_5 : G d 64 5 ls st h Q ↔ GN d 64 5 ls h (ldI ls 1 fun x => nx 6 ls (.int x :: st) h) Q := G_unf rfl rfl
theorem g64_6 : G d 64 6 ls st h Q ↔ GN d 64 6 ls h (nx 7 ls (.int (-1) :: st) h) Q := G_unf rfl rfl
theorem g64_7 : G d 64 7 ls st h Q ↔ GN d 64 7 ls h (pII st fun x y r => br (x = y) (nx 19 ls r h) (nx 10 ls r h)) Q := G_unf rfl rfl
theorem g64_10 : G d 64 10 ls st h Q ↔ GN d 64 10 ls h (ldR ls 0 fun a => nx 11 ls (.ref a :: st) h) Q := G_unf rfl rfl
theorem g64_11 : G d 64 11 ls st h Q ↔ GN d 64 11 ls h (nx 13 ls (.int (nI 6) :: st) h) Q := G_unf rfl rfl
theorem g64_13 : G d 64 13 ls st h Q ↔ GN d 64 13 ls h (pA 1 st fun as r => pR r fun a r => ck (r.length ≤ 4 ∧ arr h a 5) (cll 55 (.ref a :: as) r)) Q := G_unf rfl rfl
theorem g64_16 : G d 64 16 ls st h Q ↔ GN d 64 16 ls h (pI st fun x r => br (¬ x = 0) (nx 21 ls r h) (nx 19 ls r h)) Q := G_unf rfl rfl
theorem g64_19 : G d 64 19 ls st h Q ↔ GN d 64 19 ls h (nx 20 ls (.int (nI 0) :: st) h) Q := G_unf rfl rfl
theorem g64_20 : G d 64 20 ls st h Q ↔ GN d 64 20 ls h (pIe st fun x => ck (x = 0 ∨ x = 1) (rtn (some (.int x)))) Q := G_unf rfl rfl
theorem g64_21 : G d 64 21 ls st h Q ↔ GN d 64 21 ls h (ldR ls 0 fun a => nx 22 ls (.ref a :: st) h) Q := G_unf rfl rfl
theorem g64_22 : G d 64 22 ls st h Q ↔ GN d 64 22 ls h (nx 24 ls (.int (nI 9) :: st) h) Q := G_unf rfl rfl
theorem g64_24 : G d 64 24 ls st h Q ↔ GN d 64 24 ls h (pA 1 st fun as r => pR r fun a r => ck (r.length ≤ 4 ∧ arr h a 5) (cll 56 (.ref a :: as) r)) Q := G_unf rfl rfl
theorem g64_27 : G d 64 27 ls st h Q ↔ GN d 64 27 ls h (pI st fun x r => ck (2 < ls.length) (nx 28 (st1 ls 2 (.int x)) r h)) Q := G_unf rfl rfl
theorem g64_28 : G d 64 28 ls st h Q ↔ GN d 64 28 ls h (ldI ls 2 fun x => nx 29 ls (.int x :: st) h) Q := G_unf rfl rfl
theorem g64_29 : G d 64 29 ls st h Q ↔ GN d 64 29 ls h (nx 30 ls (.int (-1) :: st) h) Q := G_unf rfl rfl
theorem g64_30 : G d 64 30 ls st h Q ↔ GN d 64 30 ls h (pII st fun x y r => br (x = y) (nx 42 ls r h) (nx 33 ls r h)) Q := G_unf rfl rfl
theorem g64_33 : G d 64 33 ls st h Q ↔ GN d 64 33 ls h (ldR ls 0 fun a => nx 34 ls (.ref a :: st) h) Q := G_unf rfl rfl
theorem g64_34 : G d 64 34 ls st h Q ↔ GN d 64 34 ls h (nx 36 ls (.int (nI 7) :: st) h) Q := G_unf rfl rfl
theorem g64_36 : G d 64 36 ls st h Q ↔ GN d 64 36 ls h (pA 1 st fun as r => pR r fun a r => ck (r.length ≤ 4 ∧ arr h a 5) (cll 55 (.ref a :: as) r)) Q := G_unf rfl rfl
theorem g64_39 : G d 64 39 ls st h Q ↔ GN d 64 39 ls h (pI st fun x r => br (¬ x = 0) (nx 44 ls r h) (nx 42 ls r h)) Q := G_unf rfl rfl
theorem g64_42 : G d 64 42 ls st h Q ↔ GN d 64 42 ls h (nx 43 ls (.int (nI 0) :: st) h) Q := G_unf rfl rfl
theorem g64_43 : G d 64 43 ls st h Q ↔ GN d 64 43 ls h (pIe st fun x => ck (x = 0 ∨ x = 1) (rtn (some (.int x)))) Q := G_unf rfl rfl
theorem g64_44 : G d 64 44 ls st h Q ↔ GN d 64 44 ls h (ldR ls 0 fun a => nx 45 ls (.ref a :: st) h) Q := G_unf rfl rfl
theorem g64_45 : G d 64 45 ls st h Q ↔ GN d 64 45 ls h (nx 48 ls (.int (nI 999) :: st) h) Q := G_unf rfl rfl
theorem g64_48 : G d 64 48 ls st h Q ↔ GN d 64 48 ls h (pA 1 st fun as r => pR r fun a r => ck (r.length ≤ 4 ∧ arr h a 5) (cll 56 (.ref a :: as) r)) Q := G_unf rfl rfl
theorem g64_51 : G d 64 51 ls st h Q ↔ GN d 64 51 ls h (pI st fun x r => ck (3 < ls.length) (nx 52 (st1 ls 3 (.int x)) r h)) Q := G_unf rfl rfl
theorem g64_52 : G d 64 52 ls st h Q ↔ GN d 64 52 ls h (ldI ls 3 fun x => nx 53 ls (.int x :: st) h) Q := G_unf rfl rfl
theorem g64_53 : G d 64 53 ls st h Q ↔ GN d 64 53 ls h (nx 54 ls (.int (-1) :: st) h) Q := G_unf rfl rfl
theorem g64_54 : G d 64 54 ls st h Q ↔ GN d 64 54 ls h (pII st fun x y r => br (¬ x = y) (nx 59 ls r h) (nx 57 ls r h)) Q := G_unf rfl rfl
theorem g64_57 : G d 64 57 ls st h Q ↔ GN d 64 57 ls h (nx 58 ls (.int (nI 0) :: st) h) Q := G_unf rfl rfl
theorem g64_58 : G d 64 58 ls st h Q ↔ GN d 64 58 ls h (pIe st fun x => ck (x = 0 ∨ x = 1) (rtn (some (.int x)))) Q := G_unf rfl rfl
theorem g64_59 : G d 64 59 ls st h Q ↔ GN d 64 59 ls h (ldR ls 0 fun a => nx 60 ls (.ref a :: st) h) Q := G_unf rfl rfl
theorem g64_60 : G d 64 60 ls st h Q ↔ GN d 64 60 ls h (pR st fun a r => ck (arr h a 5) (nx 63 ls (rv (hR h a 5) :: r) h)) Q := G_unf rfl rfl
theorem g64_63 : G d 64 63 ls st h Q ↔ GN d 64 63 ls h (pR st fun a r => ck (arr h a 0) (nx 66 ls (rv (hR h a 7) :: r) h)) Q := G_unf rfl rfl
theorem g64_66 : G d 64 66 ls st h Q ↔ GN d 64 66 ls h (ldR ls 0 fun a => nx 67 ls (.ref a :: st) h) Q := G_unf rfl rfl
theorem g64_67 : G d 64 67 ls st h Q ↔ GN d 64 67 ls h (pR st fun a r => ck (arr h a 5) (nx 70 ls (rv (hR h a 5) :: r) h)) Q := G_unf rfl rfl
theorem g64_70 : G d 64 70 ls st h Q ↔ GN d 64 70 ls h (pR st fun a r => ck (arr h a 0) (nx 73 ls (.int (hI h a 10) :: r) h)) Q := G_unf rfl rfl
theorem g64_73 : G d 64 73 ls st h Q ↔ GN d 64 73 ls h (ldI ls 1 fun x => nx 74 ls (.int x :: st) h) Q := G_unf rfl rfl
theorem g64_74 : G d 64 74 ls st h Q ↔ GN d 64 74 ls h (pRII st fun a i x r => ck (arr h a 10 ∧ inb i (hLn h a)) (nx 75 ls r (sI h a i.toNatClampNeg x))) Q := G_unf rfl rfl
theorem g64_75 : G d 64 75 ls st h Q ↔ GN d 64 75 ls h (ldR ls 0 fun a => nx 76 ls (.ref a :: st) h) Q := G_unf rfl rfl
theorem g64_76 : G d 64 76 ls st h Q ↔ GN d 64 76 ls h (pR st fun a r => ck (arr h a 5) (nx 79 ls (rv (hR h a 5) :: r) h)) Q := G_unf rfl rfl
theorem g64_79 : G d 64 79 ls st h Q ↔ GN d 64 79 ls h (pR st fun a r => ck (arr h a 0) (nx 82 ls (rv (hR h a 8) :: r) h)) Q := G_unf rfl rfl
theorem g64_82 : G d 64 82 ls st h Q ↔ GN d 64 82 ls h (ldR ls 0 fun a => nx 83 ls (.ref a :: st) h) Q := G_unf rfl rfl
theorem g64_83 : G d 64 83 ls st h Q ↔ GN d 64 83 ls h (pR st fun a r => ck (arr h a 5) (nx 86 ls (rv (hR h a 5) :: r) h)) Q := G_unf rfl rfl
theorem g64_86 : G d 64 86 ls st h Q ↔ GN d 64 86 ls h (pR st fun a r => ck (arr h a 0) (nx 89 ls (.int (hI h a 10) :: r) h)) Q := G_unf rfl rfl
theorem g64_89 : G d 64 89 ls st h Q ↔ GN d 64 89 ls h (ldI ls 2 fun x => nx 90 ls (.int x :: st) h) Q := G_unf rfl rfl
theorem g64_90 : G d 64 90 ls st h Q ↔ GN d 64 90 ls h (pRII st fun a i x r => ck (arr h a 10 ∧ inb i (hLn h a)) (nx 91 ls r (sI h a i.toNatClampNeg x))) Q := G_unf rfl rfl
theorem g64_91 : G d 64 91 ls st h Q ↔ GN d 64 91 ls h (ldR ls 0 fun a => nx 92 ls (.ref a :: st) h) Q := G_unf rfl rfl
theorem g64_92 : G d 64 92 ls st h Q ↔ GN d 64 92 ls h (pR st fun a r => ck (arr h a 5) (nx 95 ls (rv (hR h a 5) :: r) h)) Q := G_unf rfl rfl
theorem g64_95 : G d 64 95 ls st h Q ↔ GN d 64 95 ls h (pR st fun a r => ck (arr h a 0) (nx 98 ls (rv (hR h a 9) :: r) h)) Q := G_unf rfl rfl
theorem g64_98 : G d 64 98 ls st h Q ↔ GN d 64 98 ls h (ldR ls 0 fun a => nx 99 ls (.ref a :: st) h) Q := G_unf rfl rfl
theorem g64_99 : G d 64 99 ls st h Q ↔ GN d 64 99 ls h (pR st fun a r => ck (arr h a 5) (nx 102 ls (rv (hR h a 5) :: r) h)) Q := G_unf rfl rfl
theorem g64_102 : G d 64 102 ls st h Q ↔ GN d 64 102 ls h (pR st fun a r => ck (arr h a 0) (nx 105 ls (.int (hI h a 10) :: r) h)) Q := G_unf rfl rfl
theorem g64_105 : G d 64 105 ls st h Q ↔ GN d 64 105 ls h (ldI ls 3 fun x => nx 106 ls (.int x :: st) h) Q := G_unf rfl rfl
theorem g64_106 : G d 64 106 ls st h Q ↔ GN d 64 106 ls h (pRII st fun a i x r => ck (arr h a 10 ∧ inb i (hLn h a)) (nx 107 ls r (sI h a i.toNatClampNeg x))) Q := G_unf rfl rfl
theorem g64_107 : G d 64 107 ls st h Q ↔ GN d 64 107 ls h (ldR ls 0 fun a => nx 108 ls (.ref a :: st) h) Q := G_unf rfl rfl
theorem g64_108 : G d 64 108 ls st h Q ↔ GN d 64 108 ls h (pR st fun a r => ck (arr h a 5) (nx 111 ls (rv (hR h a 5) :: r) h)) Q := G_unf rfl rfl
theorem g64_111 : G d 64 111 ls st h Q ↔ GN d 64 111 ls h (p1 st fun v r => nx 112 ls (v :: v :: r) h) Q := G_unf rfl rfl
theorem g64_112 : G d 64 112 ls st h Q ↔ GN d 64 112 ls h (pR st fun a r => ck (arr h a 0) (nx 115 ls (.int (hI h a 10) :: r) h)) Q := G_unf rfl rfl
theorem g64_115 : G d 64 115 ls st h Q ↔ GN d 64 115 ls h (nx 116 ls (.int (nI 1) :: st) h) Q := G_unf rfl rfl
theorem g64_116 : G d 64 116 ls st h Q ↔ GN d 64 116 ls h (pII st fun x y r => nx 117 ls (.int (x + y) :: r) h) Q := G_unf rfl rfl
theorem g64_117 : G d 64 117 ls st h Q ↔ GN d 64 117 ls h (pRI st fun a x r => ck (arr h a 0) (nx 120 ls r (sI h a 10 x))) Q := G_unf rfl rfl
theorem g64_120 : G d 64 120 ls st h Q ↔ GN d 64 120 ls h (nx 121 ls (.int (nI 1) :: st) h) Q := G_unf rfl rfl
theorem g64_121 : G d 64 121 ls st h Q ↔ GN d 64 121 ls h (pIe st fun x => ck (x = 0 ∨ x = 1) (rtn (some (.int x)))) Q := G_unf rfl rfl
theorem g65_0 : G d 65 0 ls st h Q ↔ GN d 65 0 ls h (ldR ls 0 fun a => nx 1 ls (.ref a :: st) h) Q := G_unf rfl rfl
theorem g65_1 : G d 65 1 ls st h Q ↔ GN d 65 1 ls h (ldR ls 0 fun a => nx 2 ls (.ref a :: st) h) Q := G_unf rfl rfl
theorem g65_2 : G d 65 2 ls st h Q ↔ GN d 65 2 ls h (pR st fun a r => ck (arr h a 5) (nx 5 ls (rv (hR h a 5) :: r) h)) Q := G_unf rfl rfl
theorem g65_5 : G d 65 5 ls st h Q ↔ GN d 65 5 ls h (pR st fun a r => ck (arr h a 0) (nx 8 ls (rv (hR h a 7) :: r) h)) Q := G_unf rfl rfl
theorem g65_8 : G d 65 8 ls st h Q ↔ GN d 65 8 ls h (ldR ls 0 fun a => nx 9 ls (.ref a :: st) h) Q := G_unf rfl rfl
theorem g65_9 : G d 65 9 ls st h Q ↔ GN d 65 9 ls h (pR st fun a r => ck (arr h a 5) (nx 12 ls (rv (hR h a 5) :: r) h)) Q := G_unf rfl rfl
theorem g65_12 : G d 65 12 ls st h Q ↔ GN d 65 12 ls h (pR st fun a r => ck (arr h a 0) (nx 15 ls (.int (hI h a 10) :: r) h)) Q := G_unf rfl rfl
theorem g65_15 : G d 65 15 ls st h Q ↔ GN d 65 15 ls h (nx 16 ls (.int (nI 0) :: st) h) Q := G_unf rfl rfl
theorem g65_16 : G d 65 16 ls st h Q ↔ GN d 65 16 ls h (pA 3 st fun as r => pR r fun a r => ck (r.length ≤ 4 ∧ arr h a 5) (cll 58 (.ref a :: as) r)) Q := G_unf rfl rfl
theorem g65_19 : G d 65 19 ls st h Q ↔ GN d 65 19 ls h (pI st fun x r => ck (1 < ls.length) (nx 20 (st1 ls 1 (.int x)) r h)) Q := G_unf rfl rfl
theorem g65_20 : G d 65 20 ls st h Q ↔ GN d 65 20 ls h (ldI ls 1 fun x => nx 21 ls (.int x :: st) h) Q := G_unf rfl rfl
theorem g65_21 : G d 65 21 ls st h Q ↔ GN d 65 21 ls h (nx 22 ls (.int (-1) :: st) h) Q := G_unf rfl rfl
theorem g65_22 : G d 65 22 ls st h Q ↔ GN d 65 22 ls h (pII st fun x y r => br (¬ x = y) (nx 27 ls r h) (nx 25 ls r h)) Q := G_unf rfl rfl
theorem g65_25 : G d 65 25 ls st h Q ↔ GN d 65 25 ls h (nx 26 ls (.int (nI 0) :: st) h) Q := G_unf rfl rfl
theorem g65_26 : G d 65 26 ls st h Q ↔ GN d 65 26 ls h (pIe st fun x => ck (x = 0 ∨ x = 1) (rtn (some (.int x)))) Q := G_unf rfl rfl
theorem g65_27 : G d 65 27 ls st h Q ↔ GN d 65 27 ls h (ldR ls 0 fun a => nx 28 ls (.ref a :: st) h) Q := G_unf rfl rfl
theorem g65_28 : G d 65 28 ls st h Q ↔ GN d 65 28 ls h (ldR ls 0 fun a => nx 29 ls (.ref a :: st) h) Q := G_unf rfl rfl
theorem g65_29 : G d 65 29 ls st h Q ↔ GN d 65 29 ls h (pR st fun a r => ck (arr h a 5) (nx 32 ls (rv (hR h a 5) :: r) h)) Q := G_unf rfl rfl
theorem g65_32 : G d 65 32 ls st h Q ↔ GN d 65 32 ls h (pR st fun a r => ck (arr h a 0) (nx 35 ls (rv (hR h a 7) :: r) h)) Q := G_unf rfl rfl
theorem g65_35 : G d 65 35 ls st h Q ↔ GN d 65 35 ls h (ldR ls 0 fun a => nx 36 ls (.ref a :: st) h) Q := G_unf rfl rfl
theorem g65_36 : G d 65 36 ls st h Q ↔ GN d 65 36 ls h (pR st fun a r => ck (arr h a 5) (nx 39 ls (rv (hR h a 5) :: r) h)) Q := G_unf rfl rfl
theorem g65_39 : G d 65 39 ls st h Q ↔ GN d 65 39 ls h (pR st fun a r => ck (arr h a 0) (nx 42 ls (.int (hI h a 10) :: r) h)) Q := G_unf rfl rfl
theorem g65_42 : G d 65 42 ls st h Q ↔ GN d 65 42 ls h (nx 43 ls (.int (nI 1) :: st) h) Q := G_unf rfl rfl
theorem g65_43 : G d 65 43 ls st h Q ↔ GN d 65 43 ls h (ldI ls 1 fun x => nx 44 ls (.int x :: st) h) Q := G_unf rfl rfl
theorem g65_44 : G d 65 44 ls st h Q ↔ GN d 65 44 ls h (pII st fun x y r => nx 45 ls (.int (x <<< (y &&& 31)) :: r) h) Q := G_unf rfl rfl
theorem g65_45 : G d 65 45 ls st h Q ↔ GN d 65 45 ls h (pA 3 st fun as r => pR r fun a r => ck (r.length ≤ 4 ∧ arr h a 5) (cll 58 (.ref a :: as) r)) Q := G_unf rfl rfl
theorem g65_48 : G d 65 48 ls st h Q ↔ GN d 65 48 ls h (pI st fun x r => ck (2 < ls.length) (nx 49 (st1 ls 2 (.int x)) r h)) Q := G_unf rfl rfl
theorem g65_49 : G d 65 49 ls st h Q ↔ GN d 65 49 ls h (ldI ls 2 fun x => nx 50 ls (.int x :: st) h) Q := G_unf rfl rfl
theorem g65_50 : G d 65 50 ls st h Q ↔ GN d 65 50 ls h (nx 51 ls (.int (-1) :: st) h) Q := G_unf rfl rfl
theorem g65_51 : G d 65 51 ls st h Q ↔ GN d 65 51 ls h (pII st fun x y r => br (x = y) (nx 63 ls r h) (nx 54 ls r h)) Q := G_unf rfl rfl
theorem g65_54 : G d 65 54 ls st h Q ↔ GN d 65 54 ls h (ldR ls 0 fun a => nx 55 ls (.ref a :: st) h) Q := G_unf rfl rfl
theorem g65_55 : G d 65 55 ls st h Q ↔ GN d 65 55 ls h (nx 57 ls (.int (nI 9) :: st) h) Q := G_unf rfl rfl
theorem g65_57 : G d 65 57 ls st h Q ↔ GN d 65 57 ls h (pA 1 st fun as r => pR r fun a r => ck (r.length ≤ 4 ∧ arr h a 5) (cll 55 (.ref a :: as) r)) Q := G_unf rfl rfl
theorem g65_60 : G d 65 60 ls st h Q ↔ GN d 65 60 ls h (pI st fun x r => br (¬ x = 0) (nx 65 ls r h) (nx 63 ls r h)) Q := G_unf rfl rfl
theorem g65_63 : G d 65 63 ls st h Q ↔ GN d 65 63 ls h (nx 64 ls (.int (nI 0) :: st) h) Q := G_unf rfl rfl
theorem g65_64 : G d 65 64 ls st h Q ↔ GN d 65 64 ls h (pIe st fun x => ck (x = 0 ∨ x = 1) (rtn (some (.int x)))) Q := G_unf rfl rfl
theorem g65_65 : G d 65 65 ls st h Q ↔ GN d 65 65 ls h (ldR ls 0 fun a => nx 66 ls (.ref a :: st) h) Q := G_unf rfl rfl
theorem g65_66 : G d 65 66 ls st h Q ↔ GN d 65 66 ls h (nx 68 ls (.int (nI 6) :: st) h) Q := G_unf rfl rfl
theorem g65_68 : G d 65 68 ls st h Q ↔ GN d 65 68 ls h (pA 1 st fun as r => pR r fun a r => ck (r.length ≤ 4 ∧ arr h a 5) (cll 56 (.ref a :: as) r)) Q := G_unf rfl rfl
theorem g65_71 : G d 65 71 ls st h Q ↔ GN d 65 71 ls h (pI st fun x r => ck (3 < ls.length) (nx 72 (st1 ls 3 (.int x)) r h)) Q := G_unf rfl rfl
theorem g65_72 : G d 65 72 ls st h Q ↔ GN d 65 72 ls h (ldI ls 3 fun x => nx 73 ls (.int x :: st) h) Q := G_unf rfl rfl
theorem g65_73 : G d 65 73 ls st h Q ↔ GN d 65 73 ls h (nx 74 ls (.int (-1) :: st) h) Q := G_unf rfl rfl
theorem g65_74 : G d 65 74 ls st h Q ↔ GN d 65 74 ls h (pII st fun x y r => br (¬ x = y) (nx 79 ls r h) (nx 77 ls r h)) Q := G_unf rfl rfl
theorem g65_77 : G d 65 77 ls st h Q ↔ GN d 65 77 ls h (nx 78 ls (.int (nI 0) :: st) h) Q := G_unf rfl rfl
theorem g65_78 : G d 65 78 ls st h Q ↔ GN d 65 78 ls h (pIe st fun x => ck (x = 0 ∨ x = 1) (rtn (some (.int x)))) Q := G_unf rfl rfl
theorem g65_79 : G d 65 79 ls st h Q ↔ GN d 65 79 ls h (ldR ls 0 fun a => nx 80 ls (.ref a :: st) h) Q := G_unf rfl rfl
theorem g65_80 : G d 65 80 ls st h Q ↔ GN d 65 80 ls h (pR st fun a r => ck (arr h a 5) (nx 83 ls (rv (hR h a 5) :: r) h)) Q := G_unf rfl rfl
theorem g65_83 : G d 65 83 ls st h Q ↔ GN d 65 83 ls h (pR st fun a r => ck (arr h a 0) (nx 86 ls (rv (hR h a 11) :: r) h)) Q := G_unf rfl rfl
theorem g65_86 : G d 65 86 ls st h Q ↔ GN d 65 86 ls h (ldR ls 0 fun a => nx 87 ls (.ref a :: st) h) Q := G_unf rfl rfl
theorem g65_87 : G d 65 87 ls st h Q ↔ GN d 65 87 ls h (pR st fun a r => ck (arr h a 5) (nx 90 ls (rv (hR h a 5) :: r) h)) Q := G_unf rfl rfl
theorem g65_90 : G d 65 90 ls st h Q ↔ GN d 65 90 ls h (pR st fun a r => ck (arr h a 0) (nx 93 ls (.int (hI h a 14) :: r) h)) Q := G_unf rfl rfl
theorem g65_93 : G d 65 93 ls st h Q ↔ GN d 65 93 ls h (ldI ls 1 fun x => nx 94 ls (.int x :: st) h) Q := G_unf rfl rfl
theorem g65_94 : G d 65 94 ls st h Q ↔ GN d 65 94 ls h (pRII st fun a i x r => ck (arr h a 10 ∧ inb i (hLn h a)) (nx 95 ls r (sI h a i.toNatClampNeg x))) Q := G_unf rfl rfl
theorem g65_95 : G d 65 95 ls st h Q ↔ GN d 65 95 ls h (ldR ls 0 fun a => nx 96 ls (.ref a :: st) h) Q := G_unf rfl rfl
theorem g65_96 : G d 65 96 ls st h Q ↔ GN d 65 96 ls h (pR st fun a r => ck (arr h a 5) (nx 99 ls (rv (hR h a 5) :: r) h)) Q := G_unf rfl rfl
theorem g65_99 : G d 65 99 ls st h Q ↔ GN d 65 99 ls h (pR st fun a r => ck (arr h a 0) (nx 102 ls (rv (hR h a 12) :: r) h)) Q := G_unf rfl rfl
theorem g65_102 : G d 65 102 ls st h Q ↔ GN d 65 102 ls h (ldR ls 0 fun a => nx 103 ls (.ref a :: st) h) Q := G_unf rfl rfl
theorem g65_103 : G d 65 103 ls st h Q ↔ GN d 65 103 ls h (pR st fun a r => ck (arr h a 5) (nx 106 ls (rv (hR h a 5) :: r) h)) Q := G_unf rfl rfl
theorem g65_106 : G d 65 106 ls st h Q ↔ GN d 65 106 ls h (pR st fun a r => ck (arr h a 0) (nx 109 ls (.int (hI h a 14) :: r) h)) Q := G_unf rfl rfl
theorem g65_109 : G d 65 109 ls st h Q ↔ GN d 65 109 ls h (ldI ls 2 fun x => nx 110 ls (.int x :: st) h) Q := G_unf rfl rfl
theorem g65_110 : G d 65 110 ls st h Q ↔ GN d 65 110 ls h (pRII st fun a i x r => ck (arr h a 10 ∧ inb i (hLn h a)) (nx 111 ls r (sI h a i.toNatClampNeg x))) Q := G_unf rfl rfl
theorem g65_111 : G d 65 111 ls st h Q ↔ GN d 65 111 ls h (ldR ls 0 fun a => nx 112 ls (.ref a :: st) h) Q := G_unf rfl rfl
theorem g65_112 : G d 65 112 ls st h Q ↔ GN d 65 112 ls h (pR st fun a r => ck (arr h a 5) (nx 115 ls (rv (hR h a 5) :: r) h)) Q := G_unf rfl rfl
theorem g65_115 : G d 65 115 ls st h Q ↔ GN d 65 115 ls h (pR st fun a r => ck (arr h a 0) (nx 118 ls (rv (hR h a 13) :: r) h)) Q := G_unf rfl rfl
theorem g65_118 : G d 65 118 ls st h Q ↔ GN d 65 118 ls h (ldR ls 0 fun a => nx 119 ls (.ref a :: st) h) Q := G_unf rfl rfl
theorem g65_119 : G d 65 119 ls st h Q ↔ GN d 65 119 ls h (pR st fun a r => ck (arr h a 5) (nx 122 ls (rv (hR h a 5) :: r) h)) Q := G_unf rfl rfl
theorem g65_122 : G d 65 122 ls st h Q ↔ GN d 65 122 ls h (pR st fun a r => ck (arr h a 0) (nx 125 ls (.int (hI h a 14) :: r) h)) Q := G_unf rfl rfl
theorem g65_125 : G d 65 125 ls st h Q ↔ GN d 65 125 ls h (ldI ls 3 fun x => nx 126 ls (.int x :: st) h) Q := G_unf rfl rfl
theorem g65_126 : G d 65 126 ls st h Q ↔ GN d 65 126 ls h (pRII st fun a i x r => ck (arr h a 10 ∧ inb i (hLn h a)) (nx 127 ls r (sI h a i.toNatClampNeg x))) Q := G_unf rfl rfl
theorem g65_127 : G d 65 127 ls st h Q ↔ GN d 65 127 ls h (ldR ls 0 fun a => nx 128 ls (.ref a :: st) h) Q := G_unf rfl rfl
theorem g65_128 : G d 65 128 ls st h Q ↔ GN d 65 128 ls h (pR st fun a r => ck (arr h a 5) (nx 131 ls (rv (hR h a 5) :: r) h)) Q := G_unf rfl rfl
theorem g65_131 : G d 65 131 ls st h Q ↔ GN d 65 131 ls h (p1 st fun v r => nx 132 ls (v :: v :: r) h) Q := G_unf rfl rfl
theorem g65_132 : G d 65 132 ls st h Q ↔ GN d 65 132 ls h (pR st fun a r => ck (arr h a 0) (nx 135 ls (.int (hI h a 14) :: r) h)) Q := G_unf rfl rfl
theorem g65_135 : G d 65 135 ls st h Q ↔ GN d 65 135 ls h (nx 136 ls (.int (nI 1) :: st) h) Q := G_unf rfl rfl
theorem g65_136 : G d 65 136 ls st h Q ↔ GN d 65 136 ls h (pII st fun x y r => nx 137 ls (.int (x + y) :: r) h) Q := G_unf rfl rfl
theorem g65_137 : G d 65 137 ls st h Q ↔ GN d 65 137 ls h (pRI st fun a x r => ck (arr h a 0) (nx 140 ls r (sI h a 14 x))) Q := G_unf rfl rfl
theorem g65_140 : G d 65 140 ls st h Q ↔ GN d 65 140 ls h (nx 141 ls (.int (nI 1) :: st) h) Q := G_unf rfl rfl
theorem g65_141 : G d 65 141 ls st h Q ↔ GN d 65 141 ls h (pIe st fun x => ck (x = 0 ∨ x = 1) (rtn (some (.int x)))) Q := G_unf rfl rfl
theorem g66_0 : G d 66 0 ls st h Q ↔ GN d 66 0 ls h (ldR ls 0 fun a => nx 1 ls (.ref a :: st) h) Q := G_unf rfl rfl
theorem g66_1 : G d 66 1 ls st h Q ↔ GN d 66 1 ls h (ldR ls 0 fun a => nx 2 ls (.ref a :: st) h) Q := G_unf rfl rfl
theorem g66_2 : G d 66 2 ls st h Q ↔ GN d 66 2 ls h (pR st fun a r => ck (arr h a 5) (nx 5 ls (rv (hR h a 5) :: r) h)) Q := G_unf rfl rfl
theorem g66_5 : G d 66 5 ls st h Q ↔ GN d 66 5 ls h (pR st fun a r => ck (arr h a 0) (nx 8 ls (rv (hR h a 7) :: r) h)) Q := G_unf rfl rfl
theorem g66_8 : G d 66 8 ls st h Q ↔ GN d 66 8 ls h (ldR ls 0 fun a => nx 9 ls (.ref a :: st) h) Q := G_unf rfl rfl
theorem g66_9 : G d 66 9 ls st h Q ↔ GN d 66 9 ls h (pR st fun a r => ck (arr h a 5) (nx 12 ls (rv (hR h a 5) :: r) h)) Q := G_unf rfl rfl
theorem g66_12 : G d 66 12 ls st h Q ↔ GN d 66 12 ls h (pR st fun a r => ck (arr h a 0) (nx 15 ls (.int (hI h a 10) :: r) h)) Q := G_unf rfl rfl
theorem g66_15 : G d 66 15 ls st h Q ↔ GN d 66 15 ls h (nx 16 ls (.int (nI 0) :: st) h) Q := G_unf rfl rfl
theorem g66_16 : G d 66 16 ls st h Q ↔ GN d 66 16 ls h (pA 3 st fun as r => pR r fun a r => ck (r.length ≤ 4 ∧ arr h a 5) (cll 58 (.ref a :: as) r)) Q := G_unf rfl rfl
theorem g66_19 : G d 66 19 ls st h Q ↔ GN d 66 19 ls h (pI st fun x r => ck (1 < ls.length) (nx 20 (st1 ls 1 (.int x)) r h)) Q := G_unf rfl rfl
theorem g66_20 : G d 66 20 ls st h Q ↔ GN d 66 20 ls h (ldI ls 1 fun x => nx 21 ls (.int x :: st) h) Q := G_unf rfl rfl
theorem g66_21 : G d 66 21 ls st h Q ↔ GN d 66 21 ls h (nx 22 ls (.int (-1) :: st) h) Q := G_unf rfl rfl
theorem g66_22 : G d 66 22 ls st h Q ↔ GN d 66 22 ls h (pII st fun x y r => br (¬ x = y) (nx 27 ls r h) (nx 25 ls r h)) Q := G_unf rfl rfl
theorem g66_25 : G d 66 25 ls st h Q ↔ GN d 66 25 ls h (nx 26 ls (.int (nI 0) :: st) h) Q := G_unf rfl rfl
theorem g66_26 : G d 66 26 ls st h Q ↔ GN d 66 26 ls h (pIe st fun x => ck (x = 0 ∨ x = 1) (rtn (some (.int x)))) Q := G_unf rfl rfl
theorem g66_27 : G d 66 27 ls st h Q ↔ GN d 66 27 ls h (ldR ls 0 fun a => nx 28 ls (.ref a :: st) h) Q := G_unf rfl rfl
theorem g66_28 : G d 66 28 ls st h Q ↔ GN d 66 28 ls h (ldI ls 1 fun x => nx 29 ls (.int x :: st) h) Q := G_unf rfl rfl
theorem g66_29 : G d 66 29 ls st h Q ↔ GN d 66 29 ls h (pA 1 st fun as r => pR r fun a r => ck (r.length ≤ 4 ∧ arr h a 5) (cll 67 (.ref a :: as) r)) Q := G_unf rfl rfl
theorem g66_32 : G d 66 32 ls st h Q ↔ GN d 66 32 ls h (pI st fun x r => ck (2 < ls.length) (nx 33 (st1 ls 2 (.int x)) r h)) Q := G_unf rfl rfl
theorem g66_33 : G d 66 33 ls st h Q ↔ GN d 66 33 ls h (ldI ls 2 fun x => nx 34 ls (.int x :: st) h) Q := G_unf rfl rfl
theorem g66_34 : G d 66 34 ls st h Q ↔ GN d 66 34 ls h (nx 35 ls (.int (-1) :: st) h) Q := G_unf rfl rfl
theorem g66_35 : G d 66 35 ls st h Q ↔ GN d 66 35 ls h (pII st fun x y r => br (x = y) (nx 47 ls r h) (nx 38 ls r h)) Q := G_unf rfl rfl
theorem g66_38 : G d 66 38 ls st h Q ↔ GN d 66 38 ls h (ldR ls 0 fun a => nx 39 ls (.ref a :: st) h) Q := G_unf rfl rfl
theorem g66_39 : G d 66 39 ls st h Q ↔ GN d 66 39 ls h (nx 41 ls (.int (nI 11) :: st) h) Q := G_unf rfl rfl
theorem g66_41 : G d 66 41 ls st h Q ↔ GN d 66 41 ls h (pA 1 st fun as r => pR r fun a r => ck (r.length ≤ 4 ∧ arr h a 5) (cll 55 (.ref a :: as) r)) Q := G_unf rfl rfl
theorem g66_44 : G d 66 44 ls st h Q ↔ GN d 66 44 ls h (pI st fun x r => br (¬ x = 0) (nx 49 ls r h) (nx 47 ls r h)) Q := G_unf rfl rfl
theorem g66_47 : G d 66 47 ls st h Q ↔ GN d 66 47 ls h (nx 48 ls (.int (nI 0) :: st) h) Q := G_unf rfl rfl
theorem g66_48 : G d 66 48 ls st h Q ↔ GN d 66 48 ls h (pIe st fun x => ck (x = 0 ∨ x = 1) (rtn (some (.int x)))) Q := G_unf rfl rfl
theorem g66_49 : G d 66 49 ls st h Q ↔ GN d 66 49 ls h (ldR ls 0 fun a => nx 50 ls (.ref a :: st) h) Q := G_unf rfl rfl
theorem g66_50 : G d 66 50 ls st h Q ↔ GN d 66 50 ls h (nx 53 ls (.int (nI 999) :: st) h) Q := G_unf rfl rfl
theorem g66_53 : G d 66 53 ls st h Q ↔ GN d 66 53 ls h (pA 1 st fun as r => pR r fun a r => ck (r.length ≤ 4 ∧ arr h a 5) (cll 56 (.ref a :: as) r)) Q := G_unf rfl rfl
theorem g66_56 : G d 66 56 ls st h Q ↔ GN d 66 56 ls h (pI st fun x r => ck (3 < ls.length) (nx 57 (st1 ls 3 (.int x)) r h)) Q := G_unf rfl rfl
theorem g66_57 : G d 66 57 ls st h Q ↔ GN d 66 57 ls h (ldI ls 3 fun x => nx 58 ls (.int x :: st) h) Q := G_unf rfl rfl
theorem g66_58 : G d 66 58 ls st h Q ↔ GN d 66 58 ls h (nx 59 ls (.int (-1) :: st) h) Q := G_unf rfl rfl
theorem g66_59 : G d 66 59 ls st h Q ↔ GN d 66 59 ls h (pII st fun x y r => br (¬ x = y) (nx 64 ls r h) (nx 62 ls r h)) Q := G_unf rfl rfl
theorem g66_62 : G d 66 62 ls st h Q ↔ GN d 66 62 ls h (nx 63 ls (.int (nI 0) :: st) h) Q := G_unf rfl rfl
theorem g66_63 : G d 66 63 ls st h Q ↔ GN d 66 63 ls h (pIe st fun x => ck (x = 0 ∨ x = 1) (rtn (some (.int x)))) Q := G_unf rfl rfl
theorem g66_64 : G d 66 64 ls st h Q ↔ GN d 66 64 ls h (ldR ls 0 fun a => nx 65 ls (.ref a :: st) h) Q := G_unf rfl rfl
theorem g66_65 : G d 66 65 ls st h Q ↔ GN d 66 65 ls h (pR st fun a r => ck (arr h a 5) (nx 68 ls (rv (hR h a 5) :: r) h)) Q := G_unf rfl rfl
theorem g66_68 : G d 66 68 ls st h Q ↔ GN d 66 68 ls h (pR st fun a r => ck (arr h a 0) (nx 71 ls (rv (hR h a 15) :: r) h)) Q := G_unf rfl rfl
theorem g66_71 : G d 66 71 ls st h Q ↔ GN d 66 71 ls h (ldI ls 1 fun x => nx 72 ls (.int x :: st) h) Q := G_unf rfl rfl
theorem g66_72 : G d 66 72 ls st h Q ↔ GN d 66 72 ls h (nx 74 ls (.int (nI 12) :: st) h) Q := G_unf rfl rfl
theorem g66_74 : G d 66 74 ls st h Q ↔ GN d 66 74 ls h (pII st fun x y r => nx 75 ls (.int (x * y) :: r) h) Q := G_unf rfl rfl
theorem g66_75 : G d 66 75 ls st h Q ↔ GN d 66 75 ls h (ldI ls 2 fun x => nx 76 ls (.int x :: st) h) Q := G_unf rfl rfl
theorem g66_76 : G d 66 76 ls st h Q ↔ GN d 66 76 ls h (pII st fun x y r => nx 77 ls (.int (x + y) :: r) h) Q := G_unf rfl rfl
theorem g66_77 : G d 66 77 ls st h Q ↔ GN d 66 77 ls h (pRI st fun a i r => br (a = 1000003) (ck (inb i (hS h).1) (nx 78 ls (.int ((hS h).2 i.toNatClampNeg) :: r) h)) (ck (arr h a 10 ∧ inb i (hLn h a)) (nx 78 ls (.int (hI h a i.toNatClampNeg) :: r) h))) Q := G_unf rfl rfl
theorem g66_78 : G d 66 78 ls st h Q ↔ GN d 66 78 ls h (nx 79 ls (.int (-1) :: st) h) Q := G_unf rfl rfl
theorem g66_79 : G d 66 79 ls st h Q ↔ GN d 66 79 ls h (pII st fun x y r => br (¬ x = y) (nx 95 ls r h) (nx 82 ls r h)) Q := G_unf rfl rfl
theorem g66_82 : G d 66 82 ls st h Q ↔ GN d 66 82 ls h (ldR ls 0 fun a => nx 83 ls (.ref a :: st) h) Q := G_unf rfl rfl
theorem g66_83 : G d 66 83 ls st h Q ↔ GN d 66 83 ls h (pR st fun a r => ck (arr h a 5) (nx 86 ls (rv (hR h a 5) :: r) h)) Q := G_unf rfl rfl
theorem g66_86 : G d 66 86 ls st h Q ↔ GN d 66 86 ls h (p1 st fun v r => nx 87 ls (v :: v :: r) h) Q := G_unf rfl rfl
theorem g66_87 : G d 66 87 ls st h Q ↔ GN d 66 87 ls h (pR st fun a r => ck (arr h a 0) (nx 90 ls (.int (hI h a 16) :: r) h)) Q := G_unf rfl rfl
theorem g66_90 : G d 66 90 ls st h Q ↔ GN d 66 90 ls h (nx 91 ls (.int (nI 1) :: st) h) Q := G_unf rfl rfl
theorem g66_91 : G d 66 91 ls st h Q ↔ GN d 66 91 ls h (pII st fun x y r => nx 92 ls (.int (x + y) :: r) h) Q := G_unf rfl rfl
theorem g66_92 : G d 66 92 ls st h Q ↔ GN d 66 92 ls h (pRI st fun a x r => ck (arr h a 0) (nx 95 ls r (sI h a 16 x))) Q := G_unf rfl rfl
theorem g66_95 : G d 66 95 ls st h Q ↔ GN d 66 95 ls h (ldR ls 0 fun a => nx 96 ls (.ref a :: st) h) Q := G_unf rfl rfl
theorem g66_96 : G d 66 96 ls st h Q ↔ GN d 66 96 ls h (pR st fun a r => ck (arr h a 5) (nx 99 ls (rv (hR h a 5) :: r) h)) Q := G_unf rfl rfl
theorem g66_99 : G d 66 99 ls st h Q ↔ GN d 66 99 ls h (pR st fun a r => ck (arr h a 0) (nx 102 ls (rv (hR h a 15) :: r) h)) Q := G_unf rfl rfl
theorem g66_102 : G d 66 102 ls st h Q ↔ GN d 66 102 ls h (ldI ls 1 fun x => nx 103 ls (.int x :: st) h) Q := G_unf rfl rfl
theorem g66_103 : G d 66 103 ls st h Q ↔ GN d 66 103 ls h (nx 105 ls (.int (nI 12) :: st) h) Q := G_unf rfl rfl
theorem g66_105 : G d 66 105 ls st h Q ↔ GN d 66 105 ls h (pII st fun x y r => nx 106 ls (.int (x * y) :: r) h) Q := G_unf rfl rfl
theorem g66_106 : G d 66 106 ls st h Q ↔ GN d 66 106 ls h (ldI ls 2 fun x => nx 107 ls (.int x :: st) h) Q := G_unf rfl rfl
theorem g66_107 : G d 66 107 ls st h Q ↔ GN d 66 107 ls h (pII st fun x y r => nx 108 ls (.int (x + y) :: r) h) Q := G_unf rfl rfl
theorem g66_108 : G d 66 108 ls st h Q ↔ GN d 66 108 ls h (ldI ls 3 fun x => nx 109 ls (.int x :: st) h) Q := G_unf rfl rfl
theorem g66_109 : G d 66 109 ls st h Q ↔ GN d 66 109 ls h (pRII st fun a i x r => ck (arr h a 10 ∧ inb i (hLn h a)) (nx 110 ls r (sI h a i.toNatClampNeg x))) Q := G_unf rfl rfl
theorem g66_110 : G d 66 110 ls st h Q ↔ GN d 66 110 ls h (nx 111 ls (.int (nI 1) :: st) h) Q := G_unf rfl rfl
theorem g66_111 : G d 66 111 ls st h Q ↔ GN d 66 111 ls h (pIe st fun x => ck (x = 0 ∨ x = 1) (rtn (some (.int x)))) Q := G_unf rfl rfl
theorem g67_0 : G d 67 0 ls st h Q ↔ GN d 67 0 ls h (ldR ls 0 fun a => nx 1 ls (.ref a :: st) h) Q := G_unf rfl rfl
theorem g67_1 : G d 67 1 ls st h Q ↔ GN d 67 1 ls h (pR st fun a r => ck (arr h a 5) (nx 4 ls (.int (hI h a 6) :: r) h)) Q := G_unf rfl rfl
theorem g67_4 : G d 67 4 ls st h Q ↔ GN d 67 4 ls h (nx 6 ls (.int (nI 26) :: st) h) Q := G_unf rfl rfl
theorem g67_6 : G d 67 6 ls st h Q ↔ GN d 67 6 ls h (pII st fun x y r => br (¬ x = y) (nx 81 ls r h) (nx 9 ls r h)) Q := G_unf rfl rfl
theorem g67_9 : G d 67 9 ls st h Q ↔ GN d 67 9 ls h (ldR ls 0 fun a => nx 10 ls (.ref a :: st) h) Q := G_unf rfl rfl
theorem g67_10 : G d 67 10 ls st h Q ↔ GN d 67 10 ls h (ldR ls 0 fun a => nx 11 ls (.ref a :: st) h) Q := G_unf rfl rfl
theorem g67_11 : G d 67 11 ls st h Q ↔ GN d 67 11 ls h (pR st fun a r => ck (arr h a 5) (nx 14 ls (rv (hR h a 5) :: r) h)) Q := G_unf rfl rfl
theorem g67_14 : G d 67 14 ls st h Q ↔ GN d 67 14 ls h (pR st fun a r => ck (arr h a 0) (nx 17 ls (rv (hR h a 0) :: r) h)) Q := G_unf rfl rfl
theorem g67_17 : G d 67 17 ls st h Q ↔ GN d 67 17 ls h (ldR ls 0 fun a => nx 18 ls (.ref a :: st) h) Q := G_unf rfl rfl
theorem g67_18 : G d 67 18 ls st h Q ↔ GN d 67 18 ls h (pR st fun a r => ck (arr h a 5) (nx 21 ls (rv (hR h a 5) :: r) h)) Q := G_unf rfl rfl
theorem g67_21 : G d 67 21 ls st h Q ↔ GN d 67 21 ls h (pR st fun a r => ck (arr h a 0) (nx 24 ls (.int (hI h a 3) :: r) h)) Q := G_unf rfl rfl
theorem g67_24 : G d 67 24 ls st h Q ↔ GN d 67 24 ls h (pA 2 st fun as r => pR r fun a r => ck (r.length ≤ 4 ∧ arr h a 5) (cll 59 (.ref a :: as) r)) Q := G_unf rfl rfl
theorem g67_27 : G d 67 27 ls st h Q ↔ GN d 67 27 ls h (pI st fun x r => ck (2 < ls.length) (nx 28 (st1 ls 2 (.int x)) r h)) Q := G_unf rfl rfl
theorem g67_28 : G d 67 28 ls st h Q ↔ GN d 67 28 ls h (ldI ls 2 fun x => nx 29 ls (.int x :: st) h) Q := G_unf rfl rfl
theorem g67_29 : G d 67 29 ls st h Q ↔ GN d 67 29 ls h (nx 30 ls (.int (-1) :: st) h) Q := G_unf rfl rfl
theorem g67_30 : G d 67 30 ls st h Q ↔ GN d 67 30 ls h (pII st fun x y r => br (x = y) (nx 81 ls r h) (nx 33 ls r h)) Q := G_unf rfl rfl
theorem g67_33 : G d 67 33 ls st h Q ↔ GN d 67 33 ls h (ldR ls 0 fun a => nx 34 ls (.ref a :: st) h) Q := G_unf rfl rfl
theorem g67_34 : G d 67 34 ls st h Q ↔ GN d 67 34 ls h (pR st fun a r => ck (arr h a 5) (nx 37 ls (rv (hR h a 5) :: r) h)) Q := G_unf rfl rfl
theorem g67_37 : G d 67 37 ls st h Q ↔ GN d 67 37 ls h (pR st fun a r => ck (arr h a 0) (nx 40 ls (rv (hR h a 15) :: r) h)) Q := G_unf rfl rfl
theorem g67_40 : G d 67 40 ls st h Q ↔ GN d 67 40 ls h (ldI ls 1 fun x => nx 41 ls (.int x :: st) h) Q := G_unf rfl rfl
theorem g67_41 : G d 67 41 ls st h Q ↔ GN d 67 41 ls h (nx 43 ls (.int (nI 12) :: st) h) Q := G_unf rfl rfl
theorem g67_43 : G d 67 43 ls st h Q ↔ GN d 67 43 ls h (pII st fun x y r => nx 44 ls (.int (x * y) :: r) h) Q := G_unf rfl rfl
theorem g67_44 : G d 67 44 ls st h Q ↔ GN d 67 44 ls h (ldI ls 2 fun x => nx 45 ls (.int x :: st) h) Q := G_unf rfl rfl
theorem g67_45 : G d 67 45 ls st h Q ↔ GN d 67 45 ls h (pII st fun x y r => nx 46 ls (.int (x + y) :: r) h) Q := G_unf rfl rfl
theorem g67_46 : G d 67 46 ls st h Q ↔ GN d 67 46 ls h (pRI st fun a i r => br (a = 1000003) (ck (inb i (hS h).1) (nx 47 ls (.int ((hS h).2 i.toNatClampNeg) :: r) h)) (ck (arr h a 10 ∧ inb i (hLn h a)) (nx 47 ls (.int (hI h a i.toNatClampNeg) :: r) h))) Q := G_unf rfl rfl
theorem g67_47 : G d 67 47 ls st h Q ↔ GN d 67 47 ls h (nx 48 ls (.int (-1) :: st) h) Q := G_unf rfl rfl
theorem g67_48 : G d 67 48 ls st h Q ↔ GN d 67 48 ls h (pII st fun x y r => br (¬ x = y) (nx 81 ls r h) (nx 51 ls r h)) Q := G_unf rfl rfl
theorem g67_51 : G d 67 51 ls st h Q ↔ GN d 67 51 ls h (ldR ls 0 fun a => nx 52 ls (.ref a :: st) h) Q := G_unf rfl rfl
theorem g67_52 : G d 67 52 ls st h Q ↔ GN d 67 52 ls h (pR st fun a r => ck (arr h a 5) (nx 55 ls (rv (hR h a 5) :: r) h)) Q := G_unf rfl rfl
theorem g67_55 : G d 67 55 ls st h Q ↔ GN d 67 55 ls h (pR st fun a r => ck (arr h a 0) (nx 58 ls (.int (hI h a 16) :: r) h)) Q := G_unf rfl rfl
theorem g67_58 : G d 67 58 ls st h Q ↔ GN d 67 58 ls h (ldR ls 0 fun a => nx 59 ls (.ref a :: st) h) Q := G_unf rfl rfl
theorem g67_59 : G d 67 59 ls st h Q ↔ GN d 67 59 ls h (pR st fun a r => ck (arr h a 5) (nx 62 ls (rv (hR h a 5) :: r) h)) Q := G_unf rfl rfl
theorem g67_62 : G d 67 62 ls st h Q ↔ GN d 67 62 ls h (pR st fun a r => ck (arr h a 0) (nx 65 ls (.int (hI h a 17) :: r) h)) Q := G_unf rfl rfl
theorem g67_65 : G d 67 65 ls st h Q ↔ GN d 67 65 ls h (pII st fun x y r => br (x < y) (nx 81 ls r h) (nx 68 ls r h)) Q := G_unf rfl rfl
theorem g67_68 : G d 67 68 ls st h Q ↔ GN d 67 68 ls h (ldR ls 0 fun a => nx 69 ls (.ref a :: st) h) Q := G_unf rfl rfl
theorem g67_69 : G d 67 69 ls st h Q ↔ GN d 67 69 ls h (nx 71 ls (.int (nI 6) :: st) h) Q := G_unf rfl rfl
theorem g67_71 : G d 67 71 ls st h Q ↔ GN d 67 71 ls h (ldR ls 0 fun a => nx 72 ls (.ref a :: st) h) Q := G_unf rfl rfl
theorem g67_72 : G d 67 72 ls st h Q ↔ GN d 67 72 ls h (pR st fun a r => ck (arr h a 5) (nx 75 ls (.int (hI h a 11) :: r) h)) Q := G_unf rfl rfl
theorem g67_75 : G d 67 75 ls st h Q ↔ GN d 67 75 ls h (pA 2 st fun as r => pR r fun a r => ck (r.length ≤ 4 ∧ arr h a 5) (cll 51 (.ref a :: as) r)) Q := G_unf rfl rfl
theorem g67_78 : G d 67 78 ls st h Q ↔ GN d 67 78 ls h (p1 st fun _ r => nx 79 ls r h) Q := G_unf rfl rfl
theorem g67_79 : G d 67 79 ls st h Q ↔ GN d 67 79 ls h (nx 80 ls (.int (-1) :: st) h) Q := G_unf rfl rfl
theorem g67_80 : G d 67 80 ls st h Q ↔ GN d 67 80 ls h (pIe st fun x => rtn (some (.int x))) Q := G_unf rfl rfl
theorem g67_81 : G d 67 81 ls st h Q ↔ GN d 67 81 ls h (ldR ls 0 fun a => nx 82 ls (.ref a :: st) h) Q := G_unf rfl rfl
theorem g67_82 : G d 67 82 ls st h Q ↔ GN d 67 82 ls h (ldR ls 0 fun a => nx 83 ls (.ref a :: st) h) Q := G_unf rfl rfl
theorem g67_83 : G d 67 83 ls st h Q ↔ GN d 67 83 ls h (pR st fun a r => ck (arr h a 5) (nx 86 ls (rv (hR h a 5) :: r) h)) Q := G_unf rfl rfl
theorem g67_86 : G d 67 86 ls st h Q ↔ GN d 67 86 ls h (pR st fun a r => ck (arr h a 0) (nx 89 ls (rv (hR h a 0) :: r) h)) Q := G_unf rfl rfl
theorem g67_89 : G d 67 89 ls st h Q ↔ GN d 67 89 ls h (ldR ls 0 fun a => nx 90 ls (.ref a :: st) h) Q := G_unf rfl rfl
theorem g67_90 : G d 67 90 ls st h Q ↔ GN d 67 90 ls h (pR st fun a r => ck (arr h a 5) (nx 93 ls (rv (hR h a 5) :: r) h)) Q := G_unf rfl rfl
theorem g67_93 : G d 67 93 ls st h Q ↔ GN d 67 93 ls h (pR st fun a r => ck (arr h a 0) (nx 96 ls (.int (hI h a 3) :: r) h)) Q := G_unf rfl rfl
theorem g67_96 : G d 67 96 ls st h Q ↔ GN d 67 96 ls h (nx 97 ls (.int (nI 0) :: st) h) Q := G_unf rfl rfl
theorem g67_97 : G d 67 97 ls st h Q ↔ GN d 67 97 ls h (pA 3 st fun as r => pR r fun a r => ck (r.length ≤ 4 ∧ arr h a 5) (cll 58 (.ref a :: as) r)) Q := G_unf rfl rfl
theorem g67_100 : G d 67 100 ls st h Q ↔ GN d 67 100 ls h (pIe st fun x => rtn (some (.int x))) Q := G_unf rfl rfl
theorem g68_0 : G d 68 0 ls st h Q ↔ GN d 68 0 ls h (ldR ls 0 fun a => nx 1 ls (.ref a :: st) h) Q := G_unf rfl rfl
theorem g68_1 : G d 68 1 ls st h Q ↔ GN d 68 1 ls h (nx 3 ls (.int (nI 99) :: st) h) Q := G_unf rfl rfl
theorem g68_3 : G d 68 3 ls st h Q ↔ GN d 68 3 ls h (pA 1 st fun as r => pR r fun a r => ck (r.length ≤ 4 ∧ arr h a 5) (cll 56 (.ref a :: as) r)) Q := G_unf rfl rfl
theorem g68_6 : G d 68 6 ls st h Q ↔ GN d 68 6 ls h (pI st fun x r => ck (1 < ls.length) (nx 7 (st1 ls 1 (.int x)) r h)) Q := G_unf rfl rfl
theorem g68_7 : G d 68 7 ls st h Q ↔ GN d 68 7 ls h (ldI ls 1 fun x => nx 8 ls (.int x :: st) h) Q := G_unf rfl rfl
theorem g68_8 : G d 68 8 ls st h Q ↔ GN d 68 8 ls h (nx 9 ls (.int (-1) :: st) h) Q := G_unf rfl rfl
theorem g68_9 : G d 68 9 ls st h Q ↔ GN d 68 9 ls h (pII st fun x y r => br (¬ x = y) (nx 14 ls r h) (nx 12 ls r h)) Q := G_unf rfl rfl
theorem g68_12 : G d 68 12 ls st h Q ↔ GN d 68 12 ls h (nx 13 ls (.int (nI 0) :: st) h) Q := G_unf rfl rfl
theorem g68_13 : G d 68 13 ls st h Q ↔ GN d 68 13 ls h (pIe st fun x => ck (x = 0 ∨ x = 1) (rtn (some (.int x)))) Q := G_unf rfl rfl
theorem g68_14 : G d 68 14 ls st h Q ↔ GN d 68 14 ls h (ldR ls 0 fun a => nx 15 ls (.ref a :: st) h) Q := G_unf rfl rfl
theorem g68_15 : G d 68 15 ls st h Q ↔ GN d 68 15 ls h (pR st fun a r => ck (arr h a 5) (nx 18 ls (rv (hR h a 5) :: r) h)) Q := G_unf rfl rfl
theorem g68_18 : G d 68 18 ls st h Q ↔ GN d 68 18 ls h (ldI ls 1 fun x => nx 19 ls (.int x :: st) h) Q := G_unf rfl rfl
theorem g68_19 : G d 68 19 ls st h Q ↔ GN d 68 19 ls h (pRI st fun a x r => ck (arr h a 0) (nx 22 ls r (sI h a 17 x))) Q := G_unf rfl rfl
theorem g68_22 : G d 68 22 ls st h Q ↔ GN d 68 22 ls h (nx 23 ls (.int (nI 1) :: st) h) Q := G_unf rfl rfl
theorem g68_23 : G d 68 23 ls st h Q ↔ GN d 68 23 ls h (pIe st fun x => ck (x = 0 ∨ x = 1) (rtn (some (.int x)))) Q := G_unf rfl rfl
theorem g69_0 : G d 69 0 ls st h Q ↔ GN d 69 0 ls h (ldR ls 0 fun a => nx 1 ls (.ref a :: st) h) Q := G_unf rfl rfl
theorem g69_1 : G d 69 1 ls st h Q ↔ GN d 69 1 ls h (pR st fun a r => ck (arr h a 5) (nx 4 ls (rv (hR h a 5) :: r) h)) Q := G_unf rfl rfl
theorem g69_4 : G d 69 4 ls st h Q ↔ GN d 69 4 ls h (ldR ls 0 fun a => nx 5 ls (.ref a :: st) h) Q := G_unf rfl rfl
theorem g69_5 : G d 69 5 ls st h Q ↔ GN d 69 5 ls h (pR st fun a r => ck (arr h a 5) (nx 8 ls (rv (hR h a 13) :: r) h)) Q := G_unf rfl rfl
theorem g69_8 : G d 69 8 ls st h Q ↔ GN d 69 8 ls h (ldR ls 0 fun a => nx 9 ls (.ref a :: st) h) Q := G_unf rfl rfl
theorem g69_9 : G d 69 9 ls st h Q ↔ GN d 69 9 ls h (pR st fun a r => ck (arr h a 5) (nx 12 ls (.int (hI h a 14) :: r) h)) Q := G_unf rfl rfl
theorem g69_12 : G d 69 12 ls st h Q ↔ GN d 69 12 ls h (pA 2 st fun as r => ck (r.length ≤ 4) (cll 289 as r)) Q := G_unf rfl rfl
theorem g69_15 : G d 69 15 ls st h Q ↔ GN d 69 15 ls h (pRR st fun a x r => ck (arr h a 0) (nx 18 ls r (sR h a 18 (some x)))) Q := G_unf rfl rfl
theorem g69_18 : G d 69 18 ls st h Q ↔ GN d 69 18 ls h (nx 19 ls (.int (nI 1) :: st) h) Q := G_unf rfl rfl
theorem g69_19 : G d 69 19 ls st h Q ↔ GN d 69 19 ls h (pIe st fun x => ck (x = 0 ∨ x = 1) (rtn (some (.int x)))) Q := G_unf rfl rfl
theorem g70_0 : G d 70 0 ls st h Q ↔ GN d 70 0 ls h (ldR ls 0 fun a => nx 1 ls (.ref a :: st) h) Q := G_unf rfl rfl
theorem g70_1 : G d 70 1 ls st h Q ↔ GN d 70 1 ls h (pR st fun a r => ck (arr h a 5) (nx 4 ls (rv (hR h a 5) :: r) h)) Q := G_unf rfl rfl
theorem g70_4 : G d 70 4 ls st h Q ↔ GN d 70 4 ls h (ldR ls 0 fun a => nx 5 ls (.ref a :: st) h) Q := G_unf rfl rfl
theorem g70_5 : G d 70 5 ls st h Q ↔ GN d 70 5 ls h (pR st fun a r => ck (arr h a 5) (nx 8 ls (rv (hR h a 13) :: r) h)) Q := G_unf rfl rfl
theorem g70_8 : G d 70 8 ls st h Q ↔ GN d 70 8 ls h (ldR ls 0 fun a => nx 9 ls (.ref a :: st) h) Q := G_unf rfl rfl
theorem g70_9 : G d 70 9 ls st h Q ↔ GN d 70 9 ls h (pR st fun a r => ck (arr h a 5) (nx 12 ls (.int (hI h a 14) :: r) h)) Q := G_unf rfl rfl
theorem g70_12 : G d 70 12 ls st h Q ↔ GN d 70 12 ls h (pA 2 st fun as r => ck (r.length ≤ 4) (cll 289 as r)) Q := G_unf rfl rfl
theorem g70_15 : G d 70 15 ls st h Q ↔ GN d 70 15 ls h (pRR st fun a x r => ck (arr h a 0) (nx 18 ls r (sR h a 19 (some x)))) Q := G_unf rfl rfl
theorem g70_18 : G d 70 18 ls st h Q ↔ GN d 70 18 ls h (nx 19 ls (.int (nI 1) :: st) h) Q := G_unf rfl rfl
theorem g70_19 : G d 70 19 ls st h Q ↔ GN d 70 19 ls h (pIe st fun x => ck (x = 0 ∨ x = 1) (rtn (some (.int x)))) Q := G_unf rfl rfl
theorem g71_0 : G d 71 0 ls st h Q ↔ GN d 71 0 ls h (ldR ls 0 fun a => nx 1 ls (.ref a :: st) h) Q := G_unf rfl rfl
theorem g71_1 : G d 71 1 ls st h Q ↔ GN d 71 1 ls h (pR st fun a r => ck (arr h a 5) (nx 4 ls (.int (hI h a 14) :: r) h)) Q := G_unf rfl rfl
theorem g71_4 : G d 71 4 ls st h Q ↔ GN d 71 4 ls h (ldR ls 0 fun a => nx 5 ls (.ref a :: st) h) Q := G_unf rfl rfl
theorem g71_5 : G d 71 5 ls st h Q ↔ GN d 71 5 ls h (pR st fun a r => ck (arr h a 5) (nx 8 ls (rv (hR h a 13) :: r) h)) Q := G_unf rfl rfl
theorem g71_8 : G d 71 8 ls st h Q ↔ GN d 71 8 ls h (pR st fun a r => br (a = 1000000) (nx 9 ls (.int (nI 0) :: r) h) (br (a = 1000002) (nx 9 ls (.int (nI 208) :: r) h) (br (a = 1000003) (nx 9 ls (.int (nI (hS h).1) :: r) h) (ck (a < hN h ∧ 10 ≤ lay a) (nx 9 ls (.int (nI (hLn h a)) :: r) h))))) Q := G_unf rfl rfl
theorem g71_9 : G d 71 9 ls st h Q ↔ GN d 71 9 ls h (pII st fun x y r => br (y ≤ x) (nx 32 ls r h) (nx 12 ls r h)) Q := G_unf rfl rfl
theorem g71_12 : G d 71 12 ls st h Q ↔ GN d 71 12 ls h (ldR ls 0 fun a => nx 13 ls (.ref a :: st) h) Q := G_unf rfl rfl
theorem g71_13 : G d 71 13 ls st h Q ↔ GN d 71 13 ls h (pR st fun a r => ck (arr h a 5) (nx 16 ls (rv (hR h a 13) :: r) h)) Q := G_unf rfl rfl
theorem g71_16 : G d 71 16 ls st h Q ↔ GN d 71 16 ls h (ldR ls 0 fun a => nx 17 ls (.ref a :: st) h) Q := G_unf rfl rfl
theorem g71_17 : G d 71 17 ls st h Q ↔ GN d 71 17 ls h (pR st fun a r => ck (arr h a 5) (nx 20 ls (.int (hI h a 14) :: r) h)) Q := G_unf rfl rfl
theorem g71_20 : G d 71 20 ls st h Q ↔ GN d 71 20 ls h (ldI ls 1 fun x => nx 21 ls (.int x :: st) h) Q := G_unf rfl rfl
theorem g71_21 : G d 71 21 ls st h Q ↔ GN d 71 21 ls h (pRII st fun a i x r => ck (arr h a 10 ∧ inb i (hLn h a)) (nx 22 ls r (sI h a i.toNatClampNeg x))) Q := G_unf rfl rfl
theorem g71_22 : G d 71 22 ls st h Q ↔ GN d 71 22 ls h (ldR ls 0 fun a => nx 23 ls (.ref a :: st) h) Q := G_unf rfl rfl
theorem g71_23 : G d 71 23 ls st h Q ↔ GN d 71 23 ls h (p1 st fun v r => nx 24 ls (v :: v :: r) h) Q := G_unf rfl rfl
theorem g71_24 : G d 71 24 ls st h Q ↔ GN d 71 24 ls h (pR st fun a r => ck (arr h a 5) (nx 27 ls (.int (hI h a 14) :: r) h)) Q := G_unf rfl rfl
theorem g71_27 : G d 71 27 ls st h Q ↔ GN d 71 27 ls h (nx 28 ls (.int (nI 1) :: st) h) Q := G_unf rfl rfl
theorem g71_28 : G d 71 28 ls st h Q ↔ GN d 71 28 ls h (pII st fun x y r => nx 29 ls (.int (x + y) :: r) h) Q := G_unf rfl rfl
theorem g71_29 : G d 71 29 ls st h Q ↔ GN d 71 29 ls h (pRI st fun a x r => ck (arr h a 5) (nx 32 ls r (sI h a 14 x))) Q := G_unf rfl rfl
theorem g71_32 : G d 71 32 ls st h Q ↔ GN d 71 32 ls h (pE st (rtn none)) Q := G_unf rfl rfl
theorem g72_0 : G d 72 0 ls st h Q ↔ GN d 72 0 ls h (ldR ls 0 fun a => nx 1 ls (.ref a :: st) h) Q := G_unf rfl rfl
theorem g72_1 : G d 72 1 ls st h Q ↔ GN d 72 1 ls h (pR st fun a r => ck (arr h a 5) (nx 4 ls (.int (hI h a 12) :: r) h)) Q := G_unf rfl rfl
theorem g72_4 : G d 72 4 ls st h Q ↔ GN d 72 4 ls h (nx 6 ls (.int (nI 7) :: st) h) Q := G_unf rfl rfl
theorem g72_6 : G d 72 6 ls st h Q ↔ GN d 72 6 ls h (pII st fun x y r => br (x < y) (nx 19 ls r h) (nx 9 ls r h)) Q := G_unf rfl rfl
theorem g72_9 : G d 72 9 ls st h Q ↔ GN d 72 9 ls h (ldR ls 0 fun a => nx 10 ls (.ref a :: st) h) Q := G_unf rfl rfl
theorem g72_10 : G d 72 10 ls st h Q ↔ GN d 72 10 ls h (nx 11 ls (.int (nI 5) :: st) h) Q := G_unf rfl rfl
theorem g72_11 : G d 72 11 ls st h Q ↔ GN d 72 11 ls h (ldR ls 0 fun a => nx 12 ls (.ref a :: st) h) Q := G_unf rfl rfl
theorem g72_12 : G d 72 12 ls st h Q ↔ GN d 72 12 ls h (pR st fun a r => ck (arr h a 5) (nx 15 ls (.int (hI h a 8) :: r) h)) Q := G_unf rfl rfl
theorem g72_15 : G d 72 15 ls st h Q ↔ GN d 72 15 ls h (pA 2 st fun as r => pR r fun a r => ck (r.length ≤ 4 ∧ arr h a 5) (cll 51 (.ref a :: as) r)) Q := G_unf rfl rfl
theorem g72_18 : G d 72 18 ls st h Q ↔ GN d 72 18 ls h (pIe st fun x => ck (x = 0 ∨ x = 1) (rtn (some (.int x)))) Q := G_unf rfl rfl
theorem g72_19 : G d 72 19 ls st h Q ↔ GN d 72 19 ls h (ldR ls 0 fun a => nx 20 ls (.ref a :: st) h) Q := G_unf rfl rfl
theorem g72_20 : G d 72 20 ls st h Q ↔ GN d 72 20 ls h (p1 st fun v r => nx 21 ls (v :: v :: r) h) Q := G_unf rfl rfl
theorem g72_21 : G d 72 21 ls st h Q ↔ GN d 72 21 ls h (pR st fun a r => ck (arr h a 5) (nx 24 ls (.int (hI h a 12) :: r) h)) Q := G_unf rfl rfl
theorem g72_24 : G d 72 24 ls st h Q ↔ GN d 72 24 ls h (nx 25 ls (.int (nI 1) :: st) h) Q := G_unf rfl rfl
theorem g72_25 : G d 72 25 ls st h Q ↔ GN d 72 25 ls h (pII st fun x y r => nx 26 ls (.int (x + y) :: r) h) Q := G_unf rfl rfl
theorem g72_26 : G d 72 26 ls st h Q ↔ GN d 72 26 ls h (pRI st fun a x r => ck (arr h a 5) (nx 29 ls r (sI h a 12 x))) Q := G_unf rfl rfl
theorem g72_29 : G d 72 29 ls st h Q ↔ GN d 72 29 ls h (ldR ls 0 fun a => nx 30 ls (.ref a :: st) h) Q := G_unf rfl rfl
theorem g72_30 : G d 72 30 ls st h Q ↔ GN d 72 30 ls h (pA 0 st fun as r => pR r fun a r => ck (r.length ≤ 4 ∧ arr h a 5) (cll 52 (.ref a :: as) r)) Q := G_unf rfl rfl
theorem g72_33 : G d 72 33 ls st h Q ↔ GN d 72 33 ls h (nx 34 ls (.int (nI 1) :: st) h) Q := G_unf rfl rfl
theorem g72_34 : G d 72 34 ls st h Q ↔ GN d 72 34 ls h (pIe st fun x => ck (x = 0 ∨ x = 1) (rtn (some (.int x)))) Q := G_unf rfl rfl
theorem g73_0 : G d 73 0 ls st h Q ↔ GN d 73 0 ls h (ldR ls 0 fun a => nx 1 ls (.ref a :: st) h) Q := G_unf rfl rfl
theorem g73_1 : G d 73 1 ls st h Q ↔ GN d 73 1 ls h (pA 0 st fun as r => pR r fun a r => ck (r.length ≤ 4 ∧ arr h a 5) (cll 74 (.ref a :: as) r)) Q := G_unf rfl rfl
theorem g73_4 : G d 73 4 ls st h Q ↔ GN d 73 4 ls h (pI st fun x r => ck (1 < ls.length) (nx 5 (st1 ls 1 (.int x)) r h)) Q := G_unf rfl rfl
theorem g73_5 : G d 73 5 ls st h Q ↔ GN d 73 5 ls h (nx 6 ls (.int (nI 0) :: st) h) Q := G_unf rfl rfl
theorem g73_6 : G d 73 6 ls st h Q ↔ GN d 73 6 ls h (pI st fun x r => ck (2 < ls.length) (nx 7 (st1 ls 2 (.int x)) r h)) Q := G_unf rfl rfl
theorem g73_7 : G d 73 7 ls st h Q ↔ GN d 73 7 ls h (ldI ls 2 fun x => nx 8 ls (.int x :: st) h) Q := G_unf rfl rfl
theorem g73_8 : G d 73 8 ls st h Q ↔ GN d 73 8 ls h (nx 11 ls (.int (nI 1600) :: st) h) Q := G_unf rfl rfl
theorem g73_11 : G d 73 11 ls st h Q ↔ GN d 73 11 ls h (pII st fun x y r => br (y ≤ x) (nx 49 ls r h) (nx 14 ls r h)) Q := G_unf rfl rfl
theorem g73_14 : G d 73 14 ls st h Q ↔ GN d 73 14 ls h (ldI ls 1 fun x => nx 15 ls (.int x :: st) h) Q := G_unf rfl rfl
theorem g73_15 : G d 73 15 ls st h Q ↔ GN d 73 15 ls h (pI st fun x r => br (x = 0) (nx 49 ls r h) (nx 18 ls r h)) Q := G_unf rfl rfl
theorem g73_18 : G d 73 18 ls st h Q ↔ GN d 73 18 ls h (ldR ls 0 fun a => nx 19 ls (.ref a :: st) h) Q := G_unf rfl rfl
theorem g73_19 : G d 73 19 ls st h Q ↔ GN d 73 19 ls h (pR st fun a r => ck (arr h a 5) (nx 22 ls (.int (hI h a 6) :: r) h)) Q := G_unf rfl rfl
theorem g73_22 : G d 73 22 ls st h Q ↔ GN d 73 22 ls h (nx 24 ls (.int (nI 20) :: st) h) Q := G_unf rfl rfl
theorem g73_24 : G d 73 24 ls st h Q ↔ GN d 73 24 ls h (pII st fun x y r => br (¬ x = y) (nx 49 ls r h) (nx 27 ls r h)) Q := G_unf rfl rfl
theorem g73_27 : G d 73 27 ls st h Q ↔ GN d 73 27 ls h (ldR ls 0 fun a => nx 28 ls (.ref a :: st) h) Q := G_unf rfl rfl
theorem g73_28 : G d 73 28 ls st h Q ↔ GN d 73 28 ls h (pA 0 st fun as r => pR r fun a r => ck (r.length ≤ 4 ∧ arr h a 5) (cll 52 (.ref a :: as) r)) Q := G_unf rfl rfl
theorem g73_31 : G d 73 31 ls st h Q ↔ GN d 73 31 ls h (ldR ls 0 fun a => nx 32 ls (.ref a :: st) h) Q := G_unf rfl rfl
theorem g73_32 : G d 73 32 ls st h Q ↔ GN d 73 32 ls h (pA 0 st fun as r => pR r fun a r => ck (r.length ≤ 4 ∧ arr h a 5) (cll 74 (.ref a :: as) r)) Q := G_unf rfl rfl
theorem g73_35 : G d 73 35 ls st h Q ↔ GN d 73 35 ls h (pI st fun x r => ck (1 < ls.length) (nx 36 (st1 ls 1 (.int x)) r h)) Q := G_unf rfl rfl
theorem g73_36 : G d 73 36 ls st h Q ↔ GN d 73 36 ls h (ldR ls 0 fun a => nx 37 ls (.ref a :: st) h) Q := G_unf rfl rfl
theorem g73_37 : G d 73 37 ls st h Q ↔ GN d 73 37 ls h (nx 40 ls (.int (nI 10020) :: st) h) Q := G_unf rfl rfl
theorem g73_40 : G d 73 40 ls st h Q ↔ GN d 73 40 ls h (pA 1 st fun as r => pR r fun a r => ck (r.length ≤ 4 ∧ arr h a 5) (cll 71 (.ref a :: as) r)) Q := G_unf rfl rfl
theorem g73_43 : G d 73 43 ls st h Q ↔ GN d 73 43 ls h (ldI ls 2 fun x => nx 46 (st1 ls 2 (.int (x + (nI 1)))) st h) Q := G_unf rfl rfl
theorem g73_46 : G d 73 46 ls st h Q ↔ GN d 73 46 ls h (nx 7 ls st h) Q := G_unf rfl rfl
theorem g73_49 : G d 73 49 ls st h Q ↔ GN d 73 49 ls h (ldI ls 1 fun x => nx 50 ls (.int x :: st) h) Q := G_unf rfl rfl
theorem g73_50 : G d 73 50 ls st h Q ↔ GN d 73 50 ls h (pIe st fun x => ck (x = 0 ∨ x = 1) (rtn (some (.int x)))) Q := G_unf rfl rfl
theorem g74_0 : G d 74 0 ls st h Q ↔ GN d 74 0 ls h (ldR ls 0 fun a => nx 1 ls (.ref a :: st) h) Q := G_unf rfl rfl
theorem g74_1 : G d 74 1 ls st h Q ↔ GN d 74 1 ls h (pA 0 st fun as r => pR r fun a r => ck (r.length ≤ 4 ∧ arr h a 5) (cll 75 (.ref a :: as) r)) Q := G_unf rfl rfl
theorem g74_4 : G d 74 4 ls st h Q ↔ GN d 74 4 ls h (pI st fun x r => ck (1 < ls.length) (nx 5 (st1 ls 1 (.int x)) r h)) Q := G_unf rfl rfl
theorem g74_5 : G d 74 5 ls st h Q ↔ GN d 74 5 ls h (nx 6 ls (.int (nI 0) :: st) h) Q := G_unf rfl rfl
theorem g74_6 : G d 74 6 ls st h Q ↔ GN d 74 6 ls h (pI st fun x r => ck (2 < ls.length) (nx 7 (st1 ls 2 (.int x)) r h)) Q := G_unf rfl rfl
theorem g74_7 : G d 74 7 ls st h Q ↔ GN d 74 7 ls h (ldI ls 2 fun x => nx 8 ls (.int x :: st) h) Q := G_unf rfl rfl
theorem g74_8 : G d 74 8 ls st h Q ↔ GN d 74 8 ls h (nx 11 ls (.int (nI 1600) :: st) h) Q := G_unf rfl rfl
theorem g74_11 : G d 74 11 ls st h Q ↔ GN d 74 11 ls h (pII st fun x y r => br (y ≤ x) (nx 49 ls r h) (nx 14 ls r h)) Q := G_unf rfl rfl
theorem g74_14 : G d 74 14 ls st h Q ↔ GN d 74 14 ls h (ldI ls 1 fun x => nx 15 ls (.int x :: st) h) Q := G_unf rfl rfl
theorem g74_15 : G d 74 15 ls st h Q ↔ GN d 74 15 ls h (pI st fun x r => br (x = 0) (nx 49 ls r h) (nx 18 ls r h)) Q := G_unf rfl rfl
theorem g74_18 : G d 74 18 ls st h Q ↔ GN d 74 18 ls h (ldR ls 0 fun a => nx 19 ls (.ref a :: st) h) Q := G_unf rfl rfl
theorem g74_19 : G d 74 19 ls st h Q ↔ GN d 74 19 ls h (pR st fun a r => ck (arr h a 5) (nx 22 ls (.int (hI h a 6) :: r) h)) Q := G_unf rfl rfl
theorem g74_22 : G d 74 22 ls st h Q ↔ GN d 74 22 ls h (nx 24 ls (.int (nI 21) :: st) h) Q := G_unf rfl rfl
theorem g74_24 : G d 74 24 ls st h Q ↔ GN d 74 24 ls h (pII st fun x y r => br (¬ x = y) (nx 49 ls r h) (nx 27 ls r h)) Q := G_unf rfl rfl
theorem g74_27 : G d 74 27 ls st h Q ↔ GN d 74 27 ls h (ldR ls 0 fun a => nx 28 ls (.ref a :: st) h) Q := G_unf rfl rfl
theorem g74_28 : G d 74 28 ls st h Q ↔ GN d 74 28 ls h (pA 0 st fun as r => pR r fun a r => ck (r.length ≤ 4 ∧ arr h a 5) (cll 52 (.ref a :: as) r)) Q := G_unf rfl rfl
theorem g74_31 : G d 74 31 ls st h Q ↔ GN d 74 31 ls h (ldR ls 0 fun a => nx 32 ls (.ref a :: st) h) Q := G_unf rfl rfl
theorem g74_32 : G d 74 32 ls st h Q ↔ GN d 74 32 ls h (pA 0 st fun as r => pR r fun a r => ck (r.length ≤ 4 ∧ arr h a 5) (cll 75 (.ref a :: as) r)) Q := G_unf rfl rfl
theorem g74_35 : G d 74 35 ls st h Q ↔ GN d 74 35 ls h (pI st fun x r => ck (1 < ls.length) (nx 36 (st1 ls 1 (.int x)) r h)) Q := G_unf rfl rfl
theorem g74_36 : G d 74 36 ls st h Q ↔ GN d 74 36 ls h (ldR ls 0 fun a => nx 37 ls (.ref a :: st) h) Q := G_unf rfl rfl
theorem g74_37 : G d 74 37 ls st h Q ↔ GN d 74 37 ls h (nx 40 ls (.int (nI 10021) :: st) h) Q := G_unf rfl rfl
theorem g74_40 : G d 74 40 ls st h Q ↔ GN d 74 40 ls h (pA 1 st fun as r => pR r fun a r => ck (r.length ≤ 4 ∧ arr h a 5) (cll 71 (.ref a :: as) r)) Q := G_unf rfl rfl
theorem g74_43 : G d 74 43 ls st h Q ↔ GN d 74 43 ls h (ldI ls 2 fun x => nx 46 (st1 ls 2 (.int (x + (nI 1)))) st h) Q := G_unf rfl rfl
theorem g74_46 : G d 74 46 ls st h Q ↔ GN d 74 46 ls h (nx 7 ls st h) Q := G_unf rfl rfl
theorem g74_49 : G d 74 49 ls st h Q ↔ GN d 74 49 ls h (ldI ls 1 fun x => nx 50 ls (.int x :: st) h) Q := G_unf rfl rfl
theorem g74_50 : G d 74 50 ls st h Q ↔ GN d 74 50 ls h (pIe st fun x => ck (x = 0 ∨ x = 1) (rtn (some (.int x)))) Q := G_unf rfl rfl
theorem g75_0 : G d 75 0 ls st h Q ↔ GN d 75 0 ls h (nx 1 ls (.int (nI 0) :: st) h) Q := G_unf rfl rfl
theorem g75_1 : G d 75 1 ls st h Q ↔ GN d 75 1 ls h (pI st fun x r => ck (1 < ls.length) (nx 2 (st1 ls 1 (.int x)) r h)) Q := G_unf rfl rfl
theorem g75_2 : G d 75 2 ls st h Q ↔ GN d 75 2 ls h (ldI ls 1 fun x => nx 3 ls (.int x :: st) h) Q := G_unf rfl rfl
theorem g75_3 : G d 75 3 ls st h Q ↔ GN d 75 3 ls h (nx 5 ls (.int (nI 7) :: st) h) Q := G_unf rfl rfl
theorem g75_5 : G d 75 5 ls st h Q ↔ GN d 75 5 ls h (pII st fun x y r => br (y < x) (nx 32 ls r h) (nx 8 ls r h)) Q := G_unf rfl rfl
theorem g75_8 : G d 75 8 ls st h Q ↔ GN d 75 8 ls h (ldR ls 0 fun a => nx 9 ls (.ref a :: st) h) Q := G_unf rfl rfl
theorem g75_9 : G d 75 9 ls st h Q ↔ GN d 75 9 ls h (pR st fun a r => ck (arr h a 5) (nx 12 ls (.int (hI h a 6) :: r) h)) Q := G_unf rfl rfl
theorem g75_12 : G d 75 12 ls st h Q ↔ GN d 75 12 ls h (nx 14 ls (.int (nI 22) :: st) h) Q := G_unf rfl rfl
theorem g75_14 : G d 75 14 ls st h Q ↔ GN d 75 14 ls h (pII st fun x y r => br (¬ x = y) (nx 32 ls r h) (nx 17 ls r h)) Q := G_unf rfl rfl
theorem g75_17 : G d 75 17 ls st h Q ↔ GN d 75 17 ls h (ldR ls 0 fun a => nx 18 ls (.ref a :: st) h) Q := G_unf rfl rfl
theorem g75_18 : G d 75 18 ls st h Q ↔ GN d 75 18 ls h (pA 0 st fun as r => pR r fun a r => ck (r.length ≤ 4 ∧ arr h a 5) (cll 72 (.ref a :: as) r)) Q := G_unf rfl rfl
theorem g75_21 : G d 75 21 ls st h Q ↔ GN d 75 21 ls h (pI st fun x r => br (¬ x = 0) (nx 26 ls r h) (nx 24 ls r h)) Q := G_unf rfl rfl
theorem g75_24 : G d 75 24 ls st h Q ↔ GN d 75 24 ls h (nx 25 ls (.int (nI 0) :: st) h) Q := G_unf rfl rfl
theorem g75_25 : G d 75 25 ls st h Q ↔ GN d 75 25 ls h (pIe st fun x => ck (x = 0 ∨ x = 1) (rtn (some (.int x)))) Q := G_unf rfl rfl
theorem g75_26 : G d 75 26 ls st h Q ↔ GN d 75 26 ls h (ldI ls 1 fun x => nx 29 (st1 ls 1 (.int (x + (nI 1)))) st h) Q := G_unf rfl rfl
theorem g75_29 : G d 75 29 ls st h Q ↔ GN d 75 29 ls h (nx 2 ls st h) Q := G_unf rfl rfl
theorem g75_32 : G d 75 32 ls st h Q ↔ GN d 75 32 ls h (ldR ls 0 fun a => nx 33 ls (.ref a :: st) h) Q := G_unf rfl rfl
theorem g75_33 : G d 75 33 ls st h Q ↔ GN d 75 33 ls h (pA 0 st fun as r => pR r fun a r => ck (r.length ≤ 4 ∧ arr h a 5) (cll 76 (.ref a :: as) r)) Q := G_unf rfl rfl
theorem g75_36 : G d 75 36 ls st h Q ↔ GN d 75 36 ls h (pI st fun x r => br (¬ x = 0) (nx 41 ls r h) (nx 39 ls r h)) Q := G_unf rfl rfl
theorem g75_39 : G d 75 39 ls st h Q ↔ GN d 75 39 ls h (nx 40 ls (.int (nI 0) :: st) h) Q := G_unf rfl rfl
theorem g75_40 : G d 75 40 ls st h Q ↔ GN d 75 40 ls h (pIe st fun x => ck (x = 0 ∨ x = 1) (rtn (some (.int x)))) Q := G_unf rfl rfl
theorem g75_41 : G d 75 41 ls st h Q ↔ GN d 75 41 ls h (ldR ls 0 fun a => nx 42 ls (.ref a :: st) h) Q := G_unf rfl rfl
theorem g75_42 : G d 75 42 ls st h Q ↔ GN d 75 42 ls h (p1 st fun v r => nx 43 ls (v :: v :: r) h) Q := G_unf rfl rfl
theorem g75_43 : G d 75 43 ls st h Q ↔ GN d 75 43 ls h (pR st fun a r => ck (arr h a 5) (nx 46 ls (.int (hI h a 12) :: r) h)) Q := G_unf rfl rfl
theorem g75_46 : G d 75 46 ls st h Q ↔ GN d 75 46 ls h (ldI ls 1 fun x => nx 47 ls (.int x :: st) h) Q := G_unf rfl rfl
theorem g75_47 : G d 75 47 ls st h Q ↔ GN d 75 47 ls h (pII st fun x y r => nx 48 ls (.int (x - y) :: r) h) Q := G_unf rfl rfl
theorem g75_48 : G d 75 48 ls st h Q ↔ GN d 75 48 ls h (pRI st fun a x r => ck (arr h a 5) (nx 51 ls r (sI h a 12 x))) Q := G_unf rfl rfl
theorem g75_51 : G d 75 51 ls st h Q ↔ GN d 75 51 ls h (ldI ls 1 fun x => nx 52 ls (.int x :: st) h) Q := G_unf rfl rfl
theorem g75_52 : G d 75 52 ls st h Q ↔ GN d 75 52 ls h (nx 53 ls (.int (nI 2) :: st) h) Q := G_unf rfl rfl
theorem g75_53 : G d 75 53 ls st h Q ↔ GN d 75 53 ls h (pII st fun x y r => ck (¬ y = 0) (nx 54 ls (.int (x - x / y * y) :: r) h)) Q := G_unf rfl rfl
theorem g75_54 : G d 75 54 ls st h Q ↔ GN d 75 54 ls h (nx 55 ls (.int (nI 1) :: st) h) Q := G_unf rfl rfl
theorem g75_55 : G d 75 55 ls st h Q ↔ GN d 75 55 ls h (pII st fun x y r => br (¬ x = y) (nx 65 ls r h) (nx 58 ls r h)) Q := G_unf rfl rfl
theorem g75_58 : G d 75 58 ls st h Q ↔ GN d 75 58 ls h (ldR ls 0 fun a => nx 59 ls (.ref a :: st) h) Q := G_unf rfl rfl
theorem g75_59 : G d 75 59 ls st h Q ↔ GN d 75 59 ls h (nx 62 ls (.int (nI 10022) :: st) h) Q := G_unf rfl rfl
theorem g75_62 : G d 75 62 ls st h Q ↔ GN d 75 62 ls h (pA 1 st fun as r => pR r fun a r => ck (r.length ≤ 4 ∧ arr h a 5) (cll 71 (.ref a :: as) r)) Q := G_unf rfl rfl
theorem g75_65 : G d 75 65 ls st h Q ↔ GN d 75 65 ls h (nx 66 ls (.int (nI 1) :: st) h) Q := G_unf rfl rfl
theorem g75_66 : G d 75 66 ls st h Q ↔ GN d 75 66 ls h (pIe st fun x => ck (x = 0 ∨ x = 1) (rtn (some (.int x)))) Q := G_unf rfl rfl
theorem g76_0 : G d 76 0 ls st h Q ↔ GN d 76 0 ls h (ldR ls 0 fun a => nx 1 ls (.ref a :: st) h) Q := G_unf rfl rfl
theorem g76_1 : G d 76 1 ls st h Q ↔ GN d 76 1 ls h (pR st fun a r => ck (arr h a 5) (nx 4 ls (.int (hI h a 6) :: r) h)) Q := G_unf rfl rfl
theorem g76_4 : G d 76 4 ls st h Q ↔ GN d 76 4 ls h (nx 6 ls (.int (nI 23) :: st) h) Q := G_unf rfl rfl
theorem g76_6 : G d 76 6 ls st h Q ↔ GN d 76 6 ls h (pII st fun x y r => br (¬ x = y) (nx 22 ls r h) (nx 9 ls r h)) Q := G_unf rfl rfl
theorem g76_9 : G d 76 9 ls st h Q ↔ GN d 76 9 ls h (ldR ls 0 fun a => nx 10 ls (.ref a :: st) h) Q := G_unf rfl rfl
theorem g76_10 : G d 76 10 ls st h Q ↔ GN d 76 10 ls h (nx 13 ls (.int (nI 10023) :: st) h) Q := G_unf rfl rfl
theorem g76_13 : G d 76 13 ls st h Q ↔ GN d 76 13 ls h (pA 1 st fun as r => pR r fun a r => ck (r.length ≤ 4 ∧ arr h a 5) (cll 71 (.ref a :: as) r)) Q := G_unf rfl rfl
theorem g76_16 : G d 76 16 ls st h Q ↔ GN d 76 16 ls h (ldR ls 0 fun a => nx 17 ls (.ref a :: st) h) Q := G_unf rfl rfl
theorem g76_17 : G d 76 17 ls st h Q ↔ GN d 76 17 ls h (pA 0 st fun as r => pR r fun a r => ck (r.length ≤ 4 ∧ arr h a 5) (cll 52 (.ref a :: as) r)) Q := G_unf rfl rfl
theorem g76_20 : G d 76 20 ls st h Q ↔ GN d 76 20 ls h (nx 21 ls (.int (nI 1) :: st) h) Q := G_unf rfl rfl
theorem g76_21 : G d 76 21 ls st h Q ↔ GN d 76 21 ls h (pIe st fun x => ck (x = 0 ∨ x = 1) (rtn (some (.int x)))) Q := G_unf rfl rfl
theorem g76_22 : G d 76 22 ls st h Q ↔ GN d 76 22 ls h (ldR ls 0 fun a => nx 23 ls (.ref a :: st) h) Q := G_unf rfl rfl
theorem g76_23 : G d 76 23 ls st h Q ↔ GN d 76 23 ls h (pR st fun a r => ck (arr h a 5) (nx 26 ls (.int (hI h a 6) :: r) h)) Q := G_unf rfl rfl
theorem g76_26 : G d 76 26 ls st h Q ↔ GN d 76 26 ls h (nx 29 ls (.int (nI 191) :: st) h) Q := G_unf rfl rfl
theorem g76_29 : G d 76 29 ls st h Q ↔ GN d 76 29 ls h (pII st fun x y r => br (¬ x = y) (nx 74 ls r h) (nx 32 ls r h)) Q := G_unf rfl rfl
theorem g76_32 : G d 76 32 ls st h Q ↔ GN d 76 32 ls h (ldR ls 0 fun a => nx 33 ls (.ref a :: st) h) Q := G_unf rfl rfl
theorem g76_33 : G d 76 33 ls st h Q ↔ GN d 76 33 ls h (pA 0 st fun as r => pR r fun a r => ck (r.length ≤ 4 ∧ arr h a 5) (cll 72 (.ref a :: as) r)) Q := G_unf rfl rfl
theorem g76_36 : G d 76 36 ls st h Q ↔ GN d 76 36 ls h (pI st fun x r => br (x = 0) (nx 60 ls r h) (nx 39 ls r h)) Q := G_unf rfl rfl
theorem g76_39 : G d 76 39 ls st h Q ↔ GN d 76 39 ls h (ldR ls 0 fun a => nx 40 ls (.ref a :: st) h) Q := G_unf rfl rfl
theorem g76_40 : G d 76 40 ls st h Q ↔ GN d 76 40 ls h (pA 0 st fun as r => pR r fun a r => ck (r.length ≤ 4 ∧ arr h a 5) (cll 73 (.ref a :: as) r)) Q := G_unf rfl rfl
theorem g76_43 : G d 76 43 ls st h Q ↔ GN d 76 43 ls h (pI st fun x r => br (x = 0) (nx 60 ls r h) (nx 46 ls r h)) Q := G_unf rfl rfl
theorem g76_46 : G d 76 46 ls st h Q ↔ GN d 76 46 ls h (ldR ls 0 fun a => nx 47 ls (.ref a :: st) h) Q := G_unf rfl rfl
theorem g76_47 : G d 76 47 ls st h Q ↔ GN d 76 47 ls h (nx 50 ls (.int (nI 193) :: st) h) Q := G_unf rfl rfl
theorem g76_50 : G d 76 50 ls st h Q ↔ GN d 76 50 ls h (pA 1 st fun as r => pR r fun a r => ck (r.length ≤ 4 ∧ arr h a 5) (cll 55 (.ref a :: as) r)) Q := G_unf rfl rfl
theorem g76_53 : G d 76 53 ls st h Q ↔ GN d 76 53 ls h (pI st fun x r => br (x = 0) (nx 60 ls r h) (nx 56 ls r h)) Q := G_unf rfl rfl
theorem g76_56 : G d 76 56 ls st h Q ↔ GN d 76 56 ls h (nx 57 ls (.int (nI 1) :: st) h) Q := G_unf rfl rfl
theorem g76_57 : G d 76 57 ls st h Q ↔ GN d 76 57 ls h (nx 61 ls st h) Q := G_unf rfl rfl
theorem g76_60 : G d 76 60 ls st h Q ↔ GN d 76 60 ls h (nx 61 ls (.int (nI 0) :: st) h) Q := G_unf rfl rfl
theorem g76_61 : G d 76 61 ls st h Q ↔ GN d 76 61 ls h (pI st fun x r => ck (1 < ls.length) (nx 62 (st1 ls 1 (.int x)) r h)) Q := G_unf rfl rfl
theorem g76_62 : G d 76 62 ls st h Q ↔ GN d 76 62 ls h (ldR ls 0 fun a => nx 63 ls (.ref a :: st) h) Q := G_unf rfl rfl
theorem g76_63 : G d 76 63 ls st h Q ↔ GN d 76 63 ls h (p1 st fun v r => nx 64 ls (v :: v :: r) h) Q := G_unf rfl rfl
theorem g76_64 : G d 76 64 ls st h Q ↔ GN d 76 64 ls h (pR st fun a r => ck (arr h a 5) (nx 67 ls (.int (hI h a 12) :: r) h)) Q := G_unf rfl rfl
theorem g76_67 : G d 76 67 ls st h Q ↔ GN d 76 67 ls h (nx 68 ls (.int (nI 1) :: st) h) Q := G_unf rfl rfl
theorem g76_68 : G d 76 68 ls st h Q ↔ GN d 76 68 ls h (pII st fun x y r => nx 69 ls (.int (x - y) :: r) h) Q := G_unf rfl rfl
theorem g76_69 : G d 76 69 ls st h Q ↔ GN d 76 69 ls h (pRI st fun a x r => ck (arr h a 5) (nx 72 ls r (sI h a 12 x))) Q := G_unf rfl rfl
theorem g76_72 : G d 76 72 ls st h Q ↔ GN d 76 72 ls h (ldI ls 1 fun x => nx 73 ls (.int x :: st) h) Q := G_unf rfl rfl
theorem g76_73 : G d 76 73 ls st h Q ↔ GN d 76 73 ls h (pIe st fun x => ck (x = 0 ∨ x = 1) (rtn (some (.int x)))) Q := G_unf rfl rfl
theorem g76_74 : G d 76 74 ls st h Q ↔ GN d 76 74 ls h (ldR ls 0 fun a => nx 75 ls (.ref a :: st) h) Q := G_unf rfl rfl
theorem g76_75 : G d 76 75 ls st h Q ↔ GN d 76 75 ls h (pA 0 st fun as r => pR r fun a r => ck (r.length ≤ 4 ∧ arr h a 5) (cll 77 (.ref a :: as) r)) Q := G_unf rfl rfl
theorem g76_78 : G d 76 78 ls st h Q ↔ GN d 76 78 ls h (pI st fun x r => br (¬ x = 0) (nx 83 ls r h) (nx 81 ls r h)) Q := G_unf rfl rfl
theorem g76_81 : G d 76 81 ls st h Q ↔ GN d 76 81 ls h (nx 82 ls (.int (nI 0) :: st) h) Q := G_unf rfl rfl
theorem g76_82 : G d 76 82 ls st h Q ↔ GN d 76 82 ls h (pIe st fun x => ck (x = 0 ∨ x = 1) (rtn (some (.int x)))) Q := G_unf rfl rfl
theorem g76_83 : G d 76 83 ls st h Q ↔ GN d 76 83 ls h (ldR ls 0 fun a => nx 84 ls (.ref a :: st) h) Q := G_unf rfl rfl
theorem g76_84 : G d 76 84 ls st h Q ↔ GN d 76 84 ls h (pR st fun a r => ck (arr h a 5) (nx 87 ls (.int (hI h a 6) :: r) h)) Q := G_unf rfl rfl
theorem g76_87 : G d 76 87 ls st h Q ↔ GN d 76 87 ls h (pI st fun x r => ck (1 < ls.length) (nx 88 (st1 ls 1 (.int x)) r h)) Q := G_unf rfl rfl
theorem g76_88 : G d 76 88 ls st h Q ↔ GN d 76 88 ls h (ldI ls 1 fun x => nx 89 ls (.int x :: st) h) Q := G_unf rfl rfl
theorem g76_89 : G d 76 89 ls st h Q ↔ GN d 76 89 ls h (nx 92 ls (.int (nI 160) :: st) h) Q := G_unf rfl rfl
theorem g76_92 : G d 76 92 ls st h Q ↔ GN d 76 92 ls h (pII st fun x y r => br (x = y) (nx 119 ls r h) (nx 95 ls r h)) Q := G_unf rfl rfl
theorem g76_95 : G d 76 95 ls st h Q ↔ GN d 76 95 ls h (ldI ls 1 fun x => nx 96 ls (.int x :: st) h) Q := G_unf rfl rfl
theorem g76_96 : G d 76 96 ls st h Q ↔ GN d 76 96 ls h (nx 99 ls (.int (nI 162) :: st) h) Q := G_unf rfl rfl
theorem g76_99 : G d 76 99 ls st h Q ↔ GN d 76 99 ls h (pII st fun x y r => br (x = y) (nx 119 ls r h) (nx 102 ls r h)) Q := G_unf rfl rfl
theorem g76_102 : G d 76 102 ls st h Q ↔ GN d 76 102 ls h (ldI ls 1 fun x => nx 103 ls (.int x :: st) h) Q := G_unf rfl rfl
theorem g76_103 : G d 76 103 ls st h Q ↔ GN d 76 103 ls h (nx 106 ls (.int (nI 161) :: st) h) Q := G_unf rfl rfl
theorem g76_106 : G d 76 106 ls st h Q ↔ GN d 76 106 ls h (pII st fun x y r => br (x = y) (nx 119 ls r h) (nx 109 ls r h)) Q := G_unf rfl rfl
theorem g76_109 : G d 76 109 ls st h Q ↔ GN d 76 109 ls h (ldR ls 0 fun a => nx 110 ls (.ref a :: st) h) Q := G_unf rfl rfl
theorem g76_110 : G d 76 110 ls st h Q ↔ GN d 76 110 ls h (nx 111 ls (.int (nI 1) :: st) h) Q := G_unf rfl rfl
theorem g76_111 : G d 76 111 ls st h Q ↔ GN d 76 111 ls h (ldR ls 0 fun a => nx 112 ls (.ref a :: st) h) Q := G_unf rfl rfl
theorem g76_112 : G d 76 112 ls st h Q ↔ GN d 76 112 ls h (pR st fun a r => ck (arr h a 5) (nx 115 ls (.int (hI h a 9) :: r) h)) Q := G_unf rfl rfl
theorem g76_115 : G d 76 115 ls st h Q ↔ GN d 76 115 ls h (pA 2 st fun as r => pR r fun a r => ck (r.length ≤ 4 ∧ arr h a 5) (cll 51 (.ref a :: as) r)) Q := G_unf rfl rfl
theorem g76_118 : G d 76 118 ls st h Q ↔ GN d 76 118 ls h (pIe st fun x => ck (x = 0 ∨ x = 1) (rtn (some (.int x)))) Q := G_unf rfl rfl
theorem g76_119 : G d 76 119 ls st h Q ↔ GN d 76 119 ls h (ldR ls 0 fun a => nx 120 ls (.ref a :: st) h) Q := G_unf rfl rfl
theorem g76_120 : G d 76 120 ls st h Q ↔ GN d 76 120 ls h (pA 0 st fun as r => pR r fun a r => ck (r.length ≤ 4 ∧ arr h a 5) (cll 52 (.ref a :: as) r)) Q := G_unf rfl rfl
theorem g76_123 : G d 76 123 ls st h Q ↔ GN d 76 123 ls h (ldR ls 0 fun a => nx 124 ls (.ref a :: st) h) Q := G_unf rfl rfl
theorem g76_124 : G d 76 124 ls st h Q ↔ GN d 76 124 ls h (pA 0 st fun as r => pR r fun a r => ck (r.length ≤ 4 ∧ arr h a 5) (cll 77 (.ref a :: as) r)) Q := G_unf rfl rfl
theorem g76_127 : G d 76 127 ls st h Q ↔ GN d 76 127 ls h (pI st fun x r => br (¬ x = 0) (nx 132 ls r h) (nx 130 ls r h)) Q := G_unf rfl rfl
theorem g76_130 : G d 76 130 ls st h Q ↔ GN d 76 130 ls h (nx 131 ls (.int (nI 0) :: st) h) Q := G_unf rfl rfl
theorem g76_131 : G d 76 131 ls st h Q ↔ GN d 76 131 ls h (pIe st fun x => ck (x = 0 ∨ x = 1) (rtn (some (.int x)))) Q := G_unf rfl rfl
theorem g76_132 : G d 76 132 ls st h Q ↔ GN d 76 132 ls h (ldR ls 0 fun a => nx 133 ls (.ref a :: st) h) Q := G_unf rfl rfl
theorem g76_133 : G d 76 133 ls st h Q ↔ GN d 76 133 ls h (nx 136 ls (.int (nI 10000) :: st) h) Q := G_unf rfl rfl
theorem g76_136 : G d 76 136 ls st h Q ↔ GN d 76 136 ls h (ldI ls 1 fun x => nx 137 ls (.int x :: st) h) Q := G_unf rfl rfl
theorem g76_137 : G d 76 137 ls st h Q ↔ GN d 76 137 ls h (pII st fun x y r => nx 138 ls (.int (x + y) :: r) h) Q := G_unf rfl rfl
theorem g76_138 : G d 76 138 ls st h Q ↔ GN d 76 138 ls h (pA 1 st fun as r => pR r fun a r => ck (r.length ≤ 4 ∧ arr h a 5) (cll 71 (.ref a :: as) r)) Q := G_unf rfl rfl
theorem g76_141 : G d 76 141 ls st h Q ↔ GN d 76 141 ls h (nx 142 ls (.int (nI 1) :: st) h) Q := G_unf rfl rfl
theorem g76_142 : G d 76 142 ls st h Q ↔ GN d 76 142 ls h (pIe st fun x => ck (x = 0 ∨ x = 1) (rtn (some (.int x)))) Q := G_unf rfl rfl
theorem g77_0 : G d 77 0 ls st h Q ↔ GN d 77 0 ls h (ldR ls 0 fun a => nx 1 ls (.ref a :: st) h) Q := G_unf rfl rfl
theorem g77_1 : G d 77 1 ls st h Q ↔ GN d 77 1 ls h (pA 0 st fun as r => pR r fun a r => ck (r.length ≤ 4 ∧ arr h a 5) (cll 78 (.ref a :: as) r)) Q := G_unf rfl rfl
theorem g77_4 : G d 77 4 ls st h Q ↔ GN d 77 4 ls h (pI st fun x r => ck (1 < ls.length) (nx 5 (st1 ls 1 (.int x)) r h)) Q := G_unf rfl rfl
theorem g77_5 : G d 77 5 ls st h Q ↔ GN d 77 5 ls h (nx 6 ls (.int (nI 0) :: st) h) Q := G_unf rfl rfl
theorem g77_6 : G d 77 6 ls st h Q ↔ GN d 77 6 ls h (pI st fun x r => ck (2 < ls.length) (nx 7 (st1 ls 2 (.int x)) r h)) Q := G_unf rfl rfl
theorem g77_7 : G d 77 7 ls st h Q ↔ GN d 77 7 ls h (ldI ls 2 fun x => nx 8 ls (.int x :: st) h) Q := G_unf rfl rfl
theorem g77_8 : G d 77 8 ls st h Q ↔ GN d 77 8 ls h (nx 11 ls (.int (nI 1600) :: st) h) Q := G_unf rfl rfl
theorem g77_11 : G d 77 11 ls st h Q ↔ GN d 77 11 ls h (pII st fun x y r => br (y ≤ x) (nx 60 ls r h) (nx 14 ls r h)) Q := G_unf rfl rfl
theorem g77_14 : G d 77 14 ls st h Q ↔ GN d 77 14 ls h (ldI ls 1 fun x => nx 15 ls (.int x :: st) h) Q := G_unf rfl rfl
theorem g77_15 : G d 77 15 ls st h Q ↔ GN d 77 15 ls h (pI st fun x r => br (x = 0) (nx 60 ls r h) (nx 18 ls r h)) Q := G_unf rfl rfl
theorem g77_18 : G d 77 18 ls st h Q ↔ GN d 77 18 ls h (ldR ls 0 fun a => nx 19 ls (.ref a :: st) h) Q := G_unf rfl rfl
theorem g77_19 : G d 77 19 ls st h Q ↔ GN d 77 19 ls h (nx 21 ls (.int (nI 43) :: st) h) Q := G_unf rfl rfl
theorem g77_21 : G d 77 21 ls st h Q ↔ GN d 77 21 ls h (nx 23 ls (.int (nI 45) :: st) h) Q := G_unf rfl rfl
theorem g77_23 : G d 77 23 ls st h Q ↔ GN d 77 23 ls h (nx 25 ls (.int (nI 45) :: st) h) Q := G_unf rfl rfl
theorem g77_25 : G d 77 25 ls st h Q ↔ GN d 77 25 ls h (pA 3 st fun as r => pR r fun a r => ck (r.length ≤ 4 ∧ arr h a 5) (cll 79 (.ref a :: as) r)) Q := G_unf rfl rfl
theorem g77_28 : G d 77 28 ls st h Q ↔ GN d 77 28 ls h (pI st fun x r => br (x = 0) (nx 60 ls r h) (nx 31 ls r h)) Q := G_unf rfl rfl
theorem g77_31 : G d 77 31 ls st h Q ↔ GN d 77 31 ls h (ldR ls 0 fun a => nx 32 ls (.ref a :: st) h) Q := G_unf rfl rfl
theorem g77_32 : G d 77 32 ls st h Q ↔ GN d 77 32 ls h (pR st fun a r => ck (arr h a 5) (nx 35 ls (.int (hI h a 6) :: r) h)) Q := G_unf rfl rfl
theorem g77_35 : G d 77 35 ls st h Q ↔ GN d 77 35 ls h (pI st fun x r => ck (3 < ls.length) (nx 36 (st1 ls 3 (.int x)) r h)) Q := G_unf rfl rfl
theorem g77_36 : G d 77 36 ls st h Q ↔ GN d 77 36 ls h (ldR ls 0 fun a => nx 37 ls (.ref a :: st) h) Q := G_unf rfl rfl
theorem g77_37 : G d 77 37 ls st h Q ↔ GN d 77 37 ls h (pA 0 st fun as r => pR r fun a r => ck (r.length ≤ 4 ∧ arr h a 5) (cll 52 (.ref a :: as) r)) Q := G_unf rfl rfl
theorem g77_40 : G d 77 40 ls st h Q ↔ GN d 77 40 ls h (ldR ls 0 fun a => nx 41 ls (.ref a :: st) h) Q := G_unf rfl rfl
theorem g77_41 : G d 77 41 ls st h Q ↔ GN d 77 41 ls h (pA 0 st fun as r => pR r fun a r => ck (r.length ≤ 4 ∧ arr h a 5) (cll 78 (.ref a :: as) r)) Q := G_unf rfl rfl
theorem g77_44 : G d 77 44 ls st h Q ↔ GN d 77 44 ls h (pI st fun x r => ck (1 < ls.length) (nx 45 (st1 ls 1 (.int x)) r h)) Q := G_unf rfl rfl
theorem g77_45 : G d 77 45 ls st h Q ↔ GN d 77 45 ls h (ldR ls 0 fun a => nx 46 ls (.ref a :: st) h) Q := G_unf rfl rfl
theorem g77_46 : G d 77 46 ls st h Q ↔ GN d 77 46 ls h (nx 49 ls (.int (nI 10000) :: st) h) Q := G_unf rfl rfl
theorem g77_49 : G d 77 49 ls st h Q ↔ GN d 77 49 ls h (ldI ls 3 fun x => nx 50 ls (.int x :: st) h) Q := G_unf rfl rfl
theorem g77_50 : G d 77 50 ls st h Q ↔ GN d 77 50 ls h (pII st fun x y r => nx 51 ls (.int (x + y) :: r) h) Q := G_unf rfl rfl
theorem g77_51 : G d 77 51 ls st h Q ↔ GN d 77 51 ls h (pA 1 st fun as r => pR r fun a r => ck (r.length ≤ 4 ∧ arr h a 5) (cll 71 (.ref a :: as) r)) Q := G_unf rfl rfl
theorem g77_54 : G d 77 54 ls st h Q ↔ GN d 77 54 ls h (ldI ls 2 fun x => nx 57 (st1 ls 2 (.int (x + (nI 1)))) st h) Q := G_unf rfl rfl
theorem g77_57 : G d 77 57 ls st h Q ↔ GN d 77 57 ls h (nx 7 ls st h) Q := G_unf rfl rfl
theorem g77_60 : G d 77 60 ls st h Q ↔ GN d 77 60 ls h (ldI ls 1 fun x => nx 61 ls (.int x :: st) h) Q := G_unf rfl rfl
theorem g77_61 : G d 77 61 ls st h Q ↔ GN d 77 61 ls h (pIe st fun x => ck (x = 0 ∨ x = 1) (rtn (some (.int x)))) Q := G_unf rfl rfl
theorem g78_0 : G d 78 0 ls st h Q ↔ GN d 78 0 ls h (ldR ls 0 fun a => nx 1 ls (.ref a :: st) h) Q := G_unf rfl rfl
theorem g78_1 : G d 78 1 ls st h Q ↔ GN d 78 1 ls h (pA 0 st fun as r => pR r fun a r => ck (r.length ≤ 4 ∧ arr h a 5) (cll 80 (.ref a :: as) r)) Q := G_unf rfl rfl
theorem g78_4 : G d 78 4 ls st h Q ↔ GN d 78 4 ls h (pI st fun x r => ck (1 < ls.length) (nx 5 (st1 ls 1 (.int x)) r h)) Q := G_unf rfl rfl
theorem g78_5 : G d 78 5 ls st h Q ↔ GN d 78 5 ls h (nx 6 ls (.int (nI 0) :: st) h) Q := G_unf rfl rfl
theorem g78_6 : G d 78 6 ls st h Q ↔ GN d 78 6 ls h (pI st fun x r => ck (2 < ls.length) (nx 7 (st1 ls 2 (.int x)) r h)) Q := G_unf rfl rfl
theorem g78_7 : G d 78 7 ls st h Q ↔ GN d 78 7 ls h (ldI ls 2 fun x => nx 8 ls (.int x :: st) h) Q := G_unf rfl rfl
theorem g78_8 : G d 78 8 ls st h Q ↔ GN d 78 8 ls h (nx 11 ls (.int (nI 1600) :: st) h) Q := G_unf rfl rfl
theorem g78_11 : G d 78 11 ls st h Q ↔ GN d 78 11 ls h (pII st fun x y r => br (y ≤ x) (nx 60 ls r h) (nx 14 ls r h)) Q := G_unf rfl rfl
theorem g78_14 : G d 78 14 ls st h Q ↔ GN d 78 14 ls h (ldI ls 1 fun x => nx 15 ls (.int x :: st) h) Q := G_unf rfl rfl
theorem g78_15 : G d 78 15 ls st h Q ↔ GN d 78 15 ls h (pI st fun x r => br (x = 0) (nx 60 ls r h) (nx 18 ls r h)) Q := G_unf rfl rfl
theorem g78_18 : G d 78 18 ls st h Q ↔ GN d 78 18 ls h (ldR ls 0 fun a => nx 19 ls (.ref a :: st) h) Q := G_unf rfl rfl
theorem g78_19 : G d 78 19 ls st h Q ↔ GN d 78 19 ls h (nx 21 ls (.int (nI 42) :: st) h) Q := G_unf rfl rfl
theorem g78_21 : G d 78 21 ls st h Q ↔ GN d 78 21 ls h (nx 23 ls (.int (nI 47) :: st) h) Q := G_unf rfl rfl
theorem g78_23 : G d 78 23 ls st h Q ↔ GN d 78 23 ls h (nx 25 ls (.int (nI 37) :: st) h) Q := G_unf rfl rfl
theorem g78_25 : G d 78 25 ls st h Q ↔ GN d 78 25 ls h (pA 3 st fun as r => pR r fun a r => ck (r.length ≤ 4 ∧ arr h a 5) (cll 79 (.ref a :: as) r)) Q := G_unf rfl rfl
theorem g78_28 : G d 78 28 ls st h Q ↔ GN d 78 28 ls h (pI st fun x r => br (x = 0) (nx 60 ls r h) (nx 31 ls r h)) Q := G_unf rfl rfl
theorem g78_31 : G d 78 31 ls st h Q ↔ GN d 78 31 ls h (ldR ls 0 fun a => nx 32 ls (.ref a :: st) h) Q := G_unf rfl rfl
theorem g78_32 : G d 78 32 ls st h Q ↔ GN d 78 32 ls h (pR st fun a r => ck (arr h a 5) (nx 35 ls (.int (hI h a 6) :: r) h)) Q := G_unf rfl rfl
theorem g78_35 : G d 78 35 ls st h Q ↔ GN d 78 35 ls h (pI st fun x r => ck (3 < ls.length) (nx 36 (st1 ls 3 (.int x)) r h)) Q := G_unf rfl rfl
theorem g78_36 : G d 78 36 ls st h Q ↔ GN d 78 36 ls h (ldR ls 0 fun a => nx 37 ls (.ref a :: st) h) Q := G_unf rfl rfl
theorem g78_37 : G d 78 37 ls st h Q ↔ GN d 78 37 ls h (pA 0 st fun as r => pR r fun a r => ck (r.length ≤ 4 ∧ arr h a 5) (cll 52 (.ref a :: as) r)) Q := G_unf rfl rfl
theorem g78_40 : G d 78 40 ls st h Q ↔ GN d 78 40 ls h (ldR ls 0 fun a => nx 41 ls (.ref a :: st) h) Q := G_unf rfl rfl
theorem g78_41 : G d 78 41 ls st h Q ↔ GN d 78 41 ls h (pA 0 st fun as r => pR r fun a r => ck (r.length ≤ 4 ∧ arr h a 5) (cll 80 (.ref a :: as) r)) Q := G_unf rfl rfl
theorem g78_44 : G d 78 44 ls st h Q ↔ GN d 78 44 ls h (pI st fun x r => ck (1 < ls.length) (nx 45 (st1 ls 1 (.int x)) r h)) Q := G_unf rfl rfl
theorem g78_45 : G d 78 45 ls st h Q ↔ GN d 78 45 ls h (ldR ls 0 fun a => nx 46 ls (.ref a :: st) h) Q := G_unf rfl rfl
theorem g78_46 : G d 78 46 ls st h Q ↔ GN d 78 46 ls h (nx 49 ls (.int (nI 10000) :: st) h) Q := G_unf rfl rfl
theorem g78_49 : G d 78 49 ls st h Q ↔ GN d 78 49 ls h (ldI ls 3 fun x => nx 50 ls (.int x :: st) h) Q := G_unf rfl rfl
theorem g78_50 : G d 78 50 ls st h Q ↔ GN d 78 50 ls h (pII st fun x y r => nx 51 ls (.int (x + y) :: r) h) Q := G_unf rfl rfl
theorem g78_51 : G d 78 51 ls st h Q ↔ GN d 78 51 ls h (pA 1 st fun as r => pR r fun a r => ck (r.length ≤ 4 ∧ arr h a 5) (cll 71 (.ref a :: as) r)) Q := G_unf rfl rfl
theorem g78_54 : G d 78 54 ls st h Q ↔ GN d 78 54 ls h (ldI ls 2 fun x => nx 57 (st1 ls 2 (.int (x + (nI 1)))) st h) Q := G_unf rfl rfl
theorem g78_57 : G d 78 57 ls st h Q ↔ GN d 78 57 ls h (nx 7 ls st h) Q := G_unf rfl rfl
theorem g78_60 : G d 78 60 ls st h Q ↔ GN d 78 60 ls h (ldI ls 1 fun x => nx 61 ls (.int x :: st) h) Q := G_unf rfl rfl
theorem g78_61 : G d 78 61 ls st h Q ↔ GN d 78 61 ls h (pIe st fun x => ck (x = 0 ∨ x = 1) (rtn (some (.int x)))) Q := G_unf rfl rfl
theorem g79_0 : G d 79 0 ls st h Q ↔ GN d 79 0 ls h (ldR ls 0 fun a => nx 1 ls (.ref a :: st) h) Q := G_unf rfl rfl
theorem g79_1 : G d 79 1 ls st h Q ↔ GN d 79 1 ls h (pR st fun a r => ck (arr h a 5) (nx 4 ls (.int (hI h a 6) :: r) h)) Q := G_unf rfl rfl
theorem g79_4 : G d 79 4 ls st h Q ↔ GN d 79 4 ls h (nx 6 ls (.int (nI 100) :: st) h) Q := G_unf rfl rfl
theorem g79_6 : G d 79 6 ls st h Q ↔ GN d 79 6 ls h (pII st fun x y r => nx 7 ls (.int (x - y) :: r) h) Q := G_unf rfl rfl
theorem g79_7 : G d 79 7 ls st h Q ↔ GN d 79 7 ls h (pI st fun x r => ck (4 < ls.length) (nx 9 (st1 ls 4 (.int x)) r h)) Q := G_unf rfl rfl
theorem g79_9 : G d 79 9 ls st h Q ↔ GN d 79 9 ls h (ldI ls 4 fun x => nx 11 ls (.int x :: st) h) Q := G_unf rfl rfl
theorem g79_11 : G d 79 11 ls st h Q ↔ GN d 79 11 ls h (ldI ls 1 fun x => nx 12 ls (.int x :: st) h) Q := G_unf rfl rfl
theorem g79_12 : G d 79 12 ls st h Q ↔ GN d 79 12 ls h (pII st fun x y r => br (x = y) (nx 27 ls r h) (nx 15 ls r h)) Q := G_unf rfl rfl
theorem g79_15 : G d 79 15 ls st h Q ↔ GN d 79 15 ls h (ldI ls 4 fun x => nx 17 ls (.int x :: st) h) Q := G_unf rfl rfl
theorem g79_17 : G d 79 17 ls st h Q ↔ GN d 79 17 ls h (ldI ls 2 fun x => nx 18 ls (.int x :: st) h) Q := G_unf rfl rfl
theorem g79_18 : G d 79 18 ls st h Q ↔ GN d 79 18 ls h (pII st fun x y r => br (x = y) (nx 27 ls r h) (nx 21 ls r h)) Q := G_unf rfl rfl
theorem g79_21 : G d 79 21 ls st h Q ↔ GN d 79 21 ls h (ldI ls 4 fun x => nx 23 ls (.int x :: st) h) Q := G_unf rfl rfl
theorem g79_23 : G d 79 23 ls st h Q ↔ GN d 79 23 ls h (ldI ls 3 fun x => nx 24 ls (.int x :: st) h) Q := G_unf rfl rfl
theorem g79_24 : G d 79 24 ls st h Q ↔ GN d 79 24 ls h (pII st fun x y r => br (¬ x = y) (nx 31 ls r h) (nx 27 ls r h)) Q := G_unf rfl rfl
theorem g79_27 : G d 79 27 ls st h Q ↔ GN d 79 27 ls h (nx 28 ls (.int (nI 1) :: st) h) Q := G_unf rfl rfl
theorem g79_28 : G d 79 28 ls st h Q ↔ GN d 79 28 ls h (nx 32 ls st h) Q := G_unf rfl rfl
theorem g79_31 : G d 79 31 ls st h Q ↔ GN d 79 31 ls h (nx 32 ls (.int (nI 0) :: st) h) Q := G_unf rfl rfl
theorem g79_32 : G d 79 32 ls st h Q ↔ GN d 79 32 ls h (pIe st fun x => ck (x = 0 ∨ x = 1) (rtn (some (.int x)))) Q := G_unf rfl rfl
theorem g80_0 : G d 80 0 ls st h Q ↔ GN d 80 0 ls h (ldR ls 0 fun a => nx 1 ls (.ref a :: st) h) Q := G_unf rfl rfl
theorem g80_1 : G d 80 1 ls st h Q ↔ GN d 80 1 ls h (pR st fun a r => ck (arr h a 5) (nx 4 ls (.int (hI h a 6) :: r) h)) Q := G_unf rfl rfl
theorem g80_4 : G d 80 4 ls st h Q ↔ GN d 80 4 ls h (pI st fun x r => br (x.toInt = 1) (nx 126 ls r h) (br (x.toInt = 2) (nx 126 ls r h) (br (x.toInt = 6) (nx 126 ls r h) (br (x.toInt = 15) (nx 126 ls r h) (br (x.toInt = 16) (nx 126 ls r h) (br (x.toInt = 17) (nx 126 ls r h) (br (x.toInt = 18) (nx 126 ls r h) (br (x.toInt = 19) (nx 126 ls r h) (br (x.toInt = 24) (nx 149 ls r h) (br (x.toInt = 25) (nx 149 ls r h) (br (x.toInt = 27) (nx 112 ls r h) (br (x.toInt = 140) (nx 144 ls r h) (nx 154 ls r h))))))))))))) Q := G_unf rfl rfl
theorem g80_112 : G d 80 112 ls st h Q ↔ GN d 80 112 ls h (ldR ls 0 fun a => nx 113 ls (.ref a :: st) h) Q := G_unf rfl rfl
theorem g80_113 : G d 80 113 ls st h Q ↔ GN d 80 113 ls h (ldR ls 0 fun a => nx 114 ls (.ref a :: st) h) Q := G_unf rfl rfl
theorem g80_114 : G d 80 114 ls st h Q ↔ GN d 80 114 ls h (pR st fun a r => ck (arr h a 5) (nx 117 ls (.int (hI h a 7) :: r) h)) Q := G_unf rfl rfl
theorem g80_117 : G d 80 117 ls st h Q ↔ GN d 80 117 ls h (pA 1 st fun as r => pR r fun a r => ck (r.length ≤ 4 ∧ arr h a 5) (cll 71 (.ref a :: as) r)) Q := G_unf rfl rfl
theorem g80_120 : G d 80 120 ls st h Q ↔ GN d 80 120 ls h (ldR ls 0 fun a => nx 121 ls (.ref a :: st) h) Q := G_unf rfl rfl
theorem g80_121 : G d 80 121 ls st h Q ↔ GN d 80 121 ls h (pA 0 st fun as r => pR r fun a r => ck (r.length ≤ 4 ∧ arr h a 5) (cll 52 (.ref a :: as) r)) Q := G_unf rfl rfl
theorem g80_124 : G d 80 124 ls st h Q ↔ GN d 80 124 ls h (nx 125 ls (.int (nI 1) :: st) h) Q := G_unf rfl rfl
theorem g80_125 : G d 80 125 ls st h Q ↔ GN d 80 125 ls h (pIe st fun x => ck (x = 0 ∨ x = 1) (rtn (some (.int x)))) Q := G_unf rfl rfl
theorem g80_126 : G d 80 126 ls st h Q ↔ GN d 80 126 ls h (ldR ls 0 fun a => nx 127 ls (.ref a :: st) h) Q := G_unf rfl rfl
theorem g80_127 : G d 80 127 ls st h Q ↔ GN d 80 127 ls h (nx 130 ls (.int (nI 10000) :: st) h) Q := G_unf rfl rfl
theorem g80_130 : G d 80 130 ls st h Q ↔ GN d 80 130 ls h (ldR ls 0 fun a => nx 131 ls (.ref a :: st) h) Q := G_unf rfl rfl
theorem g80_131 : G d 80 131 ls st h Q ↔ GN d 80 131 ls h (pR st fun a r => ck (arr h a 5) (nx 134 ls (.int (hI h a 6) :: r) h)) Q := G_unf rfl rfl
theorem g80_134 : G d 80 134 ls st h Q ↔ GN d 80 134 ls h (pII st fun x y r => nx 135 ls (.int (x + y) :: r) h) Q := G_unf rfl rfl
theorem g80_135 : G d 80 135 ls st h Q ↔ GN d 80 135 ls h (pA 1 st fun as r => pR r fun a r => ck (r.length ≤ 4 ∧ arr h a 5) (cll 71 (.ref a :: as) r)) Q := G_unf rfl rfl
theorem g80_138 : G d 80 138 ls st h Q ↔ GN d 80 138 ls h (ldR ls 0 fun a => nx 139 ls (.ref a :: st) h) Q := G_unf rfl rfl
theorem g80_139 : G d 80 139 ls st h Q ↔ GN d 80 139 ls h (pA 0 st fun as r => pR r fun a r => ck (r.length ≤ 4 ∧ arr h a 5) (cll 52 (.ref a :: as) r)) Q := G_unf rfl rfl
theorem g80_142 : G d 80 142 ls st h Q ↔ GN d 80 142 ls h (nx 143 ls (.int (nI 1) :: st) h) Q := G_unf rfl rfl
theorem g80_143 : G d 80 143 ls st h Q ↔ GN d 80 143 ls h (pIe st fun x => ck (x = 0 ∨ x = 1) (rtn (some (.int x)))) Q := G_unf rfl rfl
theorem g80_144 : G d 80 144 ls st h Q ↔ GN d 80 144 ls h (ldR ls 0 fun a => nx 145 ls (.ref a :: st) h) Q := G_unf rfl rfl
theorem g80_145 : G d 80 145 ls st h Q ↔ GN d 80 145 ls h (pA 0 st fun as r => pR r fun a r => ck (r.length ≤ 4 ∧ arr h a 5) (cll 81 (.ref a :: as) r)) Q := G_unf rfl rfl
theorem g80_148 : G d 80 148 ls st h Q ↔ GN d 80 148 ls h (pIe st fun x => ck (x = 0 ∨ x = 1) (rtn (some (.int x)))) Q := G_unf rfl rfl
theorem g80_149 : G d 80 149 ls st h Q ↔ GN d 80 149 ls h (ldR ls 0 fun a => nx 150 ls (.ref a :: st) h) Q := G_unf rfl rfl
theorem g80_150 : G d 80 150 ls st h Q ↔ GN d 80 150 ls h (pA 0 st fun as r => pR r fun a r => ck (r.length ≤ 4 ∧ arr h a 5) (cll 82 (.ref a :: as) r)) Q := G_unf rfl rfl
theorem g80_153 : G d 80 153 ls st h Q ↔ GN d 80 153 ls h (pIe st fun x => ck (x = 0 ∨ x = 1) (rtn (some (.int x)))) Q := G_unf rfl rfl
theorem g80_154 : G d 80 154 ls st h Q ↔ GN d 80 154 ls h (ldR ls 0 fun a => nx 155 ls (.ref a :: st) h) Q := G_unf rfl rfl
theorem g80_155 : G d 80 155 ls st h Q ↔ GN d 80 155 ls h (nx 156 ls (.int (nI 1) :: st) h) Q := G_unf rfl rfl
theorem g80_156 : G d 80 156 ls st h Q ↔ GN d 80 156 ls h (ldR ls 0 fun a => nx 157 ls (.ref a :: st) h) Q := G_unf rfl rfl
theorem g80_157 : G d 80 157 ls st h Q ↔ GN d 80 157 ls h (pR st fun a r => ck (arr h a 5) (nx 160 ls (.int (hI h a 9) :: r) h)) Q := G_unf rfl rfl
theorem g80_160 : G d 80 160 ls st h Q ↔ GN d 80 160 ls h (pA 2 st fun as r => pR r fun a r => ck (r.length ≤ 4 ∧ arr h a 5) (cll 51 (.ref a :: as) r)) Q := G_unf rfl rfl
theorem g80_163 : G d 80 163 ls st h Q ↔ GN d 80 163 ls h (pIe st fun x => ck (x = 0 ∨ x = 1) (rtn (some (.int x)))) Q := G_unf rfl rfl
theorem g81_0 : G d 81 0 ls st h Q ↔ GN d 81 0 ls h (ldR ls 0 fun a => nx 1 ls (.ref a :: st) h) Q := G_unf rfl rfl
theorem g81_1 : G d 81 1 ls st h Q ↔ GN d 81 1 ls h (pA 0 st fun as r => pR r fun a r => ck (r.length ≤ 4 ∧ arr h a 5) (cll 72 (.ref a :: as) r)) Q := G_unf rfl rfl
theorem g81_4 : G d 81 4 ls st h Q ↔ GN d 81 4 ls h (pI st fun x r => br (x = 0) (nx 28 ls r h) (nx 7 ls r h)) Q := G_unf rfl rfl
theorem g81_7 : G d 81 7 ls st h Q ↔ GN d 81 7 ls h (ldR ls 0 fun a => nx 8 ls (.ref a :: st) h) Q := G_unf rfl rfl
theorem g81_8 : G d 81 8 ls st h Q ↔ GN d 81 8 ls h (pA 0 st fun as r => pR r fun a r => ck (r.length ≤ 4 ∧ arr h a 5) (cll 77 (.ref a :: as) r)) Q := G_unf rfl rfl
theorem g81_11 : G d 81 11 ls st h Q ↔ GN d 81 11 ls h (pI st fun x r => br (x = 0) (nx 28 ls r h) (nx 14 ls r h)) Q := G_unf rfl rfl
theorem g81_14 : G d 81 14 ls st h Q ↔ GN d 81 14 ls h (ldR ls 0 fun a => nx 15 ls (.ref a :: st) h) Q := G_unf rfl rfl
theorem g81_15 : G d 81 15 ls st h Q ↔ GN d 81 15 ls h (nx 18 ls (.int (nI 141) :: st) h) Q := G_unf rfl rfl
theorem g81_18 : G d 81 18 ls st h Q ↔ GN d 81 18 ls h (pA 1 st fun as r => pR r fun a r => ck (r.length ≤ 4 ∧ arr h a 5) (cll 55 (.ref a :: as) r)) Q := G_unf rfl rfl
theorem g81_21 : G d 81 21 ls st h Q ↔ GN d 81 21 ls h (pI st fun x r => br (x = 0) (nx 28 ls r h) (nx 24 ls r h)) Q := G_unf rfl rfl
theorem g81_24 : G d 81 24 ls st h Q ↔ GN d 81 24 ls h (nx 25 ls (.int (nI 1) :: st) h) Q := G_unf rfl rfl
theorem g81_25 : G d 81 25 ls st h Q ↔ GN d 81 25 ls h (nx 29 ls st h) Q := G_unf rfl rfl
theorem g81_28 : G d 81 28 ls st h Q ↔ GN d 81 28 ls h (nx 29 ls (.int (nI 0) :: st) h) Q := G_unf rfl rfl
theorem g81_29 : G d 81 29 ls st h Q ↔ GN d 81 29 ls h (pI st fun x r => ck (1 < ls.length) (nx 30 (st1 ls 1 (.int x)) r h)) Q := G_unf rfl rfl
theorem g81_30 : G d 81 30 ls st h Q ↔ GN d 81 30 ls h (ldR ls 0 fun a => nx 31 ls (.ref a :: st) h) Q := G_unf rfl rfl
theorem g81_31 : G d 81 31 ls st h Q ↔ GN d 81 31 ls h (p1 st fun v r => nx 32 ls (v :: v :: r) h) Q := G_unf rfl rfl
theorem g81_32 : G d 81 32 ls st h Q ↔ GN d 81 32 ls h (pR st fun a r => ck (arr h a 5) (nx 35 ls (.int (hI h a 12) :: r) h)) Q := G_unf rfl rfl
theorem g81_35 : G d 81 35 ls st h Q ↔ GN d 81 35 ls h (nx 36 ls (.int (nI 1) :: st) h) Q := G_unf rfl rfl
theorem g81_36 : G d 81 36 ls st h Q ↔ GN d 81 36 ls h (pII st fun x y r => nx 37 ls (.int (x - y) :: r) h) Q := G_unf rfl rfl
theorem g81_37 : G d 81 37 ls st h Q ↔ GN d 81 37 ls h (pRI st fun a x r => ck (arr h a 5) (nx 40 ls r (sI h a 12 x))) Q := G_unf rfl rfl
theorem g81_40 : G d 81 40 ls st h Q ↔ GN d 81 40 ls h (ldI ls 1 fun x => nx 41 ls (.int x :: st) h) Q := G_unf rfl rfl
theorem g81_41 : G d 81 41 ls st h Q ↔ GN d 81 41 ls h (pIe st fun x => ck (x = 0 ∨ x = 1) (rtn (some (.int x)))) Q := G_unf rfl rfl
theorem g82_0 : G d 82 0 ls st h Q ↔ GN d 82 0 ls h (ldR ls 0 fun a => nx 1 ls (.ref a :: st) h) Q := G_unf rfl rfl
theorem g82_1 : G d 82 1 ls st h Q ↔ GN d 82 1 ls h (pR st fun a r => ck (arr h a 5) (nx 4 ls (.int (hI h a 6) :: r) h)) Q := G_unf rfl rfl
theorem g82_4 : G d 82 4 ls st h Q ↔ GN d 82 4 ls h (pI st fun x r => ck (1 < ls.length) (nx 5 (st1 ls 1 (.int x)) r h)) Q := G_unf rfl rfl
theorem g82_5 : G d 82 5 ls st h Q ↔ GN d 82 5 ls h (ldR ls 0 fun a => nx 6 ls (.ref a :: st) h) Q := G_unf rfl rfl
theorem g82_6 : G d 82 6 ls st h Q ↔ GN d 82 6 ls h (pA 0 st fun as r => pR r fun a r => ck (r.length ≤ 4 ∧ arr h a 5) (cll 52 (.ref a :: as) r)) Q := G_unf rfl rfl
theorem g82_9 : G d 82 9 ls st h Q ↔ GN d 82 9 ls h (ldR ls 0 fun a => nx 10 ls (.ref a :: st) h) Q := G_unf rfl rfl
theorem g82_10 : G d 82 10 ls st h Q ↔ GN d 82 10 ls h (pR st fun a r => ck (arr h a 5) (nx 13 ls (.int (hI h a 6) :: r) h)) Q := G_unf rfl rfl
theorem g82_13 : G d 82 13 ls st h Q ↔ GN d 82 13 ls h (nx 16 ls (.int (nI 140) :: st) h) Q := G_unf rfl rfl
theorem g82_16 : G d 82 16 ls st h Q ↔ GN d 82 16 ls h (pII st fun x y r => br (x = y) (nx 29 ls r h) (nx 19 ls r h)) Q := G_unf rfl rfl
theorem g82_19 : G d 82 19 ls st h Q ↔ GN d 82 19 ls h (ldR ls 0 fun a => nx 20 ls (.ref a :: st) h) Q := G_unf rfl rfl
theorem g82_20 : G d 82 20 ls st h Q ↔ GN d 82 20 ls h (nx 21 ls (.int (nI 1) :: st) h) Q := G_unf rfl rfl
theorem g82_21 : G d 82 21 ls st h Q ↔ GN d 82 21 ls h (ldR ls 0 fun a => nx 22 ls (.ref a :: st) h) Q := G_unf rfl rfl
theorem g82_22 : G d 82 22 ls st h Q ↔ GN d 82 22 ls h (pR st fun a r => ck (arr h a 5) (nx 25 ls (.int (hI h a 9) :: r) h)) Q := G_unf rfl rfl
theorem g82_25 : G d 82 25 ls st h Q ↔ GN d 82 25 ls h (pA 2 st fun as r => pR r fun a r => ck (r.length ≤ 4 ∧ arr h a 5) (cll 51 (.ref a :: as) r)) Q := G_unf rfl rfl
theorem g82_28 : G d 82 28 ls st h Q ↔ GN d 82 28 ls h (pIe st fun x => ck (x = 0 ∨ x = 1) (rtn (some (.int x)))) Q := G_unf rfl rfl
theorem g82_29 : G d 82 29 ls st h Q ↔ GN d 82 29 ls h (ldR ls 0 fun a => nx 30 ls (.ref a :: st) h) Q := G_unf rfl rfl
theorem g82_30 : G d 82 30 ls st h Q ↔ GN d 82 30 ls h (pA 0 st fun as r => pR r fun a r => ck (r.length ≤ 4 ∧ arr h a 5) (cll 72 (.ref a :: as) r)) Q := G_unf rfl rfl
theorem g82_33 : G d 82 33 ls st h Q ↔ GN d 82 33 ls h (pI st fun x r => br (x = 0) (nx 74 ls r h) (nx 36 ls r h)) Q := G_unf rfl rfl
theorem g82_36 : G d 82 36 ls st h Q ↔ GN d 82 36 ls h (ldR ls 0 fun a => nx 37 ls (.ref a :: st) h) Q := G_unf rfl rfl
theorem g82_37 : G d 82 37 ls st h Q ↔ GN d 82 37 ls h (pA 0 st fun as r => pR r fun a r => ck (r.length ≤ 4 ∧ arr h a 5) (cll 77 (.ref a :: as) r)) Q := G_unf rfl rfl
theorem g82_40 : G d 82 40 ls st h Q ↔ GN d 82 40 ls h (pI st fun x r => br (x = 0) (nx 74 ls r h) (nx 43 ls r h)) Q := G_unf rfl rfl
theorem g82_43 : G d 82 43 ls st h Q ↔ GN d 82 43 ls h (ldR ls 0 fun a => nx 44 ls (.ref a :: st) h) Q := G_unf rfl rfl
theorem g82_44 : G d 82 44 ls st h Q ↔ GN d 82 44 ls h (nx 47 ls (.int (nI 144) :: st) h) Q := G_unf rfl rfl
theorem g82_47 : G d 82 47 ls st h Q ↔ GN d 82 47 ls h (pA 1 st fun as r => pR r fun a r => ck (r.length ≤ 4 ∧ arr h a 5) (cll 55 (.ref a :: as) r)) Q := G_unf rfl rfl
theorem g82_50 : G d 82 50 ls st h Q ↔ GN d 82 50 ls h (pI st fun x r => br (x = 0) (nx 74 ls r h) (nx 53 ls r h)) Q := G_unf rfl rfl
theorem g82_53 : G d 82 53 ls st h Q ↔ GN d 82 53 ls h (ldR ls 0 fun a => nx 54 ls (.ref a :: st) h) Q := G_unf rfl rfl
theorem g82_54 : G d 82 54 ls st h Q ↔ GN d 82 54 ls h (pA 0 st fun as r => pR r fun a r => ck (r.length ≤ 4 ∧ arr h a 5) (cll 77 (.ref a :: as) r)) Q := G_unf rfl rfl
theorem g82_57 : G d 82 57 ls st h Q ↔ GN d 82 57 ls h (pI st fun x r => br (x = 0) (nx 74 ls r h) (nx 60 ls r h)) Q := G_unf rfl rfl
theorem g82_60 : G d 82 60 ls st h Q ↔ GN d 82 60 ls h (ldR ls 0 fun a => nx 61 ls (.ref a :: st) h) Q := G_unf rfl rfl
theorem g82_61 : G d 82 61 ls st h Q ↔ GN d 82 61 ls h (nx 64 ls (.int (nI 141) :: st) h) Q := G_unf rfl rfl
theorem g82_64 : G d 82 64 ls st h Q ↔ GN d 82 64 ls h (pA 1 st fun as r => pR r fun a r => ck (r.length ≤ 4 ∧ arr h a 5) (cll 55 (.ref a :: as) r)) Q := G_unf rfl rfl
theorem g82_67 : G d 82 67 ls st h Q ↔ GN d 82 67 ls h (pI st fun x r => br (x = 0) (nx 74 ls r h) (nx 70 ls r h)) Q := G_unf rfl rfl
theorem g82_70 : G d 82 70 ls st h Q ↔ GN d 82 70 ls h (nx 71 ls (.int (nI 1) :: st) h) Q := G_unf rfl rfl
theorem g82_71 : G d 82 71 ls st h Q ↔ GN d 82 71 ls h (nx 75 ls st h) Q := G_unf rfl rfl
theorem g82_74 : G d 82 74 ls st h Q ↔ GN d 82 74 ls h (nx 75 ls (.int (nI 0) :: st) h) Q := G_unf rfl rfl
theorem g82_75 : G d 82 75 ls st h Q ↔ GN d 82 75 ls h (pI st fun x r => ck (2 < ls.length) (nx 76 (st1 ls 2 (.int x)) r h)) Q := G_unf rfl rfl
theorem g82_76 : G d 82 76 ls st h Q ↔ GN d 82 76 ls h (ldR ls 0 fun a => nx 77 ls (.ref a :: st) h) Q := G_unf rfl rfl
theorem g82_77 : G d 82 77 ls st h Q ↔ GN d 82 77 ls h (p1 st fun v r => nx 78 ls (v :: v :: r) h) Q := G_unf rfl rfl
theorem g82_78 : G d 82 78 ls st h Q ↔ GN d 82 78 ls h (pR st fun a r => ck (arr h a 5) (nx 81 ls (.int (hI h a 12) :: r) h)) Q := G_unf rfl rfl
theorem g82_81 : G d 82 81 ls st h Q ↔ GN d 82 81 ls h (nx 82 ls (.int (nI 1) :: st) h) Q := G_unf rfl rfl
theorem g82_82 : G d 82 82 ls st h Q ↔ GN d 82 82 ls h (pII st fun x y r => nx 83 ls (.int (x - y) :: r) h) Q := G_unf rfl rfl
theorem g82_83 : G d 82 83 ls st h Q ↔ GN d 82 83 ls h (pRI st fun a x r => ck (arr h a 5) (nx 86 ls r (sI h a 12 x))) Q := G_unf rfl rfl
theorem g82_86 : G d 82 86 ls st h Q ↔ GN d 82 86 ls h (ldR ls 0 fun a => nx 87 ls (.ref a :: st) h) Q := G_unf rfl rfl
theorem g82_87 : G d 82 87 ls st h Q ↔ GN d 82 87 ls h (nx 90 ls (.int (nI 10000) :: st) h) Q := G_unf rfl rfl
theorem g82_90 : G d 82 90 ls st h Q ↔ GN d 82 90 ls h (ldI ls 1 fun x => nx 91 ls (.int x :: st) h) Q := G_unf rfl rfl
theorem g82_91 : G d 82 91 ls st h Q ↔ GN d 82 91 ls h (pII st fun x y r => nx 92 ls (.int (x + y) :: r) h) Q := G_unf rfl rfl
theorem g82_92 : G d 82 92 ls st h Q ↔ GN d 82 92 ls h (pA 1 st fun as r => pR r fun a r => ck (r.length ≤ 4 ∧ arr h a 5) (cll 71 (.ref a :: as) r)) Q := G_unf rfl rfl
theorem g82_95 : G d 82 95 ls st h Q ↔ GN d 82 95 ls h (ldI ls 2 fun x => nx 96 ls (.int x :: st) h) Q := G_unf rfl rfl
theorem g82_96 : G d 82 96 ls st h Q ↔ GN d 82 96 ls h (pIe st fun x => ck (x = 0 ∨ x = 1) (rtn (some (.int x)))) Q := G_unf rfl rfl
theorem g83_0 : G d 83 0 ls st h Q ↔ GN d 83 0 ls h (ldR ls 0 fun a => nx 1 ls (.ref a :: st) h) Q := G_unf rfl rfl
theorem g83_1 : G d 83 1 ls st h Q ↔ GN d 83 1 ls h (pR st fun _ r => ck (r.length ≤ 4) (nx 4 ls r h)) Q := G_unf rfl rfl
theorem g83_4 : G d 83 4 ls st h Q ↔ GN d 83 4 ls h (ldR ls 0 fun a => nx 5 ls (.ref a :: st) h) Q := G_unf rfl rfl
theorem g83_5 : G d 83 5 ls st h Q ↔ GN d 83 5 ls h (nx 7 ls (.int (nI 8) :: st) h) Q := G_unf rfl rfl
theorem g83_7 : G d 83 7 ls st h Q ↔ GN d 83 7 ls h (pI st fun z r => ck (0 ≤ z.toInt ∧ z.toInt ≤ 1000000 ∧ lay (hN h) = 10) (nx 9 ls (.ref (hN h) :: r) (alc h z.toNatClampNeg z.toNatClampNeg))) Q := G_unf rfl rfl
theorem g83_9 : G d 83 9 ls st h Q ↔ GN d 83 9 ls h (pRR st fun a x r => ck (arr h a 6) (nx 12 ls r (sR h a 1 (some x)))) Q := G_unf rfl rfl
theorem g83_12 : G d 83 12 ls st h Q ↔ GN d 83 12 ls h (ldR ls 0 fun a => nx 13 ls (.ref a :: st) h) Q := G_unf rfl rfl
theorem g83_13 : G d 83 13 ls st h Q ↔ GN d 83 13 ls h (nx 15 ls (.int (nI 8) :: st) h) Q := G_unf rfl rfl
theorem g83_15 : G d 83 15 ls st h Q ↔ GN d 83 15 ls h (pI st fun z r => ck (0 ≤ z.toInt ∧ z.toInt ≤ 1000000 ∧ lay (hN h) = 10) (nx 17 ls (.ref (hN h) :: r) (alc h z.toNatClampNeg z.toNatClampNeg))) Q := G_unf rfl rfl
theorem g83_17 : G d 83 17 ls st h Q ↔ GN d 83 17 ls h (pRR st fun a x r => ck (arr h a 6) (nx 20 ls r (sR h a 2 (some x)))) Q := G_unf rfl rfl
theorem g83_20 : G d 83 20 ls st h Q ↔ GN d 83 20 ls h (ldR ls 0 fun a => nx 21 ls (.ref a :: st) h) Q := G_unf rfl rfl
theorem g83_21 : G d 83 21 ls st h Q ↔ GN d 83 21 ls h (nx 23 ls (.int (nI 96) :: st) h) Q := G_unf rfl rfl
theorem g83_23 : G d 83 23 ls st h Q ↔ GN d 83 23 ls h (pI st fun z r => ck (0 ≤ z.toInt ∧ z.toInt ≤ 1000000 ∧ lay (hN h) = 10) (nx 25 ls (.ref (hN h) :: r) (alc h z.toNatClampNeg z.toNatClampNeg))) Q := G_unf rfl rfl
theorem g83_25 : G d 83 25 ls st h Q ↔ GN d 83 25 ls h (pRR st fun a x r => ck (arr h a 6) (nx 28 ls r (sR h a 3 (some x)))) Q := G_unf rfl rfl
theorem g83_28 : G d 83 28 ls st h Q ↔ GN d 83 28 ls h (ldR ls 0 fun a => nx 29 ls (.ref a :: st) h) Q := G_unf rfl rfl
theorem g83_29 : G d 83 29 ls st h Q ↔ GN d 83 29 ls h (nx 31 ls (.int (nI 8) :: st) h) Q := G_unf rfl rfl
theorem g83_31 : G d 83 31 ls st h Q ↔ GN d 83 31 ls h (pI st fun z r => ck (0 ≤ z.toInt ∧ z.toInt ≤ 1000000 ∧ lay (hN h) = 10) (nx 33 ls (.ref (hN h) :: r) (alc h z.toNatClampNeg z.toNatClampNeg))) Q := G_unf rfl rfl
theorem g83_33 : G d 83 33 ls st h Q ↔ GN d 83 33 ls h (pRR st fun a x r => ck (arr h a 6) (nx 36 ls r (sR h a 4 (some x)))) Q := G_unf rfl rfl
theorem g83_36 : G d 83 36 ls st h Q ↔ GN d 83 36 ls h (ldR ls 0 fun a => nx 37 ls (.ref a :: st) h) Q := G_unf rfl rfl
theorem g83_37 : G d 83 37 ls st h Q ↔ GN d 83 37 ls h (nx 39 ls (.int (nI 40) :: st) h) Q := G_unf rfl rfl
theorem g83_39 : G d 83 39 ls st h Q ↔ GN d 83 39 ls h (pI st fun z r => ck (0 ≤ z.toInt ∧ z.toInt ≤ 1000000 ∧ lay (hN h) = 10) (nx 41 ls (.ref (hN h) :: r) (alc h z.toNatClampNeg z.toNatClampNeg))) Q := G_unf rfl rfl
theorem g83_41 : G d 83 41 ls st h Q ↔ GN d 83 41 ls h (pRR st fun a x r => ck (arr h a 6) (nx 44 ls r (sR h a 5 (some x)))) Q := G_unf rfl rfl
theorem g83_44 : G d 83 44 ls st h Q ↔ GN d 83 44 ls h (ldR ls 0 fun a => nx 45 ls (.ref a :: st) h) Q := G_unf rfl rfl
theorem g83_45 : G d 83 45 ls st h Q ↔ GN d 83 45 ls h (pR st fun a r => ck (arr h a 6) (nx 48 ls (rv (hR h a 3) :: r) h)) Q := G_unf rfl rfl
theorem g83_48 : G d 83 48 ls st h Q ↔ GN d 83 48 ls h (nx 49 ls (.int (-1) :: st) h) Q := G_unf rfl rfl
theorem g83_49 : G d 83 49 ls st h Q ↔ GN d 83 49 ls h (pA 2 st fun as r => ck (r.length ≤ 4) (cll 288 as r)) Q := G_unf rfl rfl
theorem g83_52 : G d 83 52 ls st h Q ↔ GN d 83 52 ls h (pE st (rtn none)) Q := G_unf rfl rfl
theorem g84_0 : G d 84 0 ls st h Q ↔ GN d 84 0 ls h (ldR ls 0 fun a => nx 1 ls (.ref a :: st) h) Q := G_unf rfl rfl
theorem g84_1 : G d 84 1 ls st h Q ↔ GN d 84 1 ls h (nx 2 ls (.int (nI 0) :: st) h) Q := G_unf rfl rfl
theorem g84_2 : G d 84 2 ls st h Q ↔ GN d 84 2 ls h (pRI st fun a x r => ck (arr h a 6) (nx 5 ls r (sI h a 0 x))) Q := G_unf rfl rfl
theorem g84_5 : G d 84 5 ls st h Q ↔ GN d 84 5 ls h (ldR ls 0 fun a => nx 6 ls (.ref a :: st) h) Q := G_unf rfl rfl
theorem g84_6 : G d 84 6 ls st h Q ↔ GN d 84 6 ls h (pR st fun a r => ck (arr h a 6) (nx 9 ls (rv (hR h a 1) :: r) h)) Q := G_unf rfl rfl
theorem g84_9 : G d 84 9 ls st h Q ↔ GN d 84 9 ls h (nx 10 ls (.int (nI 0) :: st) h) Q := G_unf rfl rfl
theorem g84_10 : G d 84 10 ls st h Q ↔ GN d 84 10 ls h (pA 2 st fun as r => ck (r.length ≤ 4) (cll 288 as r)) Q := G_unf rfl rfl
theorem g84_13 : G d 84 13 ls st h Q ↔ GN d 84 13 ls h (ldR ls 0 fun a => nx 14 ls (.ref a :: st) h) Q := G_unf rfl rfl
theorem g84_14 : G d 84 14 ls st h Q ↔ GN d 84 14 ls h (pR st fun a r => ck (arr h a 6) (nx 17 ls (rv (hR h a 2) :: r) h)) Q := G_unf rfl rfl
theorem g84_17 : G d 84 17 ls st h Q ↔ GN d 84 17 ls h (nx 18 ls (.int (nI 0) :: st) h) Q := G_unf rfl rfl
theorem g84_18 : G d 84 18 ls st h Q ↔ GN d 84 18 ls h (pA 2 st fun as r => ck (r.length ≤ 4) (cll 288 as r)) Q := G_unf rfl rfl
theorem g84_21 : G d 84 21 ls st h Q ↔ GN d 84 21 ls h (ldR ls 0 fun a => nx 22 ls (.ref a :: st) h) Q := G_unf rfl rfl
theorem g84_22 : G d 84 22 ls st h Q ↔ GN d 84 22 ls h (pR st fun a r => ck (arr h a 6) (nx 25 ls (rv (hR h a 3) :: r) h)) Q := G_unf rfl rfl
theorem g84_25 : G d 84 25 ls st h Q ↔ GN d 84 25 ls h (nx 26 ls (.int (-1) :: st) h) Q := G_unf rfl rfl
theorem g84_26 : G d 84 26 ls st h Q ↔ GN d 84 26 ls h (pA 2 st fun as r => ck (r.length ≤ 4) (cll 288 as r)) Q := G_unf rfl rfl
theorem g84_29 : G d 84 29 ls st h Q ↔ GN d 84 29 ls h (ldR ls 0 fun a => nx 30 ls (.ref a :: st) h) Q := G_unf rfl rfl
theorem g84_30 : G d 84 30 ls st h Q ↔ GN d 84 30 ls h (pR st fun a r => ck (arr h a 6) (nx 33 ls (rv (hR h a 4) :: r) h)) Q := G_unf rfl rfl
theorem g84_33 : G d 84 33 ls st h Q ↔ GN d 84 33 ls h (nx 34 ls (.int (nI 0) :: st) h) Q := G_unf rfl rfl
theorem g84_34 : G d 84 34 ls st h Q ↔ GN d 84 34 ls h (pA 2 st fun as r => ck (r.length ≤ 4) (cll 288 as r)) Q := G_unf rfl rfl
theorem g84_37 : G d 84 37 ls st h Q ↔ GN d 84 37 ls h (ldR ls 0 fun a => nx 38 ls (.ref a :: st) h) Q := G_unf rfl rfl
theorem g84_38 : G d 84 38 ls st h Q ↔ GN d 84 38 ls h (nx 39 ls (.int (nI 0) :: st) h) Q := G_unf rfl rfl
theorem g84_39 : G d 84 39 ls st h Q ↔ GN d 84 39 ls h (pRI st fun a x r => ck (arr h a 6) (nx 42 ls r (sI h a 6 x))) Q := G_unf rfl rfl
theorem g84_42 : G d 84 42 ls st h Q ↔ GN d 84 42 ls h (ldR ls 0 fun a => nx 43 ls (.ref a :: st) h) Q := G_unf rfl rfl
theorem g84_43 : G d 84 43 ls st h Q ↔ GN d 84 43 ls h (pA 0 st fun as r => pR r fun a r => ck (r.length ≤ 4 ∧ arr h a 6) (cll 86 (.ref a :: as) r)) Q := G_unf rfl rfl
theorem g84_46 : G d 84 46 ls st h Q ↔ GN d 84 46 ls h (pE st (rtn none)) Q := G_unf rfl rfl
theorem g85_0 : G d 85 0 ls st h Q ↔ GN d 85 0 ls h (ldR ls 0 fun a => nx 1 ls (.ref a :: st) h) Q := G_unf rfl rfl
theorem g85_1 : G d 85 1 ls st h Q ↔ GN d 85 1 ls h (ldR ls 1 fun a => nx 2 ls (.ref a :: st) h) Q := G_unf rfl rfl
theorem g85_2 : G d 85 2 ls st h Q ↔ GN d 85 2 ls h (pR st fun a r => ck (arr h a 6) (nx 5 ls (.int (hI h a 0) :: r) h)) Q := G_unf rfl rfl
theorem g85_5 : G d 85 5 ls st h Q ↔ GN d 85 5 ls h (pRI st fun a x r => ck (arr h a 6) (nx 8 ls r (sI h a 0 x))) Q := G_unf rfl rfl
theorem g85_8 : G d 85 8 ls st h Q ↔ GN d 85 8 ls h (ldR ls 1 fun a => nx 9 ls (.ref a :: st) h) Q := G_unf rfl rfl
theorem g85_9 : G d 85 9 ls st h Q ↔ GN d 85 9 ls h (pR st fun a r => ck (arr h a 6) (nx 12 ls (rv (hR h a 1) :: r) h)) Q := G_unf rfl rfl
theorem g85_12 : G d 85 12 ls st h Q ↔ GN d 85 12 ls h (nx 13 ls (.int (nI 0) :: st) h) Q := G_unf rfl rfl
theorem g85_13 : G d 85 13 ls st h Q ↔ GN d 85 13 ls h (ldR ls 0 fun a => nx 14 ls (.ref a :: st) h) Q := G_unf rfl rfl
theorem g85_14 : G d 85 14 ls st h Q ↔ GN d 85 14 ls h (pR st fun a r => ck (arr h a 6) (nx 17 ls (rv (hR h a 1) :: r) h)) Q := G_unf rfl rfl
theorem g85_17 : G d 85 17 ls st h Q ↔ GN d 85 17 ls h (nx 18 ls (.int (nI 0) :: st) h) Q := G_unf rfl rfl
theorem g85_18 : G d 85 18 ls st h Q ↔ GN d 85 18 ls h (nx 20 ls (.int (nI 8) :: st) h) Q := G_unf rfl rfl
theorem g85_20 : G d 85 20 ls st h Q ↔ GN d 85 20 ls h (pCopy st fun a0 sp a dp z r => ck (r.length ≤ 4 ∧ arr h a0 10 ∧ arr h a 10 ∧ (0 ≤ sp.toInt ∧ 0 ≤ dp.toInt ∧ 0 ≤ z.toInt) ∧ sp.toInt + z.toInt ≤ hLn h a0 ∧ dp.toInt + z.toInt ≤ hLn h a) (nx 23 ls r (sA h a (va_cpy (hI h a0) (hI h a) sp.toNatClampNeg dp.toNatClampNeg z.toNatClampNeg)))) Q := G_unf rfl rfl
theorem g85_23 : G d 85 23 ls st h Q ↔ GN d 85 23 ls h (ldR ls 1 fun a => nx 24 ls (.ref a :: st) h) Q := G_unf rfl rfl
theorem g85_24 : G d 85 24 ls st h Q ↔ GN d 85 24 ls h (pR st fun a r => ck (arr h a 6) (nx 27 ls (rv (hR h a 2) :: r) h)) Q := G_unf rfl rfl
theorem g85_27 : G d 85 27 ls st h Q ↔ GN d 85 27 ls h (nx 28 ls (.int (nI 0) :: st) h) Q := G_unf rfl rfl
theorem g85_28 : G d 85 28 ls st h Q ↔ GN d 85 28 ls h (ldR ls 0 fun a => nx 29 ls (.ref a :: st) h) Q := G_unf rfl rfl
theorem g85_29 : G d 85 29 ls st h Q ↔ GN d 85 29 ls h (pR st fun a r => ck (arr h a 6) (nx 32 ls (rv (hR h a 2) :: r) h)) Q := G_unf rfl rfl
theorem g85_32 : G d 85 32 ls st h Q ↔ GN d 85 32 ls h (nx 33 ls (.int (nI 0) :: st) h) Q := G_unf rfl rfl
theorem g85_33 : G d 85 33 ls st h Q ↔ GN d 85 33 ls h (nx 35 ls (.int (nI 8) :: st) h) Q := G_unf rfl rfl
theorem g85_35 : G d 85 35 ls st h Q ↔ GN d 85 35 ls h (pCopy st fun a0 sp a dp z r => ck (r.length ≤ 4 ∧ arr h a0 10 ∧ arr h a 10 ∧ (0 ≤ sp.toInt ∧ 0 ≤ dp.toInt ∧ 0 ≤ z.toInt) ∧ sp.toInt + z.toInt ≤ hLn h a0 ∧ dp.toInt + z.toInt ≤ hLn h a) (nx 38 ls r (sA h a (va_cpy (hI h a0) (hI h a) sp.toNatClampNeg dp.toNatClampNeg z.toNatClampNeg)))) Q := G_unf rfl rfl
theorem g85_38 : G d 85 38 ls st h Q ↔ GN d 85 38 ls h (ldR ls 1 fun a => nx 39 ls (.ref a :: st) h) Q := G_unf rfl rfl
theorem g85_39 : G d 85 39 ls st h Q ↔ GN d 85 39 ls h (pR st fun a r => ck (arr h a 6) (nx 42 ls (rv (hR h a 3) :: r) h)) Q := G_unf rfl rfl
theorem g85_42 : G d 85 42 ls st h Q ↔ GN d 85 42 ls h (nx 43 ls (.int (nI 0) :: st) h) Q := G_unf rfl rfl
theorem g85_43 : G d 85 43 ls st h Q ↔ GN d 85 43 ls h (ldR ls 0 fun a => nx 44 ls (.ref a :: st) h) Q := G_unf rfl rfl
theorem g85_44 : G d 85 44 ls st h Q ↔ GN d 85 44 ls h (pR st fun a r => ck (arr h a 6) (nx 47 ls (rv (hR h a 3) :: r) h)) Q := G_unf rfl rfl
theorem g85_47 : G d 85 47 ls st h Q ↔ GN d 85 47 ls h (nx 48 ls (.int (nI 0) :: st) h) Q := G_unf rfl rfl
theorem g85_48 : G d 85 48 ls st h Q ↔ GN d 85 48 ls h (nx 50 ls (.int (nI 96) :: st) h) Q := G_unf rfl rfl
theorem g85_50 : G d 85 50 ls st h Q ↔ GN d 85 50 ls h (pCopy st fun a0 sp a dp z r => ck (r.length ≤ 4 ∧ arr h a0 10 ∧ arr h a 10 ∧ (0 ≤ sp.toInt ∧ 0 ≤ dp.toInt ∧ 0 ≤ z.toInt) ∧ sp.toInt + z.toInt ≤ hLn h a0 ∧ dp.toInt + z.toInt ≤ hLn h a) (nx 53 ls r (sA h a (va_cpy (hI h a0) (hI h a) sp.toNatClampNeg dp.toNatClampNeg z.toNatClampNeg)))) Q := G_unf rfl rfl
theorem g85_53 : G d 85 53 ls st h Q ↔ GN d 85 53 ls h (ldR ls 1 fun a => nx 54 ls (.ref a :: st) h) Q := G_unf rfl rfl
theorem g85_54 : G d 85 54 ls st h Q ↔ GN d 85 54 ls h (pR st fun a r => ck (arr h a 6) (nx 57 ls (rv (hR h a 4) :: r) h)) Q := G_unf rfl rfl
theorem g85_57 : G d 85 57 ls st h Q ↔ GN d 85 57 ls h (nx 58 ls (.int (nI 0) :: st) h) Q := G_unf rfl rfl
theorem g85_58 : G d 85 58 ls st h Q ↔ GN d 85 58 ls h (ldR ls 0 fun a => nx 59 ls (.ref a :: st) h) Q := G_unf rfl rfl
theorem g85_59 : G d 85 59 ls st h Q ↔ GN d 85 59 ls h (pR st fun a r => ck (arr h a 6) (nx 62 ls (rv (hR h a 4) :: r) h)) Q := G_unf rfl rfl
theorem g85_62 : G d 85 62 ls st h Q ↔ GN d 85 62 ls h (nx 63 ls (.int (nI 0) :: st) h) Q := G_unf rfl rfl
theorem g85_63 : G d 85 63 ls st h Q ↔ GN d 85 63 ls h (nx 65 ls (.int (nI 8) :: st) h) Q := G_unf rfl rfl
theorem g85_65 : G d 85 65 ls st h Q ↔ GN d 85 65 ls h (pCopy st fun a0 sp a dp z r => ck (r.length ≤ 4 ∧ arr h a0 10 ∧ arr h a 10 ∧ (0 ≤ sp.toInt ∧ 0 ≤ dp.toInt ∧ 0 ≤ z.toInt) ∧ sp.toInt + z.toInt ≤ hLn h a0 ∧ dp.toInt + z.toInt ≤ hLn h a) (nx 68 ls r (sA h a (va_cpy (hI h a0) (hI h a) sp.toNatClampNeg dp.toNatClampNeg z.toNatClampNeg)))) Q := G_unf rfl rfl
theorem g85_68 : G d 85 68 ls st h Q ↔ GN d 85 68 ls h (ldR ls 1 fun a => nx 69 ls (.ref a :: st) h) Q := G_unf rfl rfl
theorem g85_69 : G d 85 69 ls st h Q ↔ GN d 85 69 ls h (pR st fun a r => ck (arr h a 6) (nx 72 ls (rv (hR h a 5) :: r) h)) Q := G_unf rfl rfl
theorem g85_72 : G d 85 72 ls st h Q ↔ GN d 85 72 ls h (nx 73 ls (.int (nI 0) :: st) h) Q := G_unf rfl rfl
theorem g85_73 : G d 85 73 ls st h Q ↔ GN d 85 73 ls h (ldR ls 0 fun a => nx 74 ls (.ref a :: st) h) Q := G_unf rfl rfl
theorem g85_74 : G d 85 74 ls st h Q ↔ GN d 85 74 ls h (pR st fun a r => ck (arr h a 6) (nx 77 ls (rv (hR h a 5) :: r) h)) Q := G_unf rfl rfl
theorem g85_77 : G d 85 77 ls st h Q ↔ GN d 85 77 ls h (nx 78 ls (.int (nI 0) :: st) h) Q := G_unf rfl rfl
theorem g85_78 : G d 85 78 ls st h Q ↔ GN d 85 78 ls h (nx 80 ls (.int (nI 40) :: st) h) Q := G_unf rfl rfl
theorem g85_80 : G d 85 80 ls st h Q ↔ GN d 85 80 ls h (pCopy st fun a0 sp a dp z r => ck (r.length ≤ 4 ∧ arr h a0 10 ∧ arr h a 10 ∧ (0 ≤ sp.toInt ∧ 0 ≤ dp.toInt ∧ 0 ≤ z.toInt) ∧ sp.toInt + z.toInt ≤ hLn h a0 ∧ dp.toInt + z.toInt ≤ hLn h a) (nx 83 ls r (sA h a (va_cpy (hI h a0) (hI h a) sp.toNatClampNeg dp.toNatClampNeg z.toNatClampNeg)))) Q := G_unf rfl rfl
theorem g85_83 : G d 85 83 ls st h Q ↔ GN d 85 83 ls h (ldR ls 0 fun a => nx 84 ls (.ref a :: st) h) Q := G_unf rfl rfl
theorem g85_84 : G d 85 84 ls st h Q ↔ GN d 85 84 ls h (ldR ls 1 fun a => nx 85 ls (.ref a :: st) h) Q := G_unf rfl rfl
theorem g85_85 : G d 85 85 ls st h Q ↔ GN d 85 85 ls h (pR st fun a r => ck (arr h a 6) (nx 88 ls (.int (hI h a 6) :: r) h)) Q := G_unf rfl rfl
theorem g85_88 : G d 85 88 ls st h Q ↔ GN d 85 88 ls h (pRI st fun a x r => ck (arr h a 6) (nx 91 ls r (sI h a 6 x))) Q := G_unf rfl rfl
theorem g85_91 : G d 85 91 ls st h Q ↔ GN d 85 91 ls h (pE st (rtn none)) Q := G_unf rfl rfl
theorem g86_0 : G d 86 0 ls st h Q ↔ GN d 86 0 ls h (ldR ls 0 fun a => nx 1 ls (.ref a :: st) h) Q := G_unf rfl rfl
theorem g86_1 : G d 86 1 ls st h Q ↔ GN d 86 1 ls h (nx 2 ls (.int (nI 0) :: st) h) Q := G_unf rfl rfl
theorem g86_2 : G d 86 2 ls st h Q ↔ GN d 86 2 ls h (pRI st fun a x r => ck (arr h a 6) (nx 5 ls r (sI h a 7 x))) Q := G_unf rfl rfl
theorem g86_5 : G d 86 5 ls st h Q ↔ GN d 86 5 ls h (ldR ls 0 fun a => nx 6 ls (.ref a :: st) h) Q := G_unf rfl rfl
theorem g86_6 : G d 86 6 ls st h Q ↔ GN d 86 6 ls h (nx 7 ls (.int (-1) :: st) h) Q := G_unf rfl rfl
theorem g86_7 : G d 86 7 ls st h Q ↔ GN d 86 7 ls h (pRI st fun a x r => ck (arr h a 6) (nx 10 ls r (sI h a 8 x))) Q := G_unf rfl rfl
theorem g86_10 : G d 86 10 ls st h Q ↔ GN d 86 10 ls h (pE st (rtn none)) Q := G_unf rfl rfl
theorem g87_0 : G d 87 0 ls st h Q ↔ GN d 87 0 ls h (ldR ls 0 fun a => nx 1 ls (.ref a :: st) h) Q := G_unf rfl rfl
theorem g87_1 : G d 87 1 ls st h Q ↔ GN d 87 1 ls h (pR st fun a r => ck (arr h a 6) (nx 4 ls (rv (hR h a 1) :: r) h)) Q := G_unf rfl rfl
theorem g87_4 : G d 87 4 ls st h Q ↔ GN d 87 4 ls h (ldI ls 1 fun x => nx 5 ls (.int x :: st) h) Q := G_unf rfl rfl
theorem g87_5 : G d 87 5 ls st h Q ↔ GN d 87 5 ls h (pRI st fun a i r => br (a = 1000003) (ck (inb i (hS h).1) (nx 6 ls (.int ((hS h).2 i.toNatClampNeg) :: r) h)) (ck (arr h a 10 ∧ inb i (hLn h a)) (nx 6 ls (.int (hI h a i.toNatClampNeg) :: r) h))) Q := G_unf rfl rfl
theorem g87_6 : G d 87 6 ls st h Q ↔ GN d 87 6 ls h (ldI ls 2 fun x => nx 7 ls (.int x :: st) h) Q := G_unf rfl rfl
theorem g87_7 : G d 87 7 ls st h Q ↔ GN d 87 7 ls h (pII st fun x y r => nx 8 ls (.int (x >>> (y &&& 31)) :: r) h) Q := G_unf rfl rfl
theorem g87_8 : G d 87 8 ls st h Q ↔ GN d 87 8 ls h (nx 9 ls (.int (nI 1) :: st) h) Q := G_unf rfl rfl
theorem g87_9 : G d 87 9 ls st h Q ↔ GN d 87 9 ls h (pII st fun x y r => nx 10 ls (.int (x &&& y) :: r) h) Q := G_unf rfl rfl
theorem g87_10 : G d 87 10 ls st h Q ↔ GN d 87 10 ls h (nx 11 ls (.int (nI 1) :: st) h) Q := G_unf rfl rfl
theorem g87_11 : G d 87 11 ls st h Q ↔ GN d 87 11 ls h (pII st fun x y r => br (¬ x = y) (nx 18 ls r h) (nx 14 ls r h)) Q := G_unf rfl rfl
theorem g87_14 : G d 87 14 ls st h Q ↔ GN d 87 14 ls h (nx 15 ls (.int (nI 1) :: st) h) Q := G_unf rfl rfl
theorem g87_15 : G d 87 15 ls st h Q ↔ GN d 87 15 ls h (nx 19 ls st h) Q := G_unf rfl rfl
theorem g87_18 : G d 87 18 ls st h Q ↔ GN d 87 18 ls h (nx 19 ls (.int (nI 0) :: st) h) Q := G_unf rfl rfl
theorem g87_19 : G d 87 19 ls st h Q ↔ GN d 87 19 ls h (pIe st fun x => ck (x = 0 ∨ x = 1) (rtn (some (.int x)))) Q := G_unf rfl rfl
theorem g88_0 : G d 88 0 ls st h Q ↔ GN d 88 0 ls h (ldR ls 0 fun a => nx 1 ls (.ref a :: st) h) Q := G_unf rfl rfl
theorem g88_1 : G d 88 1 ls st h Q ↔ GN d 88 1 ls h (pR st fun a r => ck (arr h a 6) (nx 4 ls (rv (hR h a 4) :: r) h)) Q := G_unf rfl rfl
theorem g88_4 : G d 88 4 ls st h Q ↔ GN d 88 4 ls h (ldI ls 1 fun x => nx 5 ls (.int x :: st) h) Q := G_unf rfl rfl
theorem g88_5 : G d 88 5 ls st h Q ↔ GN d 88 5 ls h (pRI st fun a i r => br (a = 1000003) (ck (inb i (hS h).1) (nx 6 ls (.int ((hS h).2 i.toNatClampNeg) :: r) h)) (ck (arr h a 10 ∧ inb i (hLn h a)) (nx 6 ls (.int (hI h a i.toNatClampNeg) :: r) h))) Q := G_unf rfl rfl
theorem g88_6 : G d 88 6 ls st h Q ↔ GN d 88 6 ls h (ldI ls 2 fun x => nx 7 ls (.int x :: st) h) Q := G_unf rfl rfl
theorem g88_7 : G d 88 7 ls st h Q ↔ GN d 88 7 ls h (pII st fun x y r => nx 8 ls (.int (x >>> (y &&& 31)) :: r) h) Q := G_unf rfl rfl
theorem g88_8 : G d 88 8 ls st h Q ↔ GN d 88 8 ls h (nx 9 ls (.int (nI 1) :: st) h) Q := G_unf rfl rfl
theorem g88_9 : G d 88 9 ls st h Q ↔ GN d 88 9 ls h (pII st fun x y r => nx 10 ls (.int (x &&& y) :: r) h) Q := G_unf rfl rfl
theorem g88_10 : G d 88 10 ls st h Q ↔ GN d 88 10 ls h (nx 11 ls (.int (nI 1) :: st) h) Q := G_unf rfl rfl
theorem g88_11 : G d 88 11 ls st h Q ↔ GN d 88 11 ls h (pII st fun x y r => br (¬ x = y) (nx 18 ls r h) (nx 14 ls r h)) Q := G_unf rfl rfl
theorem g88_14 : G d 88 14 ls st h Q ↔ GN d 88 14 ls h (nx 15 ls (.int (nI 1) :: st) h) Q := G_unf rfl rfl
theorem g88_15 : G d 88 15 ls st h Q ↔ GN d 88 15 ls h (nx 19 ls st h) Q := G_unf rfl rfl
theorem g88_18 : G d 88 18 ls st h Q ↔ GN d 88 18 ls h (nx 19 ls (.int (nI 0) :: st) h) Q := G_unf rfl rfl
theorem g88_19 : G d 88 19 ls st h Q ↔ GN d 88 19 ls h (pIe st fun x => ck (x = 0 ∨ x = 1) (rtn (some (.int x)))) Q := G_unf rfl rfl
theorem g89_0 : G d 89 0 ls st h Q ↔ GN d 89 0 ls h (ldR ls 0 fun a => nx 1 ls (.ref a :: st) h) Q := G_unf rfl rfl
theorem g89_1 : G d 89 1 ls st h Q ↔ GN d 89 1 ls h (ldI ls 1 fun x => nx 2 ls (.int x :: st) h) Q := G_unf rfl rfl
theorem g89_2 : G d 89 2 ls st h Q ↔ GN d 89 2 ls h (ldI ls 2 fun x => nx 3 ls (.int x :: st) h) Q := G_unf rfl rfl
theorem g89_3 : G d 89 3 ls st h Q ↔ GN d 89 3 ls h (pA 2 st fun as r => pR r fun a r => ck (r.length ≤ 4 ∧ arr h a 6) (cll 87 (.ref a :: as) r)) Q := G_unf rfl rfl
theorem g89_6 : G d 89 6 ls st h Q ↔ GN d 89 6 ls h (pI st fun x r => br (¬ x = 0) (nx 22 ls r h) (nx 9 ls r h)) Q := G_unf rfl rfl
theorem g89_9 : G d 89 9 ls st h Q ↔ GN d 89 9 ls h (ldR ls 0 fun a => nx 10 ls (.ref a :: st) h) Q := G_unf rfl rfl
theorem g89_10 : G d 89 10 ls st h Q ↔ GN d 89 10 ls h (ldI ls 1 fun x => nx 11 ls (.int x :: st) h) Q := G_unf rfl rfl
theorem g89_11 : G d 89 11 ls st h Q ↔ GN d 89 11 ls h (ldI ls 2 fun x => nx 12 ls (.int x :: st) h) Q := G_unf rfl rfl
theorem g89_12 : G d 89 12 ls st h Q ↔ GN d 89 12 ls h (pA 2 st fun as r => pR r fun a r => ck (r.length ≤ 4 ∧ arr h a 6) (cll 88 (.ref a :: as) r)) Q := G_unf rfl rfl
theorem g89_15 : G d 89 15 ls st h Q ↔ GN d 89 15 ls h (pI st fun x r => br (¬ x = 0) (nx 22 ls r h) (nx 18 ls r h)) Q := G_unf rfl rfl
theorem g89_18 : G d 89 18 ls st h Q ↔ GN d 89 18 ls h (nx 19 ls (.int (nI 1) :: st) h) Q := G_unf rfl rfl
theorem g89_19 : G d 89 19 ls st h Q ↔ GN d 89 19 ls h (nx 23 ls st h) Q := G_unf rfl rfl
theorem g89_22 : G d 89 22 ls st h Q ↔ GN d 89 22 ls h (nx 23 ls (.int (nI 0) :: st) h) Q := G_unf rfl rfl
theorem g89_23 : G d 89 23 ls st h Q ↔ GN d 89 23 ls h (pIe st fun x => ck (x = 0 ∨ x = 1) (rtn (some (.int x)))) Q := G_unf rfl rfl
theorem g90_0 : G d 90 0 ls st h Q ↔ GN d 90 0 ls h (nx 1 ls (.int (nI 0) :: st) h) Q := G_unf rfl rfl
theorem g90_1 : G d 90 1 ls st h Q ↔ GN d 90 1 ls h (pI st fun x r => ck (1 < ls.length) (nx 2 (st1 ls 1 (.int x)) r h)) Q := G_unf rfl rfl
theorem g90_2 : G d 90 2 ls st h Q ↔ GN d 90 2 ls h (ldI ls 1 fun x => nx 3 ls (.int x :: st) h) Q := G_unf rfl rfl
theorem g90_3 : G d 90 3 ls st h Q ↔ GN d 90 3 ls h (nx 5 ls (.int (nI 8) :: st) h) Q := G_unf rfl rfl
theorem g90_5 : G d 90 5 ls st h Q ↔ GN d 90 5 ls h (pII st fun x y r => br (y ≤ x) (nx 61 ls r h) (nx 8 ls r h)) Q := G_unf rfl rfl
theorem g90_8 : G d 90 8 ls st h Q ↔ GN d 90 8 ls h (nx 9 ls (.int (nI 0) :: st) h) Q := G_unf rfl rfl
theorem g90_9 : G d 90 9 ls st h Q ↔ GN d 90 9 ls h (pI st fun x r => ck (2 < ls.length) (nx 10 (st1 ls 2 (.int x)) r h)) Q := G_unf rfl rfl
theorem g90_10 : G d 90 10 ls st h Q ↔ GN d 90 10 ls h (nx 11 ls (.int (nI 0) :: st) h) Q := G_unf rfl rfl
theorem g90_11 : G d 90 11 ls st h Q ↔ GN d 90 11 ls h (pI st fun x r => ck (3 < ls.length) (nx 12 (st1 ls 3 (.int x)) r h)) Q := G_unf rfl rfl
theorem g90_12 : G d 90 12 ls st h Q ↔ GN d 90 12 ls h (ldI ls 3 fun x => nx 13 ls (.int x :: st) h) Q := G_unf rfl rfl
theorem g90_13 : G d 90 13 ls st h Q ↔ GN d 90 13 ls h (nx 15 ls (.int (nI 12) :: st) h) Q := G_unf rfl rfl
theorem g90_15 : G d 90 15 ls st h Q ↔ GN d 90 15 ls h (pII st fun x y r => br (y ≤ x) (nx 48 ls r h) (nx 18 ls r h)) Q := G_unf rfl rfl
theorem g90_18 : G d 90 18 ls st h Q ↔ GN d 90 18 ls h (ldR ls 0 fun a => nx 19 ls (.ref a :: st) h) Q := G_unf rfl rfl
theorem g90_19 : G d 90 19 ls st h Q ↔ GN d 90 19 ls h (pR st fun a r => ck (arr h a 6) (nx 22 ls (rv (hR h a 3) :: r) h)) Q := G_unf rfl rfl
theorem g90_22 : G d 90 22 ls st h Q ↔ GN d 90 22 ls h (ldI ls 1 fun x => nx 23 ls (.int x :: st) h) Q := G_unf rfl rfl
theorem g90_23 : G d 90 23 ls st h Q ↔ GN d 90 23 ls h (nx 25 ls (.int (nI 12) :: st) h) Q := G_unf rfl rfl
theorem g90_25 : G d 90 25 ls st h Q ↔ GN d 90 25 ls h (pII st fun x y r => nx 26 ls (.int (x * y) :: r) h) Q := G_unf rfl rfl
theorem g90_26 : G d 90 26 ls st h Q ↔ GN d 90 26 ls h (ldI ls 3 fun x => nx 27 ls (.int x :: st) h) Q := G_unf rfl rfl
theorem g90_27 : G d 90 27 ls st h Q ↔ GN d 90 27 ls h (pII st fun x y r => nx 28 ls (.int (x + y) :: r) h) Q := G_unf rfl rfl
theorem g90_28 : G d 90 28 ls st h Q ↔ GN d 90 28 ls h (pRI st fun a i r => br (a = 1000003) (ck (inb i (hS h).1) (nx 29 ls (.int ((hS h).2 i.toNatClampNeg) :: r) h)) (ck (arr h a 10 ∧ inb i (hLn h a)) (nx 29 ls (.int (hI h a i.toNatClampNeg) :: r) h))) Q := G_unf rfl rfl
theorem g90_29 : G d 90 29 ls st h Q ↔ GN d 90 29 ls h (ldR ls 0 fun a => nx 30 ls (.ref a :: st) h) Q := G_unf rfl rfl
theorem g90_30 : G d 90 30 ls st h Q ↔ GN d 90 30 ls h (pR st fun a r => ck (arr h a 6) (nx 33 ls (.int (hI h a 0) :: r) h)) Q := G_unf rfl rfl
theorem g90_33 : G d 90 33 ls st h Q ↔ GN d 90 33 ls h (pII st fun x y r => br (x < y) (nx 42 ls r h) (nx 36 ls r h)) Q := G_unf rfl rfl
theorem g90_36 : G d 90 36 ls st h Q ↔ GN d 90 36 ls h (ldI ls 2 fun x => nx 37 ls (.int x :: st) h) Q := G_unf rfl rfl
theorem g90_37 : G d 90 37 ls st h Q ↔ GN d 90 37 ls h (nx 38 ls (.int (nI 1) :: st) h) Q := G_unf rfl rfl
theorem g90_38 : G d 90 38 ls st h Q ↔ GN d 90 38 ls h (ldI ls 3 fun x => nx 39 ls (.int x :: st) h) Q := G_unf rfl rfl
theorem g90_39 : G d 90 39 ls st h Q ↔ GN d 90 39 ls h (pII st fun x y r => nx 40 ls (.int (x <<< (y &&& 31)) :: r) h) Q := G_unf rfl rfl
theorem g90_40 : G d 90 40 ls st h Q ↔ GN d 90 40 ls h (pII st fun x y r => nx 41 ls (.int (x ||| y) :: r) h) Q := G_unf rfl rfl
theorem g90_41 : G d 90 41 ls st h Q ↔ GN d 90 41 ls h (pI st fun x r => ck (2 < ls.length) (nx 42 (st1 ls 2 (.int x)) r h)) Q := G_unf rfl rfl
theorem g90_42 : G d 90 42 ls st h Q ↔ GN d 90 42 ls h (ldI ls 3 fun x => nx 45 (st1 ls 3 (.int (x + (nI 1)))) st h) Q := G_unf rfl rfl
theorem g90_45 : G d 90 45 ls st h Q ↔ GN d 90 45 ls h (nx 12 ls st h) Q := G_unf rfl rfl
theorem g90_48 : G d 90 48 ls st h Q ↔ GN d 90 48 ls h (ldR ls 0 fun a => nx 49 ls (.ref a :: st) h) Q := G_unf rfl rfl
theorem g90_49 : G d 90 49 ls st h Q ↔ GN d 90 49 ls h (pR st fun a r => ck (arr h a 6) (nx 52 ls (rv (hR h a 4) :: r) h)) Q := G_unf rfl rfl
theorem g90_52 : G d 90 52 ls st h Q ↔ GN d 90 52 ls h (ldI ls 1 fun x => nx 53 ls (.int x :: st) h) Q := G_unf rfl rfl
theorem g90_53 : G d 90 53 ls st h Q ↔ GN d 90 53 ls h (ldI ls 2 fun x => nx 54 ls (.int x :: st) h) Q := G_unf rfl rfl
theorem g90_54 : G d 90 54 ls st h Q ↔ GN d 90 54 ls h (pRII st fun a i x r => ck (arr h a 10 ∧ inb i (hLn h a)) (nx 55 ls r (sI h a i.toNatClampNeg x))) Q := G_unf rfl rfl
theorem g90_55 : G d 90 55 ls st h Q ↔ GN d 90 55 ls h (ldI ls 1 fun x => nx 58 (st1 ls 1 (.int (x + (nI 1)))) st h) Q := G_unf rfl rfl
theorem g90_58 : G d 90 58 ls st h Q ↔ GN d 90 58 ls h (nx 2 ls st h) Q := G_unf rfl rfl
theorem g90_61 : G d 90 61 ls st h Q ↔ GN d 90 61 ls h (pE st (rtn none)) Q := G_unf rfl rfl
theorem g91_0 : G d 91 0 ls st h Q ↔ GN d 91 0 ls h (nx 1 ls (.int (nI 0) :: st) h) Q := G_unf rfl rfl
theorem g91_1 : G d 91 1 ls st h Q ↔ GN d 91 1 ls h (pI st fun x r => ck (1 < ls.length) (nx 2 (st1 ls 1 (.int x)) r h)) Q := G_unf rfl rfl
theorem g91_2 : G d 91 2 ls st h Q ↔ GN d 91 2 ls h (nx 3 ls (.int (nI 0) :: st) h) Q := G_unf rfl rfl
theorem g91_3 : G d 91 3 ls st h Q ↔ GN d 91 3 ls h (pI st fun x r => ck (2 < ls.length) (nx 4 (st1 ls 2 (.int x)) r h)) Q := G_unf rfl rfl
theorem g91_4 : G d 91 4 ls st h Q ↔ GN d 91 4 ls h (ldI ls 2 fun x => nx 5 ls (.int x :: st) h) Q := G_unf rfl rfl
theorem g91_5 : G d 91 5 ls st h Q ↔ GN d 91 5 ls h (nx 7 ls (.int (nI 8) :: st) h) Q := G_unf rfl rfl
theorem g91_7 : G d 91 7 ls st h Q ↔ GN d 91 7 ls h (pII st fun x y r => br (y ≤ x) (nx 28 ls r h) (nx 10 ls r h)) Q := G_unf rfl rfl
theorem g91_10 : G d 91 10 ls st h Q ↔ GN d 91 10 ls h (ldI ls 1 fun x => nx 11 ls (.int x :: st) h) Q := G_unf rfl rfl
theorem g91_11 : G d 91 11 ls st h Q ↔ GN d 91 11 ls h (ldR ls 0 fun a => nx 12 ls (.ref a :: st) h) Q := G_unf rfl rfl
theorem g91_12 : G d 91 12 ls st h Q ↔ GN d 91 12 ls h (pR st fun a r => ck (arr h a 6) (nx 15 ls (rv (hR h a 4) :: r) h)) Q := G_unf rfl rfl
theorem g91_15 : G d 91 15 ls st h Q ↔ GN d 91 15 ls h (ldI ls 2 fun x => nx 16 ls (.int x :: st) h) Q := G_unf rfl rfl
theorem g91_16 : G d 91 16 ls st h Q ↔ GN d 91 16 ls h (pRI st fun a i r => br (a = 1000003) (ck (inb i (hS h).1) (nx 17 ls (.int ((hS h).2 i.toNatClampNeg) :: r) h)) (ck (arr h a 10 ∧ inb i (hLn h a)) (nx 17 ls (.int (hI h a i.toNatClampNeg) :: r) h))) Q := G_unf rfl rfl
theorem g91_17 : G d 91 17 ls st h Q ↔ GN d 91 17 ls h (pA 1 st fun as r => ck (r.length ≤ 4) (cll 273 as r)) Q := G_unf rfl rfl
theorem g91_20 : G d 91 20 ls st h Q ↔ GN d 91 20 ls h (pII st fun x y r => nx 21 ls (.int (x + y) :: r) h) Q := G_unf rfl rfl
theorem g91_21 : G d 91 21 ls st h Q ↔ GN d 91 21 ls h (pI st fun x r => ck (1 < ls.length) (nx 22 (st1 ls 1 (.int x)) r h)) Q := G_unf rfl rfl
theorem g91_22 : G d 91 22 ls st h Q ↔ GN d 91 22 ls h (ldI ls 2 fun x => nx 25 (st1 ls 2 (.int (x + (nI 1)))) st h) Q := G_unf rfl rfl
theorem g91_25 : G d 91 25 ls st h Q ↔ GN d 91 25 ls h (nx 4 ls st h) Q := G_unf rfl rfl
theorem g91_28 : G d 91 28 ls st h Q ↔ GN d 91 28 ls h (ldI ls 1 fun x => nx 29 ls (.int x :: st) h) Q := G_unf rfl rfl
theorem g91_29 : G d 91 29 ls st h Q ↔ GN d 91 29 ls h (pIe st fun x => rtn (some (.int x))) Q := G_unf rfl rfl
theorem g92_0 : G d 92 0 ls st h Q ↔ GN d 92 0 ls h (nx 1 ls (.int (nI 0) :: st) h) Q := G_unf rfl rfl
theorem g92_1 : G d 92 1 ls st h Q ↔ GN d 92 1 ls h (pI st fun x r => ck (2 < ls.length) (nx 2 (st1 ls 2 (.int x)) r h)) Q := G_unf rfl rfl
theorem g92_2 : G d 92 2 ls st h Q ↔ GN d 92 2 ls h (nx 3 ls (.int (nI 0) :: st) h) Q := G_unf rfl rfl
theorem g92_3 : G d 92 3 ls st h Q ↔ GN d 92 3 ls h (pI st fun x r => ck (3 < ls.length) (nx 4 (st1 ls 3 (.int x)) r h)) Q := G_unf rfl rfl
theorem g92_4 : G d 92 4 ls st h Q ↔ GN d 92 4 ls h (ldI ls 3 fun x => nx 5 ls (.int x :: st) h) Q := G_unf rfl rfl
theorem g92_5 : G d 92 5 ls st h Q ↔ GN d 92 5 ls h (ldI ls 1 fun x => nx 6 ls (.int x :: st) h) Q := G_unf rfl rfl
theorem g92_6 : G d 92 6 ls st h Q ↔ GN d 92 6 ls h (pII st fun x y r => br (y ≤ x) (nx 30 ls r h) (nx 9 ls r h)) Q := G_unf rfl rfl
theorem g92_9 : G d 92 9 ls st h Q ↔ GN d 92 9 ls h (ldI ls 3 fun x => nx 10 ls (.int x :: st) h) Q := G_unf rfl rfl
theorem g92_10 : G d 92 10 ls st h Q ↔ GN d 92 10 ls h (nx 12 ls (.int (nI 8) :: st) h) Q := G_unf rfl rfl
theorem g92_12 : G d 92 12 ls st h Q ↔ GN d 92 12 ls h (pII st fun x y r => br (y ≤ x) (nx 30 ls r h) (nx 15 ls r h)) Q := G_unf rfl rfl
theorem g92_15 : G d 92 15 ls st h Q ↔ GN d 92 15 ls h (ldI ls 2 fun x => nx 16 ls (.int x :: st) h) Q := G_unf rfl rfl
theorem g92_16 : G d 92 16 ls st h Q ↔ GN d 92 16 ls h (ldR ls 0 fun a => nx 17 ls (.ref a :: st) h) Q := G_unf rfl rfl
theorem g92_17 : G d 92 17 ls st h Q ↔ GN d 92 17 ls h (pR st fun a r => ck (arr h a 6) (nx 20 ls (rv (hR h a 2) :: r) h)) Q := G_unf rfl rfl
theorem g92_20 : G d 92 20 ls st h Q ↔ GN d 92 20 ls h (ldI ls 3 fun x => nx 21 ls (.int x :: st) h) Q := G_unf rfl rfl
theorem g92_21 : G d 92 21 ls st h Q ↔ GN d 92 21 ls h (pRI st fun a i r => br (a = 1000003) (ck (inb i (hS h).1) (nx 22 ls (.int ((hS h).2 i.toNatClampNeg) :: r) h)) (ck (arr h a 10 ∧ inb i (hLn h a)) (nx 22 ls (.int (hI h a i.toNatClampNeg) :: r) h))) Q := G_unf rfl rfl
theorem g92_22 : G d 92 22 ls st h Q ↔ GN d 92 22 ls h (pII st fun x y r => nx 23 ls (.int (x + y) :: r) h) Q := G_unf rfl rfl
theorem g92_23 : G d 92 23 ls st h Q ↔ GN d 92 23 ls h (pI st fun x r => ck (2 < ls.length) (nx 24 (st1 ls 2 (.int x)) r h)) Q := G_unf rfl rfl
theorem g92_24 : G d 92 24 ls st h Q ↔ GN d 92 24 ls h (ldI ls 3 fun x => nx 27 (st1 ls 3 (.int (x + (nI 1)))) st h) Q := G_unf rfl rfl
theorem g92_27 : G d 92 27 ls st h Q ↔ GN d 92 27 ls h (nx 4 ls st h) Q := G_unf rfl rfl
theorem g92_30 : G d 92 30 ls st h Q ↔ GN d 92 30 ls h (ldI ls 2 fun x => nx 31 ls (.int x :: st) h) Q := G_unf rfl rfl
theorem g92_31 : G d 92 31 ls st h Q ↔ GN d 92 31 ls h (pIe st fun x => rtn (some (.int x))) Q := G_unf rfl rfl
theorem g93_0 : G d 93 0 ls st h Q ↔ GN d 93 0 ls h (nx 1 ls (.int (nI 0) :: st) h) Q := G_unf rfl rfl
theorem g93_1 : G d 93 1 ls st h Q ↔ GN d 93 1 ls h (pI st fun x r => ck (2 < ls.length) (nx 2 (st1 ls 2 (.int x)) r h)) Q := G_unf rfl rfl
theorem g93_2 : G d 93 2 ls st h Q ↔ GN d 93 2 ls h (nx 3 ls (.int (nI 0) :: st) h) Q := G_unf rfl rfl
theorem g93_3 : G d 93 3 ls st h Q ↔ GN d 93 3 ls h (pI st fun x r => ck (3 < ls.length) (nx 4 (st1 ls 3 (.int x)) r h)) Q := G_unf rfl rfl
theorem g93_4 : G d 93 4 ls st h Q ↔ GN d 93 4 ls h (ldI ls 3 fun x => nx 5 ls (.int x :: st) h) Q := G_unf rfl rfl
theorem g93_5 : G d 93 5 ls st h Q ↔ GN d 93 5 ls h (ldR ls 0 fun a => nx 6 ls (.ref a :: st) h) Q := G_unf rfl rfl
theorem g93_6 : G d 93 6 ls st h Q ↔ GN d 93 6 ls h (pR st fun a r => ck (arr h a 6) (nx 9 ls (.int (hI h a 6) :: r) h)) Q := G_unf rfl rfl
theorem g93_9 : G d 93 9 ls st h Q ↔ GN d 93 9 ls h (pII st fun x y r => br (y ≤ x) (nx 41 ls r h) (nx 12 ls r h)) Q := G_unf rfl rfl
theorem g93_12 : G d 93 12 ls st h Q ↔ GN d 93 12 ls h (ldI ls 3 fun x => nx 13 ls (.int x :: st) h) Q := G_unf rfl rfl
theorem g93_13 : G d 93 13 ls st h Q ↔ GN d 93 13 ls h (nx 15 ls (.int (nI 40) :: st) h) Q := G_unf rfl rfl
theorem g93_15 : G d 93 15 ls st h Q ↔ GN d 93 15 ls h (pII st fun x y r => br (y ≤ x) (nx 41 ls r h) (nx 18 ls r h)) Q := G_unf rfl rfl
theorem g93_18 : G d 93 18 ls st h Q ↔ GN d 93 18 ls h (ldR ls 0 fun a => nx 19 ls (.ref a :: st) h) Q := G_unf rfl rfl
theorem g93_19 : G d 93 19 ls st h Q ↔ GN d 93 19 ls h (pR st fun a r => ck (arr h a 6) (nx 22 ls (rv (hR h a 5) :: r) h)) Q := G_unf rfl rfl
theorem g93_22 : G d 93 22 ls st h Q ↔ GN d 93 22 ls h (ldI ls 3 fun x => nx 23 ls (.int x :: st) h) Q := G_unf rfl rfl
theorem g93_23 : G d 93 23 ls st h Q ↔ GN d 93 23 ls h (pRI st fun a i r => br (a = 1000003) (ck (inb i (hS h).1) (nx 24 ls (.int ((hS h).2 i.toNatClampNeg) :: r) h)) (ck (arr h a 10 ∧ inb i (hLn h a)) (nx 24 ls (.int (hI h a i.toNatClampNeg) :: r) h))) Q := G_unf rfl rfl
theorem g93_24 : G d 93 24 ls st h Q ↔ GN d 93 24 ls h (nx 25 ls (.int (nI 1) :: st) h) Q := G_unf rfl rfl
theorem g93_25 : G d 93 25 ls st h Q ↔ GN d 93 25 ls h (pA 2 st fun as r => ck (r.length ≤ 4) (cll 154 as r)) Q := G_unf rfl rfl
theorem g93_28 : G d 93 28 ls st h Q ↔ GN d 93 28 ls h (ldI ls 1 fun x => nx 29 ls (.int x :: st) h) Q := G_unf rfl rfl
theorem g93_29 : G d 93 29 ls st h Q ↔ GN d 93 29 ls h (pII st fun x y r => br (¬ x = y) (nx 35 ls r h) (nx 32 ls r h)) Q := G_unf rfl rfl
theorem g93_32 : G d 93 32 ls st h Q ↔ GN d 93 32 ls h (ldI ls 2 fun x => nx 35 (st1 ls 2 (.int (x + (nI 1)))) st h) Q := G_unf rfl rfl
theorem g93_35 : G d 93 35 ls st h Q ↔ GN d 93 35 ls h (ldI ls 3 fun x => nx 38 (st1 ls 3 (.int (x + (nI 1)))) st h) Q := G_unf rfl rfl
theorem g93_38 : G d 93 38 ls st h Q ↔ GN d 93 38 ls h (nx 4 ls st h) Q := G_unf rfl rfl
theorem g93_41 : G d 93 41 ls st h Q ↔ GN d 93 41 ls h (ldI ls 2 fun x => nx 42 ls (.int x :: st) h) Q := G_unf rfl rfl
theorem g93_42 : G d 93 42 ls st h Q ↔ GN d 93 42 ls h (pIe st fun x => rtn (some (.int x))) Q := G_unf rfl rfl
theorem g94_0 : G d 94 0 ls st h Q ↔ GN d 94 0 ls h (ldR ls 0 fun a => nx 1 ls (.ref a :: st) h) Q := G_unf rfl rfl
theorem g94_1 : G d 94 1 ls st h Q ↔ GN d 94 1 ls h (pR st fun a r => ck (arr h a 6) (nx 4 ls (rv (hR h a 3) :: r) h)) Q := G_unf rfl rfl
theorem g94_4 : G d 94 4 ls st h Q ↔ GN d 94 4 ls h (ldI ls 1 fun x => nx 5 ls (.int x :: st) h) Q := G_unf rfl rfl
theorem g94_5 : G d 94 5 ls st h Q ↔ GN d 94 5 ls h (nx 7 ls (.int (nI 12) :: st) h) Q := G_unf rfl rfl
theorem g94_7 : G d 94 7 ls st h Q ↔ GN d 94 7 ls h (pII st fun x y r => nx 8 ls (.int (x * y) :: r) h) Q := G_unf rfl rfl
theorem g94_8 : G d 94 8 ls st h Q ↔ GN d 94 8 ls h (ldI ls 2 fun x => nx 9 ls (.int x :: st) h) Q := G_unf rfl rfl
theorem g94_9 : G d 94 9 ls st h Q ↔ GN d 94 9 ls h (pII st fun x y r => nx 10 ls (.int (x + y) :: r) h) Q := G_unf rfl rfl
theorem g94_10 : G d 94 10 ls st h Q ↔ GN d 94 10 ls h (ldR ls 0 fun a => nx 11 ls (.ref a :: st) h) Q := G_unf rfl rfl
theorem g94_11 : G d 94 11 ls st h Q ↔ GN d 94 11 ls h (pR st fun a r => ck (arr h a 6) (nx 14 ls (.int (hI h a 0) :: r) h)) Q := G_unf rfl rfl
theorem g94_14 : G d 94 14 ls st h Q ↔ GN d 94 14 ls h (ldI ls 3 fun x => nx 15 ls (.int x :: st) h) Q := G_unf rfl rfl
theorem g94_15 : G d 94 15 ls st h Q ↔ GN d 94 15 ls h (pII st fun x y r => nx 16 ls (.int (x + y) :: r) h) Q := G_unf rfl rfl
theorem g94_16 : G d 94 16 ls st h Q ↔ GN d 94 16 ls h (nx 17 ls (.int (nI 1) :: st) h) Q := G_unf rfl rfl
theorem g94_17 : G d 94 17 ls st h Q ↔ GN d 94 17 ls h (pII st fun x y r => nx 18 ls (.int (x - y) :: r) h) Q := G_unf rfl rfl
theorem g94_18 : G d 94 18 ls st h Q ↔ GN d 94 18 ls h (pRII st fun a i x r => ck (arr h a 10 ∧ inb i (hLn h a)) (nx 19 ls r (sI h a i.toNatClampNeg x))) Q := G_unf rfl rfl
theorem g94_19 : G d 94 19 ls st h Q ↔ GN d 94 19 ls h (ldR ls 0 fun a => nx 20 ls (.ref a :: st) h) Q := G_unf rfl rfl
theorem g94_20 : G d 94 20 ls st h Q ↔ GN d 94 20 ls h (pR st fun a r => ck (arr h a 6) (nx 23 ls (rv (hR h a 4) :: r) h)) Q := G_unf rfl rfl
theorem g94_23 : G d 94 23 ls st h Q ↔ GN d 94 23 ls h (ldI ls 1 fun x => nx 24 ls (.int x :: st) h) Q := G_unf rfl rfl
theorem g94_24 : G d 94 24 ls st h Q ↔ GN d 94 24 ls h (p11 st fun v w r => nx 25 ls (v :: w :: v :: w :: r) h) Q := G_unf rfl rfl
theorem g94_25 : G d 94 25 ls st h Q ↔ GN d 94 25 ls h (pRI st fun a i r => br (a = 1000003) (ck (inb i (hS h).1) (nx 26 ls (.int ((hS h).2 i.toNatClampNeg) :: r) h)) (ck (arr h a 10 ∧ inb i (hLn h a)) (nx 26 ls (.int (hI h a i.toNatClampNeg) :: r) h))) Q := G_unf rfl rfl
theorem g94_26 : G d 94 26 ls st h Q ↔ GN d 94 26 ls h (nx 27 ls (.int (nI 1) :: st) h) Q := G_unf rfl rfl
theorem g94_27 : G d 94 27 ls st h Q ↔ GN d 94 27 ls h (ldI ls 2 fun x => nx 28 ls (.int x :: st) h) Q := G_unf rfl rfl
theorem g94_28 : G d 94 28 ls st h Q ↔ GN d 94 28 ls h (pII st fun x y r => nx 29 ls (.int (x <<< (y &&& 31)) :: r) h) Q := G_unf rfl rfl
theorem g94_29 : G d 94 29 ls st h Q ↔ GN d 94 29 ls h (pII st fun x y r => nx 30 ls (.int (x ||| y) :: r) h) Q := G_unf rfl rfl
theorem g94_30 : G d 94 30 ls st h Q ↔ GN d 94 30 ls h (pRII st fun a i x r => ck (arr h a 10 ∧ inb i (hLn h a)) (nx 31 ls r (sI h a i.toNatClampNeg x))) Q := G_unf rfl rfl
theorem g94_31 : G d 94 31 ls st h Q ↔ GN d 94 31 ls h (ldR ls 0 fun a => nx 32 ls (.ref a :: st) h) Q := G_unf rfl rfl
theorem g94_32 : G d 94 32 ls st h Q ↔ GN d 94 32 ls h (pR st fun a r => ck (arr h a 6) (nx 35 ls (rv (hR h a 2) :: r) h)) Q := G_unf rfl rfl
theorem g94_35 : G d 94 35 ls st h Q ↔ GN d 94 35 ls h (ldI ls 1 fun x => nx 36 ls (.int x :: st) h) Q := G_unf rfl rfl
theorem g94_36 : G d 94 36 ls st h Q ↔ GN d 94 36 ls h (p11 st fun v w r => nx 37 ls (v :: w :: v :: w :: r) h) Q := G_unf rfl rfl
theorem g94_37 : G d 94 37 ls st h Q ↔ GN d 94 37 ls h (pRI st fun a i r => br (a = 1000003) (ck (inb i (hS h).1) (nx 38 ls (.int ((hS h).2 i.toNatClampNeg) :: r) h)) (ck (arr h a 10 ∧ inb i (hLn h a)) (nx 38 ls (.int (hI h a i.toNatClampNeg) :: r) h))) Q := G_unf rfl rfl
theorem g94_38 : G d 94 38 ls st h Q ↔ GN d 94 38 ls h (ldI ls 4 fun x => nx 40 ls (.int x :: st) h) Q := G_unf rfl rfl
theorem g94_40 : G d 94 40 ls st h Q ↔ GN d 94 40 ls h (pII st fun x y r => nx 41 ls (.int (x - y) :: r) h) Q := G_unf rfl rfl
theorem g94_41 : G d 94 41 ls st h Q ↔ GN d 94 41 ls h (pRII st fun a i x r => ck (arr h a 10 ∧ inb i (hLn h a)) (nx 42 ls r (sI h a i.toNatClampNeg x))) Q := G_unf rfl rfl
theorem g94_42 : G d 94 42 ls st h Q ↔ GN d 94 42 ls h (pE st (rtn none)) Q := G_unf rfl rfl
theorem g95_0 : G d 95 0 ls st h Q ↔ GN d 95 0 ls h (ldR ls 0 fun a => nx 1 ls (.ref a :: st) h) Q := G_unf rfl rfl
theorem g95_1 : G d 95 1 ls st h Q ↔ GN d 95 1 ls h (pR st fun a r => ck (arr h a 6) (nx 4 ls (rv (hR h a 3) :: r) h)) Q := G_unf rfl rfl
theorem g95_4 : G d 95 4 ls st h Q ↔ GN d 95 4 ls h (ldI ls 1 fun x => nx 5 ls (.int x :: st) h) Q := G_unf rfl rfl
theorem g95_5 : G d 95 5 ls st h Q ↔ GN d 95 5 ls h (nx 7 ls (.int (nI 12) :: st) h) Q := G_unf rfl rfl
theorem g95_7 : G d 95 7 ls st h Q ↔ GN d 95 7 ls h (pII st fun x y r => nx 8 ls (.int (x * y) :: r) h) Q := G_unf rfl rfl
theorem g95_8 : G d 95 8 ls st h Q ↔ GN d 95 8 ls h (ldI ls 2 fun x => nx 9 ls (.int x :: st) h) Q := G_unf rfl rfl
theorem g95_9 : G d 95 9 ls st h Q ↔ GN d 95 9 ls h (pII st fun x y r => nx 10 ls (.int (x + y) :: r) h) Q := G_unf rfl rfl
theorem g95_10 : G d 95 10 ls st h Q ↔ GN d 95 10 ls h (nx 11 ls (.int (-1) :: st) h) Q := G_unf rfl rfl
theorem g95_11 : G d 95 11 ls st h Q ↔ GN d 95 11 ls h (pRII st fun a i x r => ck (arr h a 10 ∧ inb i (hLn h a)) (nx 12 ls r (sI h a i.toNatClampNeg x))) Q := G_unf rfl rfl
theorem g95_12 : G d 95 12 ls st h Q ↔ GN d 95 12 ls h (ldR ls 0 fun a => nx 13 ls (.ref a :: st) h) Q := G_unf rfl rfl
theorem g95_13 : G d 95 13 ls st h Q ↔ GN d 95 13 ls h (pR st fun a r => ck (arr h a 6) (nx 16 ls (rv (hR h a 4) :: r) h)) Q := G_unf rfl rfl
theorem g95_16 : G d 95 16 ls st h Q ↔ GN d 95 16 ls h (ldI ls 1 fun x => nx 17 ls (.int x :: st) h) Q := G_unf rfl rfl
theorem g95_17 : G d 95 17 ls st h Q ↔ GN d 95 17 ls h (p11 st fun v w r => nx 18 ls (v :: w :: v :: w :: r) h) Q := G_unf rfl rfl
theorem g95_18 : G d 95 18 ls st h Q ↔ GN d 95 18 ls h (pRI st fun a i r => br (a = 1000003) (ck (inb i (hS h).1) (nx 19 ls (.int ((hS h).2 i.toNatClampNeg) :: r) h)) (ck (arr h a 10 ∧ inb i (hLn h a)) (nx 19 ls (.int (hI h a i.toNatClampNeg) :: r) h))) Q := G_unf rfl rfl
theorem g95_19 : G d 95 19 ls st h Q ↔ GN d 95 19 ls h (nx 20 ls (.int (nI 1) :: st) h) Q := G_unf rfl rfl
theorem g95_20 : G d 95 20 ls st h Q ↔ GN d 95 20 ls h (ldI ls 2 fun x => nx 21 ls (.int x :: st) h) Q := G_unf rfl rfl
theorem g95_21 : G d 95 21 ls st h Q ↔ GN d 95 21 ls h (pII st fun x y r => nx 22 ls (.int (x <<< (y &&& 31)) :: r) h) Q := G_unf rfl rfl
theorem g95_22 : G d 95 22 ls st h Q ↔ GN d 95 22 ls h (nx 23 ls (.int (-1) :: st) h) Q := G_unf rfl rfl
theorem g95_23 : G d 95 23 ls st h Q ↔ GN d 95 23 ls h (pII st fun x y r => nx 24 ls (.int (x ^^^ y) :: r) h) Q := G_unf rfl rfl
theorem g95_24 : G d 95 24 ls st h Q ↔ GN d 95 24 ls h (pII st fun x y r => nx 25 ls (.int (x &&& y) :: r) h) Q := G_unf rfl rfl
theorem g95_25 : G d 95 25 ls st h Q ↔ GN d 95 25 ls h (pRII st fun a i x r => ck (arr h a 10 ∧ inb i (hLn h a)) (nx 26 ls r (sI h a i.toNatClampNeg x))) Q := G_unf rfl rfl
theorem g95_26 : G d 95 26 ls st h Q ↔ GN d 95 26 ls h (pE st (rtn none)) Q := G_unf rfl rfl
theorem g96_0 : G d 96 0 ls st h Q ↔ GN d 96 0 ls h (ldR ls 0 fun a => nx 1 ls (.ref a :: st) h) Q := G_unf rfl rfl
theorem g96_1 : G d 96 1 ls st h Q ↔ GN d 96 1 ls h (ldI ls 1 fun x => nx 2 ls (.int x :: st) h) Q := G_unf rfl rfl
theorem g96_2 : G d 96 2 ls st h Q ↔ GN d 96 2 ls h (ldI ls 2 fun x => nx 3 ls (.int x :: st) h) Q := G_unf rfl rfl
theorem g96_3 : G d 96 3 ls st h Q ↔ GN d 96 3 ls h (pA 2 st fun as r => pR r fun a r => ck (r.length ≤ 4 ∧ arr h a 6) (cll 88 (.ref a :: as) r)) Q := G_unf rfl rfl
theorem g96_6 : G d 96 6 ls st h Q ↔ GN d 96 6 ls h (pI st fun x r => br (x = 0) (nx 23 ls r h) (nx 9 ls r h)) Q := G_unf rfl rfl
theorem g96_9 : G d 96 9 ls st h Q ↔ GN d 96 9 ls h (ldR ls 0 fun a => nx 10 ls (.ref a :: st) h) Q := G_unf rfl rfl
theorem g96_10 : G d 96 10 ls st h Q ↔ GN d 96 10 ls h (ldR ls 0 fun a => nx 11 ls (.ref a :: st) h) Q := G_unf rfl rfl
theorem g96_11 : G d 96 11 ls st h Q ↔ GN d 96 11 ls h (pR st fun a r => ck (arr h a 6) (nx 14 ls (.int (hI h a 0) :: r) h)) Q := G_unf rfl rfl
theorem g96_14 : G d 96 14 ls st h Q ↔ GN d 96 14 ls h (ldI ls 1 fun x => nx 15 ls (.int x :: st) h) Q := G_unf rfl rfl
theorem g96_15 : G d 96 15 ls st h Q ↔ GN d 96 15 ls h (ldI ls 2 fun x => nx 16 ls (.int x :: st) h) Q := G_unf rfl rfl
theorem g96_16 : G d 96 16 ls st h Q ↔ GN d 96 16 ls h (ldI ls 3 fun x => nx 17 ls (.int x :: st) h) Q := G_unf rfl rfl
theorem g96_17 : G d 96 17 ls st h Q ↔ GN d 96 17 ls h (pA 4 st fun as r => ck (r.length ≤ 4) (cll 153 as r)) Q := G_unf rfl rfl
theorem g96_20 : G d 96 20 ls st h Q ↔ GN d 96 20 ls h (pA 1 st fun as r => pR r fun a r => ck (r.length ≤ 4 ∧ arr h a 6) (cll 97 (.ref a :: as) r)) Q := G_unf rfl rfl
theorem g96_23 : G d 96 23 ls st h Q ↔ GN d 96 23 ls h (ldR ls 0 fun a => nx 24 ls (.ref a :: st) h) Q := G_unf rfl rfl
theorem g96_24 : G d 96 24 ls st h Q ↔ GN d 96 24 ls h (pR st fun a r => ck (arr h a 6) (nx 27 ls (rv (hR h a 1) :: r) h)) Q := G_unf rfl rfl
theorem g96_27 : G d 96 27 ls st h Q ↔ GN d 96 27 ls h (ldI ls 1 fun x => nx 28 ls (.int x :: st) h) Q := G_unf rfl rfl
theorem g96_28 : G d 96 28 ls st h Q ↔ GN d 96 28 ls h (p11 st fun v w r => nx 29 ls (v :: w :: v :: w :: r) h) Q := G_unf rfl rfl
theorem g96_29 : G d 96 29 ls st h Q ↔ GN d 96 29 ls h (pRI st fun a i r => br (a = 1000003) (ck (inb i (hS h).1) (nx 30 ls (.int ((hS h).2 i.toNatClampNeg) :: r) h)) (ck (arr h a 10 ∧ inb i (hLn h a)) (nx 30 ls (.int (hI h a i.toNatClampNeg) :: r) h))) Q := G_unf rfl rfl
theorem g96_30 : G d 96 30 ls st h Q ↔ GN d 96 30 ls h (nx 31 ls (.int (nI 1) :: st) h) Q := G_unf rfl rfl
theorem g96_31 : G d 96 31 ls st h Q ↔ GN d 96 31 ls h (ldI ls 2 fun x => nx 32 ls (.int x :: st) h) Q := G_unf rfl rfl
theorem g96_32 : G d 96 32 ls st h Q ↔ GN d 96 32 ls h (pII st fun x y r => nx 33 ls (.int (x <<< (y &&& 31)) :: r) h) Q := G_unf rfl rfl
theorem g96_33 : G d 96 33 ls st h Q ↔ GN d 96 33 ls h (pII st fun x y r => nx 34 ls (.int (x ||| y) :: r) h) Q := G_unf rfl rfl
theorem g96_34 : G d 96 34 ls st h Q ↔ GN d 96 34 ls h (pRII st fun a i x r => ck (arr h a 10 ∧ inb i (hLn h a)) (nx 35 ls r (sI h a i.toNatClampNeg x))) Q := G_unf rfl rfl
theorem g96_35 : G d 96 35 ls st h Q ↔ GN d 96 35 ls h (pE st (rtn none)) Q := G_unf rfl rfl
theorem g97_0 : G d 97 0 ls st h Q ↔ GN d 97 0 ls h (ldR ls 0 fun a => nx 1 ls (.ref a :: st) h) Q := G_unf rfl rfl
theorem g97_1 : G d 97 1 ls st h Q ↔ GN d 97 1 ls h (pR st fun a r => ck (arr h a 6) (nx 4 ls (.int (hI h a 7) :: r) h)) Q := G_unf rfl rfl
theorem g97_4 : G d 97 4 ls st h Q ↔ GN d 97 4 ls h (pI st fun x r => br (¬ x = 0) (nx 12 ls r h) (nx 7 ls r h)) Q := G_unf rfl rfl
theorem g97_7 : G d 97 7 ls st h Q ↔ GN d 97 7 ls h (ldR ls 0 fun a => nx 8 ls (.ref a :: st) h) Q := G_unf rfl rfl
theorem g97_8 : G d 97 8 ls st h Q ↔ GN d 97 8 ls h (ldI ls 1 fun x => nx 9 ls (.int x :: st) h) Q := G_unf rfl rfl
theorem g97_9 : G d 97 9 ls st h Q ↔ GN d 97 9 ls h (pRI st fun a x r => ck (arr h a 6) (nx 12 ls r (sI h a 8 x))) Q := G_unf rfl rfl
theorem g97_12 : G d 97 12 ls st h Q ↔ GN d 97 12 ls h (ldR ls 0 fun a => nx 13 ls (.ref a :: st) h) Q := G_unf rfl rfl
theorem g97_13 : G d 97 13 ls st h Q ↔ GN d 97 13 ls h (p1 st fun v r => nx 14 ls (v :: v :: r) h) Q := G_unf rfl rfl
theorem g97_14 : G d 97 14 ls st h Q ↔ GN d 97 14 ls h (pR st fun a r => ck (arr h a 6) (nx 17 ls (.int (hI h a 7) :: r) h)) Q := G_unf rfl rfl
theorem g97_17 : G d 97 17 ls st h Q ↔ GN d 97 17 ls h (nx 18 ls (.int (nI 1) :: st) h) Q := G_unf rfl rfl
theorem g97_18 : G d 97 18 ls st h Q ↔ GN d 97 18 ls h (pII st fun x y r => nx 19 ls (.int (x + y) :: r) h) Q := G_unf rfl rfl
theorem g97_19 : G d 97 19 ls st h Q ↔ GN d 97 19 ls h (pRI st fun a x r => ck (arr h a 6) (nx 22 ls r (sI h a 7 x))) Q := G_unf rfl rfl
theorem g97_22 : G d 97 22 ls st h Q ↔ GN d 97 22 ls h (ldR ls 0 fun a => nx 23 ls (.ref a :: st) h) Q := G_unf rfl rfl
theorem g97_23 : G d 97 23 ls st h Q ↔ GN d 97 23 ls h (pR st fun a r => ck (arr h a 6) (nx 26 ls (.int (hI h a 6) :: r) h)) Q := G_unf rfl rfl
theorem g97_26 : G d 97 26 ls st h Q ↔ GN d 97 26 ls h (nx 28 ls (.int (nI 40) :: st) h) Q := G_unf rfl rfl
theorem g97_28 : G d 97 28 ls st h Q ↔ GN d 97 28 ls h (pII st fun x y r => br (¬ x = y) (nx 56 ls r h) (nx 31 ls r h)) Q := G_unf rfl rfl
theorem g97_31 : G d 97 31 ls st h Q ↔ GN d 97 31 ls h (ldR ls 0 fun a => nx 32 ls (.ref a :: st) h) Q := G_unf rfl rfl
theorem g97_32 : G d 97 32 ls st h Q ↔ GN d 97 32 ls h (pR st fun a r => ck (arr h a 6) (nx 35 ls (rv (hR h a 5) :: r) h)) Q := G_unf rfl rfl
theorem g97_35 : G d 97 35 ls st h Q ↔ GN d 97 35 ls h (nx 36 ls (.int (nI 1) :: st) h) Q := G_unf rfl rfl
theorem g97_36 : G d 97 36 ls st h Q ↔ GN d 97 36 ls h (ldR ls 0 fun a => nx 37 ls (.ref a :: st) h) Q := G_unf rfl rfl
theorem g97_37 : G d 97 37 ls st h Q ↔ GN d 97 37 ls h (pR st fun a r => ck (arr h a 6) (nx 40 ls (rv (hR h a 5) :: r) h)) Q := G_unf rfl rfl
theorem g97_40 : G d 97 40 ls st h Q ↔ GN d 97 40 ls h (nx 41 ls (.int (nI 0) :: st) h) Q := G_unf rfl rfl
theorem g97_41 : G d 97 41 ls st h Q ↔ GN d 97 41 ls h (nx 43 ls (.int (nI 39) :: st) h) Q := G_unf rfl rfl
theorem g97_43 : G d 97 43 ls st h Q ↔ GN d 97 43 ls h (pCopy st fun a0 sp a dp z r => ck (r.length ≤ 4 ∧ arr h a0 10 ∧ arr h a 10 ∧ (0 ≤ sp.toInt ∧ 0 ≤ dp.toInt ∧ 0 ≤ z.toInt) ∧ sp.toInt + z.toInt ≤ hLn h a0 ∧ dp.toInt + z.toInt ≤ hLn h a) (nx 46 ls r (sA h a (va_cpy (hI h a0) (hI h a) sp.toNatClampNeg dp.toNatClampNeg z.toNatClampNeg)))) Q := G_unf rfl rfl
theorem g97_46 : G d 97 46 ls st h Q ↔ GN d 97 46 ls h (ldR ls 0 fun a => nx 47 ls (.ref a :: st) h) Q := G_unf rfl rfl
theorem g97_47 : G d 97 47 ls st h Q ↔ GN d 97 47 ls h (p1 st fun v r => nx 48 ls (v :: v :: r) h) Q := G_unf rfl rfl
theorem g97_48 : G d 97 48 ls st h Q ↔ GN d 97 48 ls h (pR st fun a r => ck (arr h a 6) (nx 51 ls (.int (hI h a 6) :: r) h)) Q := G_unf rfl rfl
theorem g97_51 : G d 97 51 ls st h Q ↔ GN d 97 51 ls h (nx 52 ls (.int (nI 1) :: st) h) Q := G_unf rfl rfl
theorem g97_52 : G d 97 52 ls st h Q ↔ GN d 97 52 ls h (pII st fun x y r => nx 53 ls (.int (x - y) :: r) h) Q := G_unf rfl rfl
theorem g97_53 : G d 97 53 ls st h Q ↔ GN d 97 53 ls h (pRI st fun a x r => ck (arr h a 6) (nx 56 ls r (sI h a 6 x))) Q := G_unf rfl rfl
theorem g97_56 : G d 97 56 ls st h Q ↔ GN d 97 56 ls h (ldR ls 0 fun a => nx 57 ls (.ref a :: st) h) Q := G_unf rfl rfl
theorem g97_57 : G d 97 57 ls st h Q ↔ GN d 97 57 ls h (pR st fun a r => ck (arr h a 6) (nx 60 ls (rv (hR h a 5) :: r) h)) Q := G_unf rfl rfl
theorem g97_60 : G d 97 60 ls st h Q ↔ GN d 97 60 ls h (ldR ls 0 fun a => nx 61 ls (.ref a :: st) h) Q := G_unf rfl rfl
theorem g97_61 : G d 97 61 ls st h Q ↔ GN d 97 61 ls h (pR st fun a r => ck (arr h a 6) (nx 64 ls (.int (hI h a 6) :: r) h)) Q := G_unf rfl rfl
theorem g97_64 : G d 97 64 ls st h Q ↔ GN d 97 64 ls h (ldI ls 1 fun x => nx 65 ls (.int x :: st) h) Q := G_unf rfl rfl
theorem g97_65 : G d 97 65 ls st h Q ↔ GN d 97 65 ls h (pRII st fun a i x r => ck (arr h a 10 ∧ inb i (hLn h a)) (nx 66 ls r (sI h a i.toNatClampNeg x))) Q := G_unf rfl rfl
theorem g97_66 : G d 97 66 ls st h Q ↔ GN d 97 66 ls h (ldR ls 0 fun a => nx 67 ls (.ref a :: st) h) Q := G_unf rfl rfl
theorem g97_67 : G d 97 67 ls st h Q ↔ GN d 97 67 ls h (p1 st fun v r => nx 68 ls (v :: v :: r) h) Q := G_unf rfl rfl
theorem g97_68 : G d 97 68 ls st h Q ↔ GN d 97 68 ls h (pR st fun a r => ck (arr h a 6) (nx 71 ls (.int (hI h a 6) :: r) h)) Q := G_unf rfl rfl
theorem g97_71 : G d 97 71 ls st h Q ↔ GN d 97 71 ls h (nx 72 ls (.int (nI 1) :: st) h) Q := G_unf rfl rfl
theorem g97_72 : G d 97 72 ls st h Q ↔ GN d 97 72 ls h (pII st fun x y r => nx 73 ls (.int (x + y) :: r) h) Q := G_unf rfl rfl
theorem g97_73 : G d 97 73 ls st h Q ↔ GN d 97 73 ls h (pRI st fun a x r => ck (arr h a 6) (nx 76 ls r (sI h a 6 x))) Q := G_unf rfl rfl
theorem g97_76 : G d 97 76 ls st h Q ↔ GN d 97 76 ls h (pE st (rtn none)) Q := G_unf rfl rfl
theorem g98_0 : G d 98 0 ls st h Q ↔ GN d 98 0 ls h (ldR ls 0 fun a => nx 1 ls (.ref a :: st) h) Q := G_unf rfl rfl
theorem g98_1 : G d 98 1 ls st h Q ↔ GN d 98 1 ls h (pR st fun _ r => ck (r.length ≤ 4) (nx 4 ls r h)) Q := G_unf rfl rfl
theorem g98_4 : G d 98 4 ls st h Q ↔ GN d 98 4 ls h (ldR ls 0 fun a => nx 5 ls (.ref a :: st) h) Q := G_unf rfl rfl
theorem g98_5 : G d 98 5 ls st h Q ↔ GN d 98 5 ls h (nx 7 ls (.int (nI 64) :: st) h) Q := G_unf rfl rfl
theorem g98_7 : G d 98 7 ls st h Q ↔ GN d 98 7 ls h (pI st fun z r => ck (0 ≤ z.toInt ∧ z.toInt ≤ 1000000 ∧ lay (hN h) = 10) (nx 9 ls (.ref (hN h) :: r) (alc h z.toNatClampNeg z.toNatClampNeg))) Q := G_unf rfl rfl
theorem g98_9 : G d 98 9 ls st h Q ↔ GN d 98 9 ls h (pRR st fun a x r => ck (arr h a 7) (nx 12 ls r (sR h a 8 (some x)))) Q := G_unf rfl rfl
theorem g98_12 : G d 98 12 ls st h Q ↔ GN d 98 12 ls h (pE st (rtn none)) Q := G_unf rfl rfl
theorem g99_0 : G d 99 0 ls st h Q ↔ GN d 99 0 ls h (ldR ls 0 fun a => nx 1 ls (.ref a :: st) h) Q := G_unf rfl rfl
theorem g99_1 : G d 99 1 ls st h Q ↔ GN d 99 1 ls h (nx 2 ls (.int (nI 0) :: st) h) Q := G_unf rfl rfl
theorem g99_2 : G d 99 2 ls st h Q ↔ GN d 99 2 ls h (pRI st fun a x r => ck (arr h a 7) (nx 5 ls r (sI h a 9 x))) Q := G_unf rfl rfl
theorem g99_5 : G d 99 5 ls st h Q ↔ GN d 99 5 ls h (nx 6 ls (.int (nI 0) :: st) h) Q := G_unf rfl rfl
theorem g99_6 : G d 99 6 ls st h Q ↔ GN d 99 6 ls h (pI st fun x r => ck (2 < ls.length) (nx 7 (st1 ls 2 (.int x)) r h)) Q := G_unf rfl rfl
theorem g99_7 : G d 99 7 ls st h Q ↔ GN d 99 7 ls h (ldI ls 2 fun x => nx 8 ls (.int x :: st) h) Q := G_unf rfl rfl
theorem g99_8 : G d 99 8 ls st h Q ↔ GN d 99 8 ls h (ldR ls 1 fun a => nx 9 ls (.ref a :: st) h) Q := G_unf rfl rfl
theorem g99_9 : G d 99 9 ls st h Q ↔ GN d 99 9 ls h (pR st fun a r => br (a = 1000000) (nx 10 ls (.int (nI 0) :: r) h) (br (a = 1000002) (nx 10 ls (.int (nI 208) :: r) h) (br (a = 1000003) (nx 10 ls (.int (nI (hS h).1) :: r) h) (ck (a < hN h ∧ 10 ≤ lay a) (nx 10 ls (.int (nI (hLn h a)) :: r) h))))) Q := G_unf rfl rfl
theorem g99_10 : G d 99 10 ls st h Q ↔ GN d 99 10 ls h (pII st fun x y r => br (y ≤ x) (nx 163 ls r h) (nx 13 ls r h)) Q := G_unf rfl rfl
theorem g99_13 : G d 99 13 ls st h Q ↔ GN d 99 13 ls h (ldR ls 1 fun a => nx 14 ls (.ref a :: st) h) Q := G_unf rfl rfl
theorem g99_14 : G d 99 14 ls st h Q ↔ GN d 99 14 ls h (ldI ls 2 fun x => nx 15 ls (.int x :: st) h) Q := G_unf rfl rfl
theorem g99_15 : G d 99 15 ls st h Q ↔ GN d 99 15 ls h (pRI st fun a i r => br (a = 1000003) (ck (inb i (hS h).1) (nx 16 ls (.int ((hS h).2 i.toNatClampNeg) :: r) h)) (ck (arr h a 10 ∧ inb i (hLn h a)) (nx 16 ls (.int (hI h a i.toNatClampNeg) :: r) h))) Q := G_unf rfl rfl
theorem g99_16 : G d 99 16 ls st h Q ↔ GN d 99 16 ls h (nx 19 ls (.int (nI 10000) :: st) h) Q := G_unf rfl rfl
theorem g99_19 : G d 99 19 ls st h Q ↔ GN d 99 19 ls h (pII st fun x y r => nx 20 ls (.int (x - y) :: r) h) Q := G_unf rfl rfl
theorem g99_20 : G d 99 20 ls st h Q ↔ GN d 99 20 ls h (pI st fun x r => ck (3 < ls.length) (nx 21 (st1 ls 3 (.int x)) r h)) Q := G_unf rfl rfl
theorem g99_21 : G d 99 21 ls st h Q ↔ GN d 99 21 ls h (ldI ls 3 fun x => nx 22 ls (.int x :: st) h) Q := G_unf rfl rfl
theorem g99_22 : G d 99 22 ls st h Q ↔ GN d 99 22 ls h (pI st fun x r => br (0 ≤ x) (nx 35 ls r h) (nx 25 ls r h)) Q := G_unf rfl rfl
theorem g99_25 : G d 99 25 ls st h Q ↔ GN d 99 25 ls h (ldR ls 0 fun a => nx 26 ls (.ref a :: st) h) Q := G_unf rfl rfl
theorem g99_26 : G d 99 26 ls st h Q ↔ GN d 99 26 ls h (ldR ls 1 fun a => nx 27 ls (.ref a :: st) h) Q := G_unf rfl rfl
theorem g99_27 : G d 99 27 ls st h Q ↔ GN d 99 27 ls h (ldI ls 2 fun x => nx 28 ls (.int x :: st) h) Q := G_unf rfl rfl
theorem g99_28 : G d 99 28 ls st h Q ↔ GN d 99 28 ls h (pRI st fun a i r => br (a = 1000003) (ck (inb i (hS h).1) (nx 29 ls (.int ((hS h).2 i.toNatClampNeg) :: r) h)) (ck (arr h a 10 ∧ inb i (hLn h a)) (nx 29 ls (.int (hI h a i.toNatClampNeg) :: r) h))) Q := G_unf rfl rfl
theorem g99_29 : G d 99 29 ls st h Q ↔ GN d 99 29 ls h (pA 1 st fun as r => pR r fun a r => ck (r.length ≤ 4 ∧ arr h a 7) (cll 100 (.ref a :: as) r)) Q := G_unf rfl rfl
theorem g99_32 : G d 99 32 ls st h Q ↔ GN d 99 32 ls h (nx 157 ls st h) Q := G_unf rfl rfl
theorem g99_35 : G d 99 35 ls st h Q ↔ GN d 99 35 ls h (ldI ls 3 fun x => nx 36 ls (.int x :: st) h) Q := G_unf rfl rfl
theorem g99_36 : G d 99 36 ls st h Q ↔ GN d 99 36 ls h (nx 38 ls (.int (nI 20) :: st) h) Q := G_unf rfl rfl
theorem g99_38 : G d 99 38 ls st h Q ↔ GN d 99 38 ls h (pII st fun x y r => br (x < y) (nx 47 ls r h) (nx 41 ls r h)) Q := G_unf rfl rfl
theorem g99_41 : G d 99 41 ls st h Q ↔ GN d 99 41 ls h (ldI ls 3 fun x => nx 42 ls (.int x :: st) h) Q := G_unf rfl rfl
theorem g99_42 : G d 99 42 ls st h Q ↔ GN d 99 42 ls h (nx 44 ls (.int (nI 23) :: st) h) Q := G_unf rfl rfl
theorem g99_44 : G d 99 44 ls st h Q ↔ GN d 99 44 ls h (pII st fun x y r => br (¬ x = y) (nx 59 ls r h) (nx 47 ls r h)) Q := G_unf rfl rfl
theorem g99_47 : G d 99 47 ls st h Q ↔ GN d 99 47 ls h (ldR ls 0 fun a => nx 48 ls (.ref a :: st) h) Q := G_unf rfl rfl
theorem g99_48 : G d 99 48 ls st h Q ↔ GN d 99 48 ls h (ldR ls 0 fun a => nx 49 ls (.ref a :: st) h) Q := G_unf rfl rfl
theorem g99_49 : G d 99 49 ls st h Q ↔ GN d 99 49 ls h (ldI ls 3 fun x => nx 50 ls (.int x :: st) h) Q := G_unf rfl rfl
theorem g99_50 : G d 99 50 ls st h Q ↔ GN d 99 50 ls h (pA 1 st fun as r => pR r fun a r => ck (r.length ≤ 4 ∧ arr h a 7) (cll 101 (.ref a :: as) r)) Q := G_unf rfl rfl
theorem g99_53 : G d 99 53 ls st h Q ↔ GN d 99 53 ls h (pA 1 st fun as r => pR r fun a r => ck (r.length ≤ 4 ∧ arr h a 7) (cll 100 (.ref a :: as) r)) Q := G_unf rfl rfl
theorem g99_56 : G d 99 56 ls st h Q ↔ GN d 99 56 ls h (nx 157 ls st h) Q := G_unf rfl rfl
theorem g99_59 : G d 99 59 ls st h Q ↔ GN d 99 59 ls h (ldI ls 3 fun x => nx 60 ls (.int x :: st) h) Q := G_unf rfl rfl
theorem g99_60 : G d 99 60 ls st h Q ↔ GN d 99 60 ls h (nx 62 ls (.int (nI 22) :: st) h) Q := G_unf rfl rfl
theorem g99_62 : G d 99 62 ls st h Q ↔ GN d 99 62 ls h (pII st fun x y r => br (¬ x = y) (nx 99 ls r h) (nx 65 ls r h)) Q := G_unf rfl rfl
theorem g99_65 : G d 99 65 ls st h Q ↔ GN d 99 65 ls h (ldR ls 0 fun a => nx 66 ls (.ref a :: st) h) Q := G_unf rfl rfl
theorem g99_66 : G d 99 66 ls st h Q ↔ GN d 99 66 ls h (pR st fun a r => ck (arr h a 7) (nx 69 ls (.int (hI h a 9) :: r) h)) Q := G_unf rfl rfl
theorem g99_69 : G d 99 69 ls st h Q ↔ GN d 99 69 ls h (pI st fun x r => br (x ≤ 0) (nx 99 ls r h) (nx 72 ls r h)) Q := G_unf rfl rfl
theorem g99_72 : G d 99 72 ls st h Q ↔ GN d 99 72 ls h (ldR ls 0 fun a => nx 73 ls (.ref a :: st) h) Q := G_unf rfl rfl
theorem g99_73 : G d 99 73 ls st h Q ↔ GN d 99 73 ls h (pR st fun a r => ck (arr h a 7) (nx 76 ls (rv (hR h a 8) :: r) h)) Q := G_unf rfl rfl
theorem g99_76 : G d 99 76 ls st h Q ↔ GN d 99 76 ls h (ldR ls 0 fun a => nx 77 ls (.ref a :: st) h) Q := G_unf rfl rfl
theorem g99_77 : G d 99 77 ls st h Q ↔ GN d 99 77 ls h (pR st fun a r => ck (arr h a 7) (nx 80 ls (.int (hI h a 9) :: r) h)) Q := G_unf rfl rfl
theorem g99_80 : G d 99 80 ls st h Q ↔ GN d 99 80 ls h (nx 81 ls (.int (nI 1) :: st) h) Q := G_unf rfl rfl
theorem g99_81 : G d 99 81 ls st h Q ↔ GN d 99 81 ls h (pII st fun x y r => nx 82 ls (.int (x - y) :: r) h) Q := G_unf rfl rfl
theorem g99_82 : G d 99 82 ls st h Q ↔ GN d 99 82 ls h (nx 83 ls (.int (nI 1) :: st) h) Q := G_unf rfl rfl
theorem g99_83 : G d 99 83 ls st h Q ↔ GN d 99 83 ls h (ldR ls 0 fun a => nx 84 ls (.ref a :: st) h) Q := G_unf rfl rfl
theorem g99_84 : G d 99 84 ls st h Q ↔ GN d 99 84 ls h (pR st fun a r => ck (arr h a 7) (nx 87 ls (rv (hR h a 8) :: r) h)) Q := G_unf rfl rfl
theorem g99_87 : G d 99 87 ls st h Q ↔ GN d 99 87 ls h (ldR ls 0 fun a => nx 88 ls (.ref a :: st) h) Q := G_unf rfl rfl
theorem g99_88 : G d 99 88 ls st h Q ↔ GN d 99 88 ls h (pR st fun a r => ck (arr h a 7) (nx 91 ls (.int (hI h a 9) :: r) h)) Q := G_unf rfl rfl
theorem g99_91 : G d 99 91 ls st h Q ↔ GN d 99 91 ls h (nx 92 ls (.int (nI 1) :: st) h) Q := G_unf rfl rfl
theorem g99_92 : G d 99 92 ls st h Q ↔ GN d 99 92 ls h (pII st fun x y r => nx 93 ls (.int (x - y) :: r) h) Q := G_unf rfl rfl
theorem g99_93 : G d 99 93 ls st h Q ↔ GN d 99 93 ls h (pRI st fun a i r => br (a = 1000003) (ck (inb i (hS h).1) (nx 94 ls (.int ((hS h).2 i.toNatClampNeg) :: r) h)) (ck (arr h a 10 ∧ inb i (hLn h a)) (nx 94 ls (.int (hI h a i.toNatClampNeg) :: r) h))) Q := G_unf rfl rfl
theorem g99_94 : G d 99 94 ls st h Q ↔ GN d 99 94 ls h (pII st fun x y r => nx 95 ls (.int (x - y) :: r) h) Q := G_unf rfl rfl
theorem g99_95 : G d 99 95 ls st h Q ↔ GN d 99 95 ls h (pRII st fun a i x r => ck (arr h a 10 ∧ inb i (hLn h a)) (nx 96 ls r (sI h a i.toNatClampNeg x))) Q := G_unf rfl rfl
theorem g99_96 : G d 99 96 ls st h Q ↔ GN d 99 96 ls h (nx 157 ls st h) Q := G_unf rfl rfl
theorem g99_99 : G d 99 99 ls st h Q ↔ GN d 99 99 ls h (ldR ls 0 fun a => nx 100 ls (.ref a :: st) h) Q := G_unf rfl rfl
theorem g99_100 : G d 99 100 ls st h Q ↔ GN d 99 100 ls h (pR st fun a r => ck (arr h a 7) (nx 103 ls (.int (hI h a 9) :: r) h)) Q := G_unf rfl rfl
theorem g99_103 : G d 99 103 ls st h Q ↔ GN d 99 103 ls h (nx 104 ls (.int (nI 1) :: st) h) Q := G_unf rfl rfl
theorem g99_104 : G d 99 104 ls st h Q ↔ GN d 99 104 ls h (pII st fun x y r => br (x ≤ y) (nx 157 ls r h) (nx 107 ls r h)) Q := G_unf rfl rfl
theorem g99_107 : G d 99 107 ls st h Q ↔ GN d 99 107 ls h (ldR ls 0 fun a => nx 108 ls (.ref a :: st) h) Q := G_unf rfl rfl
theorem g99_108 : G d 99 108 ls st h Q ↔ GN d 99 108 ls h (p1 st fun v r => nx 109 ls (v :: v :: r) h) Q := G_unf rfl rfl
theorem g99_109 : G d 99 109 ls st h Q ↔ GN d 99 109 ls h (pR st fun a r => ck (arr h a 7) (nx 112 ls (.int (hI h a 9) :: r) h)) Q := G_unf rfl rfl
theorem g99_112 : G d 99 112 ls st h Q ↔ GN d 99 112 ls h (nx 113 ls (.int (nI 1) :: st) h) Q := G_unf rfl rfl
theorem g99_113 : G d 99 113 ls st h Q ↔ GN d 99 113 ls h (pII st fun x y r => nx 114 ls (.int (x - y) :: r) h) Q := G_unf rfl rfl
theorem g99_114 : G d 99 114 ls st h Q ↔ GN d 99 114 ls h (pRI st fun a x r => ck (arr h a 7) (nx 117 ls r (sI h a 9 x))) Q := G_unf rfl rfl
theorem g99_117 : G d 99 117 ls st h Q ↔ GN d 99 117 ls h (ldR ls 0 fun a => nx 118 ls (.ref a :: st) h) Q := G_unf rfl rfl
theorem g99_118 : G d 99 118 ls st h Q ↔ GN d 99 118 ls h (pR st fun a r => ck (arr h a 7) (nx 121 ls (rv (hR h a 8) :: r) h)) Q := G_unf rfl rfl
theorem g99_121 : G d 99 121 ls st h Q ↔ GN d 99 121 ls h (ldR ls 0 fun a => nx 122 ls (.ref a :: st) h) Q := G_unf rfl rfl
theorem g99_122 : G d 99 122 ls st h Q ↔ GN d 99 122 ls h (pR st fun a r => ck (arr h a 7) (nx 125 ls (.int (hI h a 9) :: r) h)) Q := G_unf rfl rfl
theorem g99_125 : G d 99 125 ls st h Q ↔ GN d 99 125 ls h (nx 126 ls (.int (nI 1) :: st) h) Q := G_unf rfl rfl
theorem g99_126 : G d 99 126 ls st h Q ↔ GN d 99 126 ls h (pII st fun x y r => nx 127 ls (.int (x - y) :: r) h) Q := G_unf rfl rfl
theorem g99_127 : G d 99 127 ls st h Q ↔ GN d 99 127 ls h (ldI ls 3 fun x => nx 128 ls (.int x :: st) h) Q := G_unf rfl rfl
theorem g99_128 : G d 99 128 ls st h Q ↔ GN d 99 128 ls h (ldR ls 0 fun a => nx 129 ls (.ref a :: st) h) Q := G_unf rfl rfl
theorem g99_129 : G d 99 129 ls st h Q ↔ GN d 99 129 ls h (pR st fun a r => ck (arr h a 7) (nx 132 ls (rv (hR h a 8) :: r) h)) Q := G_unf rfl rfl
theorem g99_132 : G d 99 132 ls st h Q ↔ GN d 99 132 ls h (ldR ls 0 fun a => nx 133 ls (.ref a :: st) h) Q := G_unf rfl rfl
theorem g99_133 : G d 99 133 ls st h Q ↔ GN d 99 133 ls h (pR st fun a r => ck (arr h a 7) (nx 136 ls (.int (hI h a 9) :: r) h)) Q := G_unf rfl rfl
theorem g99_136 : G d 99 136 ls st h Q ↔ GN d 99 136 ls h (nx 137 ls (.int (nI 1) :: st) h) Q := G_unf rfl rfl
theorem g99_137 : G d 99 137 ls st h Q ↔ GN d 99 137 ls h (pII st fun x y r => nx 138 ls (.int (x - y) :: r) h) Q := G_unf rfl rfl
theorem g99_138 : G d 99 138 ls st h Q ↔ GN d 99 138 ls h (pRI st fun a i r => br (a = 1000003) (ck (inb i (hS h).1) (nx 139 ls (.int ((hS h).2 i.toNatClampNeg) :: r) h)) (ck (arr h a 10 ∧ inb i (hLn h a)) (nx 139 ls (.int (hI h a i.toNatClampNeg) :: r) h))) Q := G_unf rfl rfl
theorem g99_139 : G d 99 139 ls st h Q ↔ GN d 99 139 ls h (pI st fun x r => nx 140 ls (.long x.toInt64 :: r) h) Q := G_unf rfl rfl
theorem g99_140 : G d 99 140 ls st h Q ↔ GN d 99 140 ls h (ldR ls 0 fun a => nx 141 ls (.ref a :: st) h) Q := G_unf rfl rfl
theorem g99_141 : G d 99 141 ls st h Q ↔ GN d 99 141 ls h (pR st fun a r => ck (arr h a 7) (nx 144 ls (rv (hR h a 8) :: r) h)) Q := G_unf rfl rfl
theorem g99_144 : G d 99 144 ls st h Q ↔ GN d 99 144 ls h (ldR ls 0 fun a => nx 145 ls (.ref a :: st) h) Q := G_unf rfl rfl
theorem g99_145 : G d 99 145 ls st h Q ↔ GN d 99 145 ls h (pR st fun a r => ck (arr h a 7) (nx 148 ls (.int (hI h a 9) :: r) h)) Q := G_unf rfl rfl
theorem g99_148 : G d 99 148 ls st h Q ↔ GN d 99 148 ls h (pRI st fun a i r => br (a = 1000003) (ck (inb i (hS h).1) (nx 149 ls (.int ((hS h).2 i.toNatClampNeg) :: r) h)) (ck (arr h a 10 ∧ inb i (hLn h a)) (nx 149 ls (.int (hI h a i.toNatClampNeg) :: r) h))) Q := G_unf rfl rfl
theorem g99_149 : G d 99 149 ls st h Q ↔ GN d 99 149 ls h (pI st fun x r => nx 150 ls (.long x.toInt64 :: r) h) Q := G_unf rfl rfl
theorem g99_150 : G d 99 150 ls st h Q ↔ GN d 99 150 ls h (pA 3 st fun as r => ck (r.length ≤ 4) (cll 102 as r)) Q := G_unf rfl rfl
theorem g99_153 : G d 99 153 ls st h Q ↔ GN d 99 153 ls h (pA 1 st fun as r => ck (r.length ≤ 4) (cll 103 as r)) Q := G_unf rfl rfl
theorem g99_156 : G d 99 156 ls st h Q ↔ GN d 99 156 ls h (pRII st fun a i x r => ck (arr h a 10 ∧ inb i (hLn h a)) (nx 157 ls r (sI h a i.toNatClampNeg x))) Q := G_unf rfl rfl
theorem g99_157 : G d 99 157 ls st h Q ↔ GN d 99 157 ls h (ldI ls 2 fun x => nx 160 (st1 ls 2 (.int (x + (nI 1)))) st h) Q := G_unf rfl rfl
theorem g99_160 : G d 99 160 ls st h Q ↔ GN d 99 160 ls h (nx 7 ls st h) Q := G_unf rfl rfl
theorem g99_163 : G d 99 163 ls st h Q ↔ GN d 99 163 ls h (ldR ls 0 fun a => nx 164 ls (.ref a :: st) h) Q := G_unf rfl rfl
theorem g99_164 : G d 99 164 ls st h Q ↔ GN d 99 164 ls h (pR st fun a r => ck (arr h a 7) (nx 167 ls (.int (hI h a 9) :: r) h)) Q := G_unf rfl rfl
theorem g99_167 : G d 99 167 ls st h Q ↔ GN d 99 167 ls h (pI st fun x r => br (x ≤ 0) (nx 179 ls r h) (nx 170 ls r h)) Q := G_unf rfl rfl
theorem g99_170 : G d 99 170 ls st h Q ↔ GN d 99 170 ls h (ldR ls 0 fun a => nx 171 ls (.ref a :: st) h) Q := G_unf rfl rfl
theorem g99_171 : G d 99 171 ls st h Q ↔ GN d 99 171 ls h (pR st fun a r => ck (arr h a 7) (nx 174 ls (rv (hR h a 8) :: r) h)) Q := G_unf rfl rfl
theorem g99_174 : G d 99 174 ls st h Q ↔ GN d 99 174 ls h (nx 175 ls (.int (nI 0) :: st) h) Q := G_unf rfl rfl
theorem g99_175 : G d 99 175 ls st h Q ↔ GN d 99 175 ls h (pRI st fun a i r => br (a = 1000003) (ck (inb i (hS h).1) (nx 176 ls (.int ((hS h).2 i.toNatClampNeg) :: r) h)) (ck (arr h a 10 ∧ inb i (hLn h a)) (nx 176 ls (.int (hI h a i.toNatClampNeg) :: r) h))) Q := G_unf rfl rfl
theorem g99_176 : G d 99 176 ls st h Q ↔ GN d 99 176 ls h (nx 180 ls st h) Q := G_unf rfl rfl
theorem g99_179 : G d 99 179 ls st h Q ↔ GN d 99 179 ls h (nx 180 ls (.int (nI 0) :: st) h) Q := G_unf rfl rfl
theorem g99_180 : G d 99 180 ls st h Q ↔ GN d 99 180 ls h (pIe st fun x => rtn (some (.int x))) Q := G_unf rfl rfl
theorem g100_0 : G d 100 0 ls st h Q ↔ GN d 100 0 ls h (ldR ls 0 fun a => nx 1 ls (.ref a :: st) h) Q := G_unf rfl rfl
theorem g100_1 : G d 100 1 ls st h Q ↔ GN d 100 1 ls h (pR st fun a r => ck (arr h a 7) (nx 4 ls (.int (hI h a 9) :: r) h)) Q := G_unf rfl rfl
theorem g100_4 : G d 100 4 ls st h Q ↔ GN d 100 4 ls h (nx 6 ls (.int (nI 64) :: st) h) Q := G_unf rfl rfl
theorem g100_6 : G d 100 6 ls st h Q ↔ GN d 100 6 ls h (pII st fun x y r => br (y ≤ x) (nx 29 ls r h) (nx 9 ls r h)) Q := G_unf rfl rfl
theorem g100_9 : G d 100 9 ls st h Q ↔ GN d 100 9 ls h (ldR ls 0 fun a => nx 10 ls (.ref a :: st) h) Q := G_unf rfl rfl
theorem g100_10 : G d 100 10 ls st h Q ↔ GN d 100 10 ls h (pR st fun a r => ck (arr h a 7) (nx 13 ls (rv (hR h a 8) :: r) h)) Q := G_unf rfl rfl
theorem g100_13 : G d 100 13 ls st h Q ↔ GN d 100 13 ls h (ldR ls 0 fun a => nx 14 ls (.ref a :: st) h) Q := G_unf rfl rfl
theorem g100_14 : G d 100 14 ls st h Q ↔ GN d 100 14 ls h (pR st fun a r => ck (arr h a 7) (nx 17 ls (.int (hI h a 9) :: r) h)) Q := G_unf rfl rfl
theorem g100_17 : G d 100 17 ls st h Q ↔ GN d 100 17 ls h (ldI ls 1 fun x => nx 18 ls (.int x :: st) h) Q := G_unf rfl rfl
theorem g100_18 : G d 100 18 ls st h Q ↔ GN d 100 18 ls h (pRII st fun a i x r => ck (arr h a 10 ∧ inb i (hLn h a)) (nx 19 ls r (sI h a i.toNatClampNeg x))) Q := G_unf rfl rfl
theorem g100_19 : G d 100 19 ls st h Q ↔ GN d 100 19 ls h (ldR ls 0 fun a => nx 20 ls (.ref a :: st) h) Q := G_unf rfl rfl
theorem g100_20 : G d 100 20 ls st h Q ↔ GN d 100 20 ls h (p1 st fun v r => nx 21 ls (v :: v :: r) h) Q := G_unf rfl rfl
theorem g100_21 : G d 100 21 ls st h Q ↔ GN d 100 21 ls h (pR st fun a r => ck (arr h a 7) (nx 24 ls (.int (hI h a 9) :: r) h)) Q := G_unf rfl rfl
theorem g100_24 : G d 100 24 ls st h Q ↔ GN d 100 24 ls h (nx 25 ls (.int (nI 1) :: st) h) Q := G_unf rfl rfl
theorem g100_25 : G d 100 25 ls st h Q ↔ GN d 100 25 ls h (pII st fun x y r => nx 26 ls (.int (x + y) :: r) h) Q := G_unf rfl rfl
theorem g100_26 : G d 100 26 ls st h Q ↔ GN d 100 26 ls h (pRI st fun a x r => ck (arr h a 7) (nx 29 ls r (sI h a 9 x))) Q := G_unf rfl rfl
theorem g100_29 : G d 100 29 ls st h Q ↔ GN d 100 29 ls h (pE st (rtn none)) Q := G_unf rfl rfl
theorem g101_0 : G d 101 0 ls st h Q ↔ GN d 101 0 ls h (ldI ls 1 fun x => nx 1 ls (.int x :: st) h) Q := G_unf rfl rfl
theorem g101_1 : G d 101 1 ls st h Q ↔ GN d 101 1 ls h (pI st fun x r => br (x.toInt = 1) (nx 97 ls r h) (br (x.toInt = 2) (nx 92 ls r h) (br (x.toInt = 3) (nx 132 ls r h) (br (x.toInt = 4) (nx 132 ls r h) (br (x.toInt = 5) (nx 132 ls r h) (br (x.toInt = 6) (nx 102 ls r h) (br (x.toInt = 7) (nx 132 ls r h) (br (x.toInt = 8) (nx 132 ls r h) (br (x.toInt = 9) (nx 132 ls r h) (br (x.toInt = 10) (nx 132 ls r h) (br (x.toInt = 11) (nx 132 ls r h) (br (x.toInt = 12) (nx 132 ls r h) (br (x.toInt = 13) (nx 132 ls r h) (br (x.toInt = 14) (nx 132 ls r h) (br (x.toInt = 15) (nx 107 ls r h) (br (x.toInt = 16) (nx 112 ls r h) (br (x.toInt = 17) (nx 117 ls r h) (br (x.toInt = 18) (nx 122 ls r h) (br (x.toInt = 19) (nx 127 ls r h) (nx 132 ls r h)))))))))))))))))))) Q := G_unf rfl rfl
theorem g101_92 : G d 101 92 ls st h Q ↔ GN d 101 92 ls h (ldR ls 0 fun a => nx 93 ls (.ref a :: st) h) Q := G_unf rfl rfl
theorem g101_93 : G d 101 93 ls st h Q ↔ GN d 101 93 ls h (pR st fun a r => ck (arr h a 7) (nx 96 ls (.int (hI h a 0) :: r) h)) Q := G_unf rfl rfl
theorem g101_96 : G d 101 96 ls st h Q ↔ GN d 101 96 ls h (pIe st fun x => rtn (some (.int x))) Q := G_unf rfl rfl
theorem g101_97 : G d 101 97 ls st h Q ↔ GN d 101 97 ls h (ldR ls 0 fun a => nx 98 ls (.ref a :: st) h) Q := G_unf rfl rfl
theorem g101_98 : G d 101 98 ls st h Q ↔ GN d 101 98 ls h (pR st fun a r => ck (arr h a 7) (nx 101 ls (.int (hI h a 1) :: r) h)) Q := G_unf rfl rfl
theorem g101_101 : G d 101 101 ls st h Q ↔ GN d 101 101 ls h (pIe st fun x => rtn (some (.int x))) Q := G_unf rfl rfl
theorem g101_102 : G d 101 102 ls st h Q ↔ GN d 101 102 ls h (ldR ls 0 fun a => nx 103 ls (.ref a :: st) h) Q := G_unf rfl rfl
theorem g101_103 : G d 101 103 ls st h Q ↔ GN d 101 103 ls h (pR st fun a r => ck (arr h a 7) (nx 106 ls (.int (hI h a 2) :: r) h)) Q := G_unf rfl rfl
theorem g101_106 : G d 101 106 ls st h Q ↔ GN d 101 106 ls h (pIe st fun x => rtn (some (.int x))) Q := G_unf rfl rfl
theorem g101_107 : G d 101 107 ls st h Q ↔ GN d 101 107 ls h (ldR ls 0 fun a => nx 108 ls (.ref a :: st) h) Q := G_unf rfl rfl
theorem g101_108 : G d 101 108 ls st h Q ↔ GN d 101 108 ls h (pR st fun a r => ck (arr h a 7) (nx 111 ls (.int (hI h a 3) :: r) h)) Q := G_unf rfl rfl
theorem g101_111 : G d 101 111 ls st h Q ↔ GN d 101 111 ls h (pIe st fun x => rtn (some (.int x))) Q := G_unf rfl rfl
theorem g101_112 : G d 101 112 ls st h Q ↔ GN d 101 112 ls h (ldR ls 0 fun a => nx 113 ls (.ref a :: st) h) Q := G_unf rfl rfl
theorem g101_113 : G d 101 113 ls st h Q ↔ GN d 101 113 ls h (pR st fun a r => ck (arr h a 7) (nx 116 ls (.int (hI h a 4) :: r) h)) Q := G_unf rfl rfl
theorem g101_116 : G d 101 116 ls st h Q ↔ GN d 101 116 ls h (pIe st fun x => rtn (some (.int x))) Q := G_unf rfl rfl
theorem g101_117 : G d 101 117 ls st h Q ↔ GN d 101 117 ls h (ldR ls 0 fun a => nx 118 ls (.ref a :: st) h) Q := G_unf rfl rfl
theorem g101_118 : G d 101 118 ls st h Q ↔ GN d 101 118 ls h (pR st fun a r => ck (arr h a 7) (nx 121 ls (.int (hI h a 5) :: r) h)) Q := G_unf rfl rfl
theorem g101_121 : G d 101 121 ls st h Q ↔ GN d 101 121 ls h (pIe st fun x => rtn (some (.int x))) Q := G_unf rfl rfl
theorem g101_122 : G d 101 122 ls st h Q ↔ GN d 101 122 ls h (ldR ls 0 fun a => nx 123 ls (.ref a :: st) h) Q := G_unf rfl rfl
theorem g101_123 : G d 101 123 ls st h Q ↔ GN d 101 123 ls h (pR st fun a r => ck (arr h a 7) (nx 126 ls (.int (hI h a 6) :: r) h)) Q := G_unf rfl rfl
theorem g101_126 : G d 101 126 ls st h Q ↔ GN d 101 126 ls h (pIe st fun x => rtn (some (.int x))) Q := G_unf rfl rfl
theorem g101_127 : G d 101 127 ls st h Q ↔ GN d 101 127 ls h (ldR ls 0 fun a => nx 128 ls (.ref a :: st) h) Q := G_unf rfl rfl
theorem g101_128 : G d 101 128 ls st h Q ↔ GN d 101 128 ls h (pR st fun a r => ck (arr h a 7) (nx 131 ls (.int (hI h a 7) :: r) h)) Q := G_unf rfl rfl
theorem g101_131 : G d 101 131 ls st h Q ↔ GN d 101 131 ls h (pIe st fun x => rtn (some (.int x))) Q := G_unf rfl rfl
theorem g101_132 : G d 101 132 ls st h Q ↔ GN d 101 132 ls h (nx 133 ls (.int (nI 1) :: st) h) Q := G_unf rfl rfl
theorem g101_133 : G d 101 133 ls st h Q ↔ GN d 101 133 ls h (pIe st fun x => rtn (some (.int x))) Q := G_unf rfl rfl
theorem g102_0 : G d 102 0 ls st h Q ↔ GN d 102 0 ls h (ldI ls 0 fun x => nx 1 ls (.int x :: st) h) Q := G_unf rfl rfl
theorem g102_1 : G d 102 1 ls st h Q ↔ GN d 102 1 ls h (pI st fun x r => br (x.toInt = 20) (nx 184 ls r h) (br (x.toInt = 21) (nx 180 ls r h) (br (x.toInt = 24) (nx 188 ls r h) (br (x.toInt = 137) (nx 128 ls r h) (br (x.toInt = 142) (nx 108 ls r h) (br (x.toInt = 143) (nx 100 ls r h) (br (x.toInt = 145) (nx 104 ls r h) (br (x.toInt = 147) (nx 112 ls r h) (br (x.toInt = 160) (nx 144 ls r h) (br (x.toInt = 161) (nx 168 ls r h) (br (x.toInt = 162) (nx 156 ls r h) (nx 194 ls r h)))))))))))) Q := G_unf rfl rfl
theorem g102_100 : G d 102 100 ls st h Q ↔ GN d 102 100 ls h (ldJ ls 1 fun x => nx 101 ls (.long x :: st) h) Q := G_unf rfl rfl
theorem g102_101 : G d 102 101 ls st h Q ↔ GN d 102 101 ls h (ldJ ls 3 fun x => nx 102 ls (.long x :: st) h) Q := G_unf rfl rfl
theorem g102_102 : G d 102 102 ls st h Q ↔ GN d 102 102 ls h (pJJ st fun x y r => nx 103 ls (.long (x + y) :: r) h) Q := G_unf rfl rfl
theorem g102_103 : G d 102 103 ls st h Q ↔ GN d 102 103 ls h (pJe st fun x => rtn (some (.long x))) Q := G_unf rfl rfl
theorem g102_104 : G d 102 104 ls st h Q ↔ GN d 102 104 ls h (ldJ ls 1 fun x => nx 105 ls (.long x :: st) h) Q := G_unf rfl rfl
theorem g102_105 : G d 102 105 ls st h Q ↔ GN d 102 105 ls h (ldJ ls 3 fun x => nx 106 ls (.long x :: st) h) Q := G_unf rfl rfl
theorem g102_106 : G d 102 106 ls st h Q ↔ GN d 102 106 ls h (pJJ st fun x y r => nx 107 ls (.long (x - y) :: r) h) Q := G_unf rfl rfl
theorem g102_107 : G d 102 107 ls st h Q ↔ GN d 102 107 ls h (pJe st fun x => rtn (some (.long x))) Q := G_unf rfl rfl
theorem g102_108 : G d 102 108 ls st h Q ↔ GN d 102 108 ls h (ldJ ls 1 fun x => nx 109 ls (.long x :: st) h) Q := G_unf rfl rfl
theorem g102_109 : G d 102 109 ls st h Q ↔ GN d 102 109 ls h (ldJ ls 3 fun x => nx 110 ls (.long x :: st) h) Q := G_unf rfl rfl
theorem g102_110 : G d 102 110 ls st h Q ↔ GN d 102 110 ls h (pJJ st fun x y r => nx 111 ls (.long (x * y) :: r) h) Q := G_unf rfl rfl
theorem g102_111 : G d 102 111 ls st h Q ↔ GN d 102 111 ls h (pJe st fun x => rtn (some (.long x))) Q := G_unf rfl rfl
theorem g102_112 : G d 102 112 ls st h Q ↔ GN d 102 112 ls h (ldJ ls 3 fun x => nx 113 ls (.long x :: st) h) Q := G_unf rfl rfl
theorem g102_113 : G d 102 113 ls st h Q ↔ GN d 102 113 ls h (nx 114 ls (.long (lN 0) :: st) h) Q := G_unf rfl rfl
theorem g102_114 : G d 102 114 ls st h Q ↔ GN d 102 114 ls h (pJJ st fun x y r => nx 115 ls (.int (lg_cmp x y) :: r) h) Q := G_unf rfl rfl
theorem g102_115 : G d 102 115 ls st h Q ↔ GN d 102 115 ls h (pI st fun x r => br (¬ x = 0) (nx 122 ls r h) (nx 118 ls r h)) Q := G_unf rfl rfl
theorem g102_118 : G d 102 118 ls st h Q ↔ GN d 102 118 ls h (nx 119 ls (.long (lN 0) :: st) h) Q := G_unf rfl rfl
theorem g102_119 : G d 102 119 ls st h Q ↔ GN d 102 119 ls h (nx 127 ls st h) Q := G_unf rfl rfl
theorem g102_122 : G d 102 122 ls st h Q ↔ GN d 102 122 ls h (ldJ ls 1 fun x => nx 123 ls (.long x :: st) h) Q := G_unf rfl rfl
theorem g102_123 : G d 102 123 ls st h Q ↔ GN d 102 123 ls h (ldJ ls 3 fun x => nx 124 ls (.long x :: st) h) Q := G_unf rfl rfl
theorem g102_124 : G d 102 124 ls st h Q ↔ GN d 102 124 ls h (pA 2 st fun as r => ck (r.length ≤ 4) (cll 274 as r)) Q := G_unf rfl rfl
theorem g102_127 : G d 102 127 ls st h Q ↔ GN d 102 127 ls h (pJe st fun x => rtn (some (.long x))) Q := G_unf rfl rfl
theorem g102_128 : G d 102 128 ls st h Q ↔ GN d 102 128 ls h (ldJ ls 3 fun x => nx 129 ls (.long x :: st) h) Q := G_unf rfl rfl
theorem g102_129 : G d 102 129 ls st h Q ↔ GN d 102 129 ls h (nx 130 ls (.long (lN 0) :: st) h) Q := G_unf rfl rfl
theorem g102_130 : G d 102 130 ls st h Q ↔ GN d 102 130 ls h (pJJ st fun x y r => nx 131 ls (.int (lg_cmp x y) :: r) h) Q := G_unf rfl rfl
theorem g102_131 : G d 102 131 ls st h Q ↔ GN d 102 131 ls h (pI st fun x r => br (¬ x = 0) (nx 138 ls r h) (nx 134 ls r h)) Q := G_unf rfl rfl
theorem g102_134 : G d 102 134 ls st h Q ↔ GN d 102 134 ls h (nx 135 ls (.long (lN 0) :: st) h) Q := G_unf rfl rfl
theorem g102_135 : G d 102 135 ls st h Q ↔ GN d 102 135 ls h (nx 143 ls st h) Q := G_unf rfl rfl
theorem g102_138 : G d 102 138 ls st h Q ↔ GN d 102 138 ls h (ldJ ls 1 fun x => nx 139 ls (.long x :: st) h) Q := G_unf rfl rfl
theorem g102_139 : G d 102 139 ls st h Q ↔ GN d 102 139 ls h (ldJ ls 3 fun x => nx 140 ls (.long x :: st) h) Q := G_unf rfl rfl
theorem g102_140 : G d 102 140 ls st h Q ↔ GN d 102 140 ls h (pA 2 st fun as r => ck (r.length ≤ 4) (cll 275 as r)) Q := G_unf rfl rfl
theorem g102_143 : G d 102 143 ls st h Q ↔ GN d 102 143 ls h (pJe st fun x => rtn (some (.long x))) Q := G_unf rfl rfl
theorem g102_144 : G d 102 144 ls st h Q ↔ GN d 102 144 ls h (ldJ ls 1 fun x => nx 145 ls (.long x :: st) h) Q := G_unf rfl rfl
theorem g102_145 : G d 102 145 ls st h Q ↔ GN d 102 145 ls h (ldJ ls 3 fun x => nx 146 ls (.long x :: st) h) Q := G_unf rfl rfl
theorem g102_146 : G d 102 146 ls st h Q ↔ GN d 102 146 ls h (pJJ st fun x y r => nx 147 ls (.int (lg_cmp x y) :: r) h) Q := G_unf rfl rfl
theorem g102_147 : G d 102 147 ls st h Q ↔ GN d 102 147 ls h (pI st fun x r => br (0 ≤ x) (nx 154 ls r h) (nx 150 ls r h)) Q := G_unf rfl rfl
theorem g102_150 : G d 102 150 ls st h Q ↔ GN d 102 150 ls h (nx 151 ls (.long (lN 1) :: st) h) Q := G_unf rfl rfl
theorem g102_151 : G d 102 151 ls st h Q ↔ GN d 102 151 ls h (nx 155 ls st h) Q := G_unf rfl rfl
theorem g102_154 : G d 102 154 ls st h Q ↔ GN d 102 154 ls h (nx 155 ls (.long (lN 0) :: st) h) Q := G_unf rfl rfl
theorem g102_155 : G d 102 155 ls st h Q ↔ GN d 102 155 ls h (pJe st fun x => rtn (some (.long x))) Q := G_unf rfl rfl
theorem g102_156 : G d 102 156 ls st h Q ↔ GN d 102 156 ls h (ldJ ls 1 fun x => nx 157 ls (.long x :: st) h) Q := G_unf rfl rfl
theorem g102_157 : G d 102 157 ls st h Q ↔ GN d 102 157 ls h (ldJ ls 3 fun x => nx 158 ls (.long x :: st) h) Q := G_unf rfl rfl
theorem g102_158 : G d 102 158 ls st h Q ↔ GN d 102 158 ls h (pJJ st fun x y r => nx 159 ls (.int (lg_cmp x y) :: r) h) Q := G_unf rfl rfl
theorem g102_159 : G d 102 159 ls st h Q ↔ GN d 102 159 ls h (pI st fun x r => br (x ≤ 0) (nx 166 ls r h) (nx 162 ls r h)) Q := G_unf rfl rfl
theorem g102_162 : G d 102 162 ls st h Q ↔ GN d 102 162 ls h (nx 163 ls (.long (lN 1) :: st) h) Q := G_unf rfl rfl
theorem g102_163 : G d 102 163 ls st h Q ↔ GN d 102 163 ls h (nx 167 ls st h) Q := G_unf rfl rfl
theorem g102_166 : G d 102 166 ls st h Q ↔ GN d 102 166 ls h (nx 167 ls (.long (lN 0) :: st) h) Q := G_unf rfl rfl
theorem g102_167 : G d 102 167 ls st h Q ↔ GN d 102 167 ls h (pJe st fun x => rtn (some (.long x))) Q := G_unf rfl rfl
theorem g102_168 : G d 102 168 ls st h Q ↔ GN d 102 168 ls h (ldJ ls 1 fun x => nx 169 ls (.long x :: st) h) Q := G_unf rfl rfl
theorem g102_169 : G d 102 169 ls st h Q ↔ GN d 102 169 ls h (ldJ ls 3 fun x => nx 170 ls (.long x :: st) h) Q := G_unf rfl rfl
theorem g102_170 : G d 102 170 ls st h Q ↔ GN d 102 170 ls h (pJJ st fun x y r => nx 171 ls (.int (lg_cmp x y) :: r) h) Q := G_unf rfl rfl
theorem g102_171 : G d 102 171 ls st h Q ↔ GN d 102 171 ls h (pI st fun x r => br (¬ x = 0) (nx 178 ls r h) (nx 174 ls r h)) Q := G_unf rfl rfl
theorem g102_174 : G d 102 174 ls st h Q ↔ GN d 102 174 ls h (nx 175 ls (.long (lN 1) :: st) h) Q := G_unf rfl rfl
theorem g102_175 : G d 102 175 ls st h Q ↔ GN d 102 175 ls h (nx 179 ls st h) Q := G_unf rfl rfl
theorem g102_178 : G d 102 178 ls st h Q ↔ GN d 102 178 ls h (nx 179 ls (.long (lN 0) :: st) h) Q := G_unf rfl rfl
theorem g102_179 : G d 102 179 ls st h Q ↔ GN d 102 179 ls h (pJe st fun x => rtn (some (.long x))) Q := G_unf rfl rfl
theorem g102_180 : G d 102 180 ls st h Q ↔ GN d 102 180 ls h (ldJ ls 1 fun x => nx 181 ls (.long x :: st) h) Q := G_unf rfl rfl
theorem g102_181 : G d 102 181 ls st h Q ↔ GN d 102 181 ls h (ldJ ls 3 fun x => nx 182 ls (.long x :: st) h) Q := G_unf rfl rfl
theorem g102_182 : G d 102 182 ls st h Q ↔ GN d 102 182 ls h (pJJ st fun x y r => nx 183 ls (.long (x &&& y) :: r) h) Q := G_unf rfl rfl
theorem g102_183 : G d 102 183 ls st h Q ↔ GN d 102 183 ls h (pJe st fun x => rtn (some (.long x))) Q := G_unf rfl rfl
theorem g102_184 : G d 102 184 ls st h Q ↔ GN d 102 184 ls h (ldJ ls 1 fun x => nx 185 ls (.long x :: st) h) Q := G_unf rfl rfl
theorem g102_185 : G d 102 185 ls st h Q ↔ GN d 102 185 ls h (ldJ ls 3 fun x => nx 186 ls (.long x :: st) h) Q := G_unf rfl rfl
theorem g102_186 : G d 102 186 ls st h Q ↔ GN d 102 186 ls h (pJJ st fun x y r => nx 187 ls (.long (x ||| y) :: r) h) Q := G_unf rfl rfl
theorem g102_187 : G d 102 187 ls st h Q ↔ GN d 102 187 ls h (pJe st fun x => rtn (some (.long x))) Q := G_unf rfl rfl
theorem g102_188 : G d 102 188 ls st h Q ↔ GN d 102 188 ls h (ldJ ls 1 fun x => nx 189 ls (.long x :: st) h) Q := G_unf rfl rfl
theorem g102_189 : G d 102 189 ls st h Q ↔ GN d 102 189 ls h (ldJ ls 3 fun x => nx 190 ls (.long x :: st) h) Q := G_unf rfl rfl
theorem g102_190 : G d 102 190 ls st h Q ↔ GN d 102 190 ls h (pA 2 st fun as r => ck (r.length ≤ 4) (cll 279 as r)) Q := G_unf rfl rfl
theorem g102_193 : G d 102 193 ls st h Q ↔ GN d 102 193 ls h (pJe st fun x => rtn (some (.long x))) Q := G_unf rfl rfl
theorem g102_194 : G d 102 194 ls st h Q ↔ GN d 102 194 ls h (ldJ ls 1 fun x => nx 195 ls (.long x :: st) h) Q := G_unf rfl rfl
theorem g102_195 : G d 102 195 ls st h Q ↔ GN d 102 195 ls h (ldJ ls 3 fun x => nx 196 ls (.long x :: st) h) Q := G_unf rfl rfl
theorem g102_196 : G d 102 196 ls st h Q ↔ GN d 102 196 ls h (pA 2 st fun as r => ck (r.length ≤ 4) (cll 277 as r)) Q := G_unf rfl rfl
theorem g102_199 : G d 102 199 ls st h Q ↔ GN d 102 199 ls h (pJe st fun x => rtn (some (.long x))) Q := G_unf rfl rfl
theorem g103_0 : G d 103 0 ls st h Q ↔ GN d 103 0 ls h (nx 3 ls (.long (-1000000) :: st) h) Q := G_unf rfl rfl
theorem g103_3 : G d 103 3 ls st h Q ↔ GN d 103 3 ls h (nx 6 ls (.long (lN 1000000) :: st) h) Q := G_unf rfl rfl
theorem g103_6 : G d 103 6 ls st h Q ↔ GN d 103 6 ls h (ldJ ls 0 fun x => nx 7 ls (.long x :: st) h) Q := G_unf rfl rfl
theorem g103_7 : G d 103 7 ls st h Q ↔ GN d 103 7 ls h (pA 2 st fun as r => ck (r.length ≤ 4) (cll 279 as r)) Q := G_unf rfl rfl
theorem g103_10 : G d 103 10 ls st h Q ↔ GN d 103 10 ls h (pA 2 st fun as r => ck (r.length ≤ 4) (cll 277 as r)) Q := G_unf rfl rfl
theorem g103_13 : G d 103 13 ls st h Q ↔ GN d 103 13 ls h (pJ st fun x r => nx 14 ls (.int x.toInt32 :: r) h) Q := G_unf rfl rfl
theorem g103_14 : G d 103 14 ls st h Q ↔ GN d 103 14 ls h (pIe st fun x => rtn (some (.int x))) Q := G_unf rfl rfl
theorem g104_0 : G d 104 0 ls st h Q ↔ GN d 104 0 ls h (ldR ls 0 fun a => nx 1 ls (.ref a :: st) h) Q := G_unf rfl rfl
theorem g104_1 : G d 104 1 ls st h Q ↔ GN d 104 1 ls h (pR st fun _ r => ck (r.length ≤ 4) (nx 4 ls r h)) Q := G_unf rfl rfl
theorem g104_4 : G d 104 4 ls st h Q ↔ GN d 104 4 ls h (ldR ls 0 fun a => nx 5 ls (.ref a :: st) h) Q := G_unf rfl rfl
theorem g104_5 : G d 104 5 ls st h Q ↔ GN d 104 5 ls h (nx 8 ls (.int (nI 1600) :: st) h) Q := G_unf rfl rfl
theorem g104_8 : G d 104 8 ls st h Q ↔ GN d 104 8 ls h (pI st fun z r => ck (0 ≤ z.toInt ∧ z.toInt ≤ 1000000 ∧ lay (hN h) = 11) (nx 10 ls (.ref (hN h) :: r) (alc h z.toNatClampNeg z.toNatClampNeg))) Q := G_unf rfl rfl
theorem g104_10 : G d 104 10 ls st h Q ↔ GN d 104 10 ls h (pRR st fun a x r => ck (arr h a 8) (nx 13 ls r (sR h a 0 (some x)))) Q := G_unf rfl rfl
theorem g104_13 : G d 104 13 ls st h Q ↔ GN d 104 13 ls h (ldR ls 0 fun a => nx 14 ls (.ref a :: st) h) Q := G_unf rfl rfl
theorem g104_14 : G d 104 14 ls st h Q ↔ GN d 104 14 ls h (ck (lay (hN h) = 5) (nx 17 ls (.ref (hN h) :: st) (alc h 0 16))) Q := G_unf rfl rfl
theorem g104_17 : G d 104 17 ls st h Q ↔ GN d 104 17 ls h (p1 st fun v r => nx 18 ls (v :: v :: r) h) Q := G_unf rfl rfl
theorem g104_18 : G d 104 18 ls st h Q ↔ GN d 104 18 ls h (pA 0 st fun as r => pR r fun a r => ck (r.length ≤ 4 ∧ arr h a 5) (cll 49 (.ref a :: as) r)) Q := G_unf rfl rfl
theorem g104_21 : G d 104 21 ls st h Q ↔ GN d 104 21 ls h (pRR st fun a x r => ck (arr h a 8) (nx 24 ls r (sR h a 1 (some x)))) Q := G_unf rfl rfl
theorem g104_24 : G d 104 24 ls st h Q ↔ GN d 104 24 ls h (ldR ls 0 fun a => nx 25 ls (.ref a :: st) h) Q := G_unf rfl rfl
theorem g104_25 : G d 104 25 ls st h Q ↔ GN d 104 25 ls h (ck (lay (hN h) = 1) (nx 28 ls (.ref (hN h) :: st) (alc h 0 2))) Q := G_unf rfl rfl
theorem g104_28 : G d 104 28 ls st h Q ↔ GN d 104 28 ls h (p1 st fun v r => nx 29 ls (v :: v :: r) h) Q := G_unf rfl rfl
theorem g104_29 : G d 104 29 ls st h Q ↔ GN d 104 29 ls h (pA 0 st fun as r => pR r fun a r => ck (r.length ≤ 4 ∧ arr h a 1) (cll 10 (.ref a :: as) r)) Q := G_unf rfl rfl
theorem g104_32 : G d 104 32 ls st h Q ↔ GN d 104 32 ls h (pRR st fun a x r => ck (arr h a 8) (nx 35 ls r (sR h a 2 (some x)))) Q := G_unf rfl rfl
theorem g104_35 : G d 104 35 ls st h Q ↔ GN d 104 35 ls h (ldR ls 0 fun a => nx 36 ls (.ref a :: st) h) Q := G_unf rfl rfl
theorem g104_36 : G d 104 36 ls st h Q ↔ GN d 104 36 ls h (ck (lay (hN h) = 4) (nx 39 ls (.ref (hN h) :: st) (alc h 0 8))) Q := G_unf rfl rfl
theorem g104_39 : G d 104 39 ls st h Q ↔ GN d 104 39 ls h (p1 st fun v r => nx 40 ls (v :: v :: r) h) Q := G_unf rfl rfl
theorem g104_40 : G d 104 40 ls st h Q ↔ GN d 104 40 ls h (pA 0 st fun as r => pR r fun a r => ck (r.length ≤ 4 ∧ arr h a 4) (cll 34 (.ref a :: as) r)) Q := G_unf rfl rfl
theorem g104_43 : G d 104 43 ls st h Q ↔ GN d 104 43 ls h (pRR st fun a x r => ck (arr h a 8) (nx 46 ls r (sR h a 3 (some x)))) Q := G_unf rfl rfl
theorem g104_46 : G d 104 46 ls st h Q ↔ GN d 104 46 ls h (ldR ls 0 fun a => nx 47 ls (.ref a :: st) h) Q := G_unf rfl rfl
theorem g104_47 : G d 104 47 ls st h Q ↔ GN d 104 47 ls h (ck (lay (hN h) = 3) (nx 50 ls (.ref (hN h) :: st) (alc h 0 2))) Q := G_unf rfl rfl
theorem g104_50 : G d 104 50 ls st h Q ↔ GN d 104 50 ls h (p1 st fun v r => nx 51 ls (v :: v :: r) h) Q := G_unf rfl rfl
theorem g104_51 : G d 104 51 ls st h Q ↔ GN d 104 51 ls h (pA 0 st fun as r => pR r fun a r => ck (r.length ≤ 4 ∧ arr h a 3) (cll 26 (.ref a :: as) r)) Q := G_unf rfl rfl
theorem g104_54 : G d 104 54 ls st h Q ↔ GN d 104 54 ls h (pRR st fun a x r => ck (arr h a 8) (nx 57 ls r (sR h a 4 (some x)))) Q := G_unf rfl rfl
theorem g104_57 : G d 104 57 ls st h Q ↔ GN d 104 57 ls h (ldR ls 0 fun a => nx 58 ls (.ref a :: st) h) Q := G_unf rfl rfl
theorem g104_58 : G d 104 58 ls st h Q ↔ GN d 104 58 ls h (ck (lay (hN h) = 2) (nx 61 ls (.ref (hN h) :: st) (alc h 0 3))) Q := G_unf rfl rfl
theorem g104_61 : G d 104 61 ls st h Q ↔ GN d 104 61 ls h (p1 st fun v r => nx 62 ls (v :: v :: r) h) Q := G_unf rfl rfl
theorem g104_62 : G d 104 62 ls st h Q ↔ GN d 104 62 ls h (pA 0 st fun as r => pR r fun a r => ck (r.length ≤ 4 ∧ arr h a 2) (cll 22 (.ref a :: as) r)) Q := G_unf rfl rfl
theorem g104_65 : G d 104 65 ls st h Q ↔ GN d 104 65 ls h (pRR st fun a x r => ck (arr h a 8) (nx 68 ls r (sR h a 5 (some x)))) Q := G_unf rfl rfl
theorem g104_68 : G d 104 68 ls st h Q ↔ GN d 104 68 ls h (ldR ls 0 fun a => nx 69 ls (.ref a :: st) h) Q := G_unf rfl rfl
theorem g104_69 : G d 104 69 ls st h Q ↔ GN d 104 69 ls h (ck (lay (hN h) = 6) (nx 72 ls (.ref (hN h) :: st) (alc h 0 9))) Q := G_unf rfl rfl
theorem g104_72 : G d 104 72 ls st h Q ↔ GN d 104 72 ls h (p1 st fun v r => nx 73 ls (v :: v :: r) h) Q := G_unf rfl rfl
theorem g104_73 : G d 104 73 ls st h Q ↔ GN d 104 73 ls h (pA 0 st fun as r => pR r fun a r => ck (r.length ≤ 4 ∧ arr h a 6) (cll 83 (.ref a :: as) r)) Q := G_unf rfl rfl
theorem g104_76 : G d 104 76 ls st h Q ↔ GN d 104 76 ls h (pRR st fun a x r => ck (arr h a 8) (nx 79 ls r (sR h a 6 (some x)))) Q := G_unf rfl rfl
theorem g104_79 : G d 104 79 ls st h Q ↔ GN d 104 79 ls h (ldR ls 0 fun a => nx 80 ls (.ref a :: st) h) Q := G_unf rfl rfl
theorem g104_80 : G d 104 80 ls st h Q ↔ GN d 104 80 ls h (ck (lay (hN h) = 6) (nx 83 ls (.ref (hN h) :: st) (alc h 0 9))) Q := G_unf rfl rfl
theorem g104_83 : G d 104 83 ls st h Q ↔ GN d 104 83 ls h (p1 st fun v r => nx 84 ls (v :: v :: r) h) Q := G_unf rfl rfl
theorem g104_84 : G d 104 84 ls st h Q ↔ GN d 104 84 ls h (pA 0 st fun as r => pR r fun a r => ck (r.length ≤ 4 ∧ arr h a 6) (cll 83 (.ref a :: as) r)) Q := G_unf rfl rfl
theorem g104_87 : G d 104 87 ls st h Q ↔ GN d 104 87 ls h (pRR st fun a x r => ck (arr h a 8) (nx 90 ls r (sR h a 7 (some x)))) Q := G_unf rfl rfl
theorem g104_90 : G d 104 90 ls st h Q ↔ GN d 104 90 ls h (ldR ls 0 fun a => nx 91 ls (.ref a :: st) h) Q := G_unf rfl rfl
theorem g104_91 : G d 104 91 ls st h Q ↔ GN d 104 91 ls h (nx 93 ls (.int (nI 6) :: st) h) Q := G_unf rfl rfl
theorem g104_93 : G d 104 93 ls st h Q ↔ GN d 104 93 ls h (pI st fun z r => ck (0 ≤ z.toInt ∧ z.toInt ≤ 1000000 ∧ lay (hN h) = 10) (nx 95 ls (.ref (hN h) :: r) (alc h z.toNatClampNeg z.toNatClampNeg))) Q := G_unf rfl rfl
theorem g104_95 : G d 104 95 ls st h Q ↔ GN d 104 95 ls h (pRR st fun a x r => ck (arr h a 8) (nx 98 ls r (sR h a 8 (some x)))) Q := G_unf rfl rfl
theorem g104_98 : G d 104 98 ls st h Q ↔ GN d 104 98 ls h (ldR ls 0 fun a => nx 99 ls (.ref a :: st) h) Q := G_unf rfl rfl
theorem g104_99 : G d 104 99 ls st h Q ↔ GN d 104 99 ls h (ck (lay (hN h) = 0) (nx 102 ls (.ref (hN h) :: st) (alc h 0 20))) Q := G_unf rfl rfl
theorem g104_102 : G d 104 102 ls st h Q ↔ GN d 104 102 ls h (p1 st fun v r => nx 103 ls (v :: v :: r) h) Q := G_unf rfl rfl
theorem g104_103 : G d 104 103 ls st h Q ↔ GN d 104 103 ls h (pA 0 st fun as r => pR r fun a r => ck (r.length ≤ 4 ∧ arr h a 0) (cll 0 (.ref a :: as) r)) Q := G_unf rfl rfl
theorem g104_106 : G d 104 106 ls st h Q ↔ GN d 104 106 ls h (pRR st fun a x r => ck (arr h a 8) (nx 109 ls r (sR h a 9 (some x)))) Q := G_unf rfl rfl
theorem g104_109 : G d 104 109 ls st h Q ↔ GN d 104 109 ls h (ldR ls 0 fun a => nx 110 ls (.ref a :: st) h) Q := G_unf rfl rfl
theorem g104_110 : G d 104 110 ls st h Q ↔ GN d 104 110 ls h (nx 111 ls (.int (nI 0) :: st) h) Q := G_unf rfl rfl
theorem g104_111 : G d 104 111 ls st h Q ↔ GN d 104 111 ls h (pRI st fun a x r => ck (arr h a 8) (nx 114 ls r (sI h a 10 x))) Q := G_unf rfl rfl
theorem g104_114 : G d 104 114 ls st h Q ↔ GN d 104 114 ls h (ldR ls 0 fun a => nx 115 ls (.ref a :: st) h) Q := G_unf rfl rfl
theorem g104_115 : G d 104 115 ls st h Q ↔ GN d 104 115 ls h (nx 116 ls (.int (nI 1) :: st) h) Q := G_unf rfl rfl
theorem g104_116 : G d 104 116 ls st h Q ↔ GN d 104 116 ls h (pRI st fun a x r => ck (arr h a 8) (nx 119 ls r (sI h a 11 x))) Q := G_unf rfl rfl
theorem g104_119 : G d 104 119 ls st h Q ↔ GN d 104 119 ls h (pE st (rtn none)) Q := G_unf rfl rfl
theorem g105_0 : G d 105 0 ls st h Q ↔ GN d 105 0 ls h (ldR ls 0 fun a => nx 1 ls (.ref a :: st) h) Q := G_unf rfl rfl
theorem g105_1 : G d 105 1 ls st h Q ↔ GN d 105 1 ls h (pR st fun a r => ck (arr h a 8) (nx 4 ls (.int (hI h a 10) :: r) h)) Q := G_unf rfl rfl
theorem g105_4 : G d 105 4 ls st h Q ↔ GN d 105 4 ls h (nx 6 ls (.int (nI 20) :: st) h) Q := G_unf rfl rfl
theorem g105_6 : G d 105 6 ls st h Q ↔ GN d 105 6 ls h (pII st fun x y r => nx 7 ls (.int (x + y) :: r) h) Q := G_unf rfl rfl
theorem g105_7 : G d 105 7 ls st h Q ↔ GN d 105 7 ls h (nx 10 ls (.int (nI 1600) :: st) h) Q := G_unf rfl rfl
theorem g105_10 : G d 105 10 ls st h Q ↔ GN d 105 10 ls h (pII st fun x y r => br (x ≤ y) (nx 19 ls r h) (nx 13 ls r h)) Q := G_unf rfl rfl
theorem g105_13 : G d 105 13 ls st h Q ↔ GN d 105 13 ls h (ldR ls 0 fun a => nx 14 ls (.ref a :: st) h) Q := G_unf rfl rfl
theorem g105_14 : G d 105 14 ls st h Q ↔ GN d 105 14 ls h (nx 15 ls (.int (nI 0) :: st) h) Q := G_unf rfl rfl
theorem g105_15 : G d 105 15 ls st h Q ↔ GN d 105 15 ls h (pA 1 st fun as r => pR r fun a r => ck (r.length ≤ 4 ∧ arr h a 8) (cll 139 (.ref a :: as) r)) Q := G_unf rfl rfl
theorem g105_18 : G d 105 18 ls st h Q ↔ GN d 105 18 ls h (pIe st fun x => rtn (some (.int x))) Q := G_unf rfl rfl
theorem g105_19 : G d 105 19 ls st h Q ↔ GN d 105 19 ls h (ldR ls 0 fun a => nx 20 ls (.ref a :: st) h) Q := G_unf rfl rfl
theorem g105_20 : G d 105 20 ls st h Q ↔ GN d 105 20 ls h (ldI ls 1 fun x => nx 21 ls (.int x :: st) h) Q := G_unf rfl rfl
theorem g105_21 : G d 105 21 ls st h Q ↔ GN d 105 21 ls h (pA 1 st fun as r => pR r fun a r => ck (r.length ≤ 4 ∧ arr h a 8) (cll 140 (.ref a :: as) r)) Q := G_unf rfl rfl
theorem g105_24 : G d 105 24 ls st h Q ↔ GN d 105 24 ls h (ldR ls 0 fun a => nx 25 ls (.ref a :: st) h) Q := G_unf rfl rfl
theorem g105_25 : G d 105 25 ls st h Q ↔ GN d 105 25 ls h (ldI ls 2 fun x => nx 26 ls (.int x :: st) h) Q := G_unf rfl rfl
theorem g105_26 : G d 105 26 ls st h Q ↔ GN d 105 26 ls h (pA 1 st fun as r => pR r fun a r => ck (r.length ≤ 4 ∧ arr h a 8) (cll 140 (.ref a :: as) r)) Q := G_unf rfl rfl
theorem g105_29 : G d 105 29 ls st h Q ↔ GN d 105 29 ls h (ldR ls 0 fun a => nx 30 ls (.ref a :: st) h) Q := G_unf rfl rfl
theorem g105_30 : G d 105 30 ls st h Q ↔ GN d 105 30 ls h (ldI ls 3 fun x => nx 31 ls (.int x :: st) h) Q := G_unf rfl rfl
theorem g105_31 : G d 105 31 ls st h Q ↔ GN d 105 31 ls h (pA 1 st fun as r => pR r fun a r => ck (r.length ≤ 4 ∧ arr h a 8) (cll 140 (.ref a :: as) r)) Q := G_unf rfl rfl
theorem g105_34 : G d 105 34 ls st h Q ↔ GN d 105 34 ls h (ldR ls 0 fun a => nx 35 ls (.ref a :: st) h) Q := G_unf rfl rfl
theorem g105_35 : G d 105 35 ls st h Q ↔ GN d 105 35 ls h (ldI ls 4 fun x => nx 37 ls (.int x :: st) h) Q := G_unf rfl rfl
theorem g105_37 : G d 105 37 ls st h Q ↔ GN d 105 37 ls h (pA 1 st fun as r => pR r fun a r => ck (r.length ≤ 4 ∧ arr h a 8) (cll 140 (.ref a :: as) r)) Q := G_unf rfl rfl
theorem g105_40 : G d 105 40 ls st h Q ↔ GN d 105 40 ls h (ldR ls 0 fun a => nx 41 ls (.ref a :: st) h) Q := G_unf rfl rfl
theorem g105_41 : G d 105 41 ls st h Q ↔ GN d 105 41 ls h (ldI ls 5 fun x => nx 43 ls (.int x :: st) h) Q := G_unf rfl rfl
theorem g105_43 : G d 105 43 ls st h Q ↔ GN d 105 43 ls h (pA 1 st fun as r => pR r fun a r => ck (r.length ≤ 4 ∧ arr h a 8) (cll 140 (.ref a :: as) r)) Q := G_unf rfl rfl
theorem g105_46 : G d 105 46 ls st h Q ↔ GN d 105 46 ls h (ldR ls 0 fun a => nx 47 ls (.ref a :: st) h) Q := G_unf rfl rfl
theorem g105_47 : G d 105 47 ls st h Q ↔ GN d 105 47 ls h (pR st fun a r => ck (arr h a 8) (nx 50 ls (.int (hI h a 10) :: r) h)) Q := G_unf rfl rfl
theorem g105_50 : G d 105 50 ls st h Q ↔ GN d 105 50 ls h (pIe st fun x => rtn (some (.int x))) Q := G_unf rfl rfl
theorem g106_0 : G d 106 0 ls st h Q ↔ GN d 106 0 ls h (ldI ls 1 fun x => nx 1 ls (.int x :: st) h) Q := G_unf rfl rfl
theorem g106_1 : G d 106 1 ls st h Q ↔ GN d 106 1 ls h (pI st fun x r => br (x < 0) (nx 12 ls r h) (nx 4 ls r h)) Q := G_unf rfl rfl
theorem g106_4 : G d 106 4 ls st h Q ↔ GN d 106 4 ls h (ldI ls 1 fun x => nx 5 ls (.int x :: st) h) Q := G_unf rfl rfl
theorem g106_5 : G d 106 5 ls st h Q ↔ GN d 106 5 ls h (ldR ls 0 fun a => nx 6 ls (.ref a :: st) h) Q := G_unf rfl rfl
theorem g106_6 : G d 106 6 ls st h Q ↔ GN d 106 6 ls h (pR st fun a r => ck (arr h a 8) (nx 9 ls (.int (hI h a 10) :: r) h)) Q := G_unf rfl rfl
theorem g106_9 : G d 106 9 ls st h Q ↔ GN d 106 9 ls h (pII st fun x y r => br (x ≤ y) (nx 20 ls r h) (nx 12 ls r h)) Q := G_unf rfl rfl
theorem g106_12 : G d 106 12 ls st h Q ↔ GN d 106 12 ls h (ldR ls 0 fun a => nx 13 ls (.ref a :: st) h) Q := G_unf rfl rfl
theorem g106_13 : G d 106 13 ls st h Q ↔ GN d 106 13 ls h (nx 14 ls (.int (nI 0) :: st) h) Q := G_unf rfl rfl
theorem g106_14 : G d 106 14 ls st h Q ↔ GN d 106 14 ls h (pA 1 st fun as r => pR r fun a r => ck (r.length ≤ 4 ∧ arr h a 8) (cll 139 (.ref a :: as) r)) Q := G_unf rfl rfl
theorem g106_17 : G d 106 17 ls st h Q ↔ GN d 106 17 ls h (p1 st fun _ r => nx 18 ls r h) Q := G_unf rfl rfl
theorem g106_18 : G d 106 18 ls st h Q ↔ GN d 106 18 ls h (nx 19 ls (.int (nI 0) :: st) h) Q := G_unf rfl rfl
theorem g106_19 : G d 106 19 ls st h Q ↔ GN d 106 19 ls h (pIe st fun x => ck (x = 0 ∨ x = 1) (rtn (some (.int x)))) Q := G_unf rfl rfl
theorem g106_20 : G d 106 20 ls st h Q ↔ GN d 106 20 ls h (ldR ls 0 fun a => nx 21 ls (.ref a :: st) h) Q := G_unf rfl rfl
theorem g106_21 : G d 106 21 ls st h Q ↔ GN d 106 21 ls h (ldI ls 1 fun x => nx 22 ls (.int x :: st) h) Q := G_unf rfl rfl
theorem g106_22 : G d 106 22 ls st h Q ↔ GN d 106 22 ls h (pRI st fun a x r => ck (arr h a 8) (nx 25 ls r (sI h a 10 x))) Q := G_unf rfl rfl
theorem g106_25 : G d 106 25 ls st h Q ↔ GN d 106 25 ls h (nx 26 ls (.int (nI 1) :: st) h) Q := G_unf rfl rfl
theorem g106_26 : G d 106 26 ls st h Q ↔ GN d 106 26 ls h (pIe st fun x => ck (x = 0 ∨ x = 1) (rtn (some (.int x)))) Q := G_unf rfl rfl
theorem g107_0 : G d 107 0 ls st h Q ↔ GN d 107 0 ls h (ldR ls 0 fun a => nx 1 ls (.ref a :: st) h) Q := G_unf rfl rfl
theorem g107_1 : G d 107 1 ls st h Q ↔ GN d 107 1 ls h (pR st fun a r => ck (arr h a 8) (nx 4 ls (.int (hI h a 10) :: r) h)) Q := G_unf rfl rfl
theorem g107_4 : G d 107 4 ls st h Q ↔ GN d 107 4 ls h (pI st fun x r => ck (1 < ls.length) (nx 5 (st1 ls 1 (.int x)) r h)) Q := G_unf rfl rfl
theorem g107_5 : G d 107 5 ls st h Q ↔ GN d 107 5 ls h (ldR ls 0 fun a => nx 6 ls (.ref a :: st) h) Q := G_unf rfl rfl
theorem g107_6 : G d 107 6 ls st h Q ↔ GN d 107 6 ls h (nx 7 ls (.int (nI 0) :: st) h) Q := G_unf rfl rfl
theorem g107_7 : G d 107 7 ls st h Q ↔ GN d 107 7 ls h (pRI st fun a x r => ck (arr h a 8) (nx 10 ls r (sI h a 10 x))) Q := G_unf rfl rfl
theorem g107_10 : G d 107 10 ls st h Q ↔ GN d 107 10 ls h (ldR ls 0 fun a => nx 11 ls (.ref a :: st) h) Q := G_unf rfl rfl
theorem g107_11 : G d 107 11 ls st h Q ↔ GN d 107 11 ls h (pR st fun a r => ck (arr h a 8) (nx 14 ls (rv (hR h a 1) :: r) h)) Q := G_unf rfl rfl
theorem g107_14 : G d 107 14 ls st h Q ↔ GN d 107 14 ls h (ldR ls 0 fun a => nx 15 ls (.ref a :: st) h) Q := G_unf rfl rfl
theorem g107_15 : G d 107 15 ls st h Q ↔ GN d 107 15 ls h (pR st fun a r => ck (arr h a 8) (nx 18 ls (rv (hR h a 0) :: r) h)) Q := G_unf rfl rfl
theorem g107_18 : G d 107 18 ls st h Q ↔ GN d 107 18 ls h (ldI ls 1 fun x => nx 19 ls (.int x :: st) h) Q := G_unf rfl rfl
theorem g107_19 : G d 107 19 ls st h Q ↔ GN d 107 19 ls h (ldR ls 0 fun a => nx 20 ls (.ref a :: st) h) Q := G_unf rfl rfl
theorem g107_20 : G d 107 20 ls st h Q ↔ GN d 107 20 ls h (pR st fun a r => ck (arr h a 8) (nx 23 ls (rv (hR h a 9) :: r) h)) Q := G_unf rfl rfl
theorem g107_23 : G d 107 23 ls st h Q ↔ GN d 107 23 ls h (pA 3 st fun as r => pR r fun a r => ck (r.length ≤ 4 ∧ arr h a 5) (cll 50 (.ref a :: as) r)) Q := G_unf rfl rfl
theorem g107_26 : G d 107 26 ls st h Q ↔ GN d 107 26 ls h (pI st fun x r => ck (2 < ls.length) (nx 27 (st1 ls 2 (.int x)) r h)) Q := G_unf rfl rfl
theorem g107_27 : G d 107 27 ls st h Q ↔ GN d 107 27 ls h (ldI ls 2 fun x => nx 28 ls (.int x :: st) h) Q := G_unf rfl rfl
theorem g107_28 : G d 107 28 ls st h Q ↔ GN d 107 28 ls h (nx 29 ls (.int (-1) :: st) h) Q := G_unf rfl rfl
theorem g107_29 : G d 107 29 ls st h Q ↔ GN d 107 29 ls h (pII st fun x y r => br (¬ x = y) (nx 38 ls r h) (nx 32 ls r h)) Q := G_unf rfl rfl
theorem g107_32 : G d 107 32 ls st h Q ↔ GN d 107 32 ls h (ldR ls 0 fun a => nx 33 ls (.ref a :: st) h) Q := G_unf rfl rfl
theorem g107_33 : G d 107 33 ls st h Q ↔ GN d 107 33 ls h (nx 34 ls (.int (nI 1) :: st) h) Q := G_unf rfl rfl
theorem g107_34 : G d 107 34 ls st h Q ↔ GN d 107 34 ls h (pA 1 st fun as r => pR r fun a r => ck (r.length ≤ 4 ∧ arr h a 8) (cll 139 (.ref a :: as) r)) Q := G_unf rfl rfl
theorem g107_37 : G d 107 37 ls st h Q ↔ GN d 107 37 ls h (pIe st fun x => rtn (some (.int x))) Q := G_unf rfl rfl
theorem g107_38 : G d 107 38 ls st h Q ↔ GN d 107 38 ls h (ldR ls 0 fun a => nx 39 ls (.ref a :: st) h) Q := G_unf rfl rfl
theorem g107_39 : G d 107 39 ls st h Q ↔ GN d 107 39 ls h (pR st fun a r => ck (arr h a 8) (nx 42 ls (rv (hR h a 2) :: r) h)) Q := G_unf rfl rfl
theorem g107_42 : G d 107 42 ls st h Q ↔ GN d 107 42 ls h (pR st fun a r => ck (arr h a 1) (nx 45 ls (rv (hR h a 0) :: r) h)) Q := G_unf rfl rfl
theorem g107_45 : G d 107 45 ls st h Q ↔ GN d 107 45 ls h (pR st fun a r => ck (3 < ls.length) (nx 46 (st1 ls 3 (.ref a)) r h)) Q := G_unf rfl rfl
theorem g107_46 : G d 107 46 ls st h Q ↔ GN d 107 46 ls h (ldR ls 0 fun a => nx 47 ls (.ref a :: st) h) Q := G_unf rfl rfl
theorem g107_47 : G d 107 47 ls st h Q ↔ GN d 107 47 ls h (pR st fun a r => ck (arr h a 8) (nx 50 ls (rv (hR h a 2) :: r) h)) Q := G_unf rfl rfl
theorem g107_50 : G d 107 50 ls st h Q ↔ GN d 107 50 ls h (ldR ls 0 fun a => nx 51 ls (.ref a :: st) h) Q := G_unf rfl rfl
theorem g107_51 : G d 107 51 ls st h Q ↔ GN d 107 51 ls h (pR st fun a r => ck (arr h a 8) (nx 54 ls (rv (hR h a 9) :: r) h)) Q := G_unf rfl rfl
theorem g107_54 : G d 107 54 ls st h Q ↔ GN d 107 54 ls h (pRR st fun a x r => ck (arr h a 1) (nx 57 ls r (sR h a 0 (some x)))) Q := G_unf rfl rfl
theorem g107_57 : G d 107 57 ls st h Q ↔ GN d 107 57 ls h (ldR ls 0 fun a => nx 58 ls (.ref a :: st) h) Q := G_unf rfl rfl
theorem g107_58 : G d 107 58 ls st h Q ↔ GN d 107 58 ls h (ldR ls 3 fun a => nx 59 ls (.ref a :: st) h) Q := G_unf rfl rfl
theorem g107_59 : G d 107 59 ls st h Q ↔ GN d 107 59 ls h (pRR st fun a x r => ck (arr h a 8) (nx 62 ls r (sR h a 9 (some x)))) Q := G_unf rfl rfl
theorem g107_62 : G d 107 62 ls st h Q ↔ GN d 107 62 ls h (ldR ls 0 fun a => nx 63 ls (.ref a :: st) h) Q := G_unf rfl rfl
theorem g107_63 : G d 107 63 ls st h Q ↔ GN d 107 63 ls h (pR st fun a r => ck (arr h a 8) (nx 66 ls (rv (hR h a 5) :: r) h)) Q := G_unf rfl rfl
theorem g107_66 : G d 107 66 ls st h Q ↔ GN d 107 66 ls h (pA 0 st fun as r => pR r fun a r => ck (r.length ≤ 4 ∧ arr h a 2) (cll 23 (.ref a :: as) r)) Q := G_unf rfl rfl
theorem g107_69 : G d 107 69 ls st h Q ↔ GN d 107 69 ls h (ldR ls 0 fun a => nx 70 ls (.ref a :: st) h) Q := G_unf rfl rfl
theorem g107_70 : G d 107 70 ls st h Q ↔ GN d 107 70 ls h (pR st fun a r => ck (arr h a 8) (nx 73 ls (rv (hR h a 2) :: r) h)) Q := G_unf rfl rfl
theorem g107_73 : G d 107 73 ls st h Q ↔ GN d 107 73 ls h (ldR ls 0 fun a => nx 74 ls (.ref a :: st) h) Q := G_unf rfl rfl
theorem g107_74 : G d 107 74 ls st h Q ↔ GN d 107 74 ls h (pR st fun a r => ck (arr h a 8) (nx 77 ls (rv (hR h a 6) :: r) h)) Q := G_unf rfl rfl
theorem g107_77 : G d 107 77 ls st h Q ↔ GN d 107 77 ls h (pA 1 st fun as r => pR r fun a r => ck (r.length ≤ 4 ∧ arr h a 1) (cll 11 (.ref a :: as) r)) Q := G_unf rfl rfl
theorem g107_80 : G d 107 80 ls st h Q ↔ GN d 107 80 ls h (ldI ls 2 fun x => nx 81 ls (.int x :: st) h) Q := G_unf rfl rfl
theorem g107_81 : G d 107 81 ls st h Q ↔ GN d 107 81 ls h (pIe st fun x => rtn (some (.int x))) Q := G_unf rfl rfl
theorem g108_0 : G d 108 0 ls st h Q ↔ GN d 108 0 ls h (ldI ls 1 fun x => nx 1 ls (.int x :: st) h) Q := G_unf rfl rfl
theorem g108_1 : G d 108 1 ls st h Q ↔ GN d 108 1 ls h (pI st fun x r => br (x.toInt = 0) (nx 28 ls r h) (br (x.toInt = 1) (nx 36 ls r h) (nx 44 ls r h))) Q := G_unf rfl rfl
theorem g108_28 : G d 108 28 ls st h Q ↔ GN d 108 28 ls h (ldR ls 0 fun a => nx 29 ls (.ref a :: st) h) Q := G_unf rfl rfl
theorem g108_29 : G d 108 29 ls st h Q ↔ GN d 108 29 ls h (pR st fun a r => ck (arr h a 8) (nx 32 ls (rv (hR h a 1) :: r) h)) Q := G_unf rfl rfl
theorem g108_32 : G d 108 32 ls st h Q ↔ GN d 108 32 ls h (pR st fun a r => ck (arr h a 5) (nx 35 ls (.int (hI h a 0) :: r) h)) Q := G_unf rfl rfl
theorem g108_35 : G d 108 35 ls st h Q ↔ GN d 108 35 ls h (pIe st fun x => rtn (some (.int x))) Q := G_unf rfl rfl
theorem g108_36 : G d 108 36 ls st h Q ↔ GN d 108 36 ls h (ldR ls 0 fun a => nx 37 ls (.ref a :: st) h) Q := G_unf rfl rfl
theorem g108_37 : G d 108 37 ls st h Q ↔ GN d 108 37 ls h (pR st fun a r => ck (arr h a 8) (nx 40 ls (rv (hR h a 1) :: r) h)) Q := G_unf rfl rfl
theorem g108_40 : G d 108 40 ls st h Q ↔ GN d 108 40 ls h (pR st fun a r => ck (arr h a 5) (nx 43 ls (.int (hI h a 1) :: r) h)) Q := G_unf rfl rfl
theorem g108_43 : G d 108 43 ls st h Q ↔ GN d 108 43 ls h (pIe st fun x => rtn (some (.int x))) Q := G_unf rfl rfl
theorem g108_44 : G d 108 44 ls st h Q ↔ GN d 108 44 ls h (nx 45 ls (.int (-1) :: st) h) Q := G_unf rfl rfl
theorem g108_45 : G d 108 45 ls st h Q ↔ GN d 108 45 ls h (pIe st fun x => rtn (some (.int x))) Q := G_unf rfl rfl
theorem g109_0 : G d 109 0 ls st h Q ↔ GN d 109 0 ls h (ldR ls 0 fun a => nx 1 ls (.ref a :: st) h) Q := G_unf rfl rfl
theorem g109_1 : G d 109 1 ls st h Q ↔ GN d 109 1 ls h (pR st fun a r => ck (arr h a 8) (nx 4 ls (rv (hR h a 2) :: r) h)) Q := G_unf rfl rfl
theorem g109_4 : G d 109 4 ls st h Q ↔ GN d 109 4 ls h (pR st fun a r => ck (arr h a 1) (nx 7 ls (rv (hR h a 0) :: r) h)) Q := G_unf rfl rfl
theorem g109_7 : G d 109 7 ls st h Q ↔ GN d 109 7 ls h (pR st fun a r => ck (2 < ls.length) (nx 8 (st1 ls 2 (.ref a)) r h)) Q := G_unf rfl rfl
theorem g109_8 : G d 109 8 ls st h Q ↔ GN d 109 8 ls h (ldI ls 1 fun x => nx 9 ls (.int x :: st) h) Q := G_unf rfl rfl
theorem g109_9 : G d 109 9 ls st h Q ↔ GN d 109 9 ls h (pI st fun x r => br (x.toInt = 0) (nx 76 ls r h) (br (x.toInt = 1) (nx 81 ls r h) (br (x.toInt = 2) (nx 86 ls r h) (br (x.toInt = 3) (nx 91 ls r h) (br (x.toInt = 4) (nx 96 ls r h) (br (x.toInt = 5) (nx 104 ls r h) (br (x.toInt = 6) (nx 116 ls r h) (br (x.toInt = 7) (nx 124 ls r h) (br (x.toInt = 8) (nx 136 ls r h) (br (x.toInt = 9) (nx 148 ls r h) (br (x.toInt = 10) (nx 160 ls r h) (br (x.toInt = 11) (nx 168 ls r h) (br (x.toInt = 12) (nx 176 ls r h) (nx 181 ls r h)))))))))))))) Q := G_unf rfl rfl
theorem g109_76 : G d 109 76 ls st h Q ↔ GN d 109 76 ls h (ldR ls 2 fun a => nx 77 ls (.ref a :: st) h) Q := G_unf rfl rfl
theorem g109_77 : G d 109 77 ls st h Q ↔ GN d 109 77 ls h (pR st fun a r => ck (arr h a 0) (nx 80 ls (.int (hI h a 3) :: r) h)) Q := G_unf rfl rfl
theorem g109_80 : G d 109 80 ls st h Q ↔ GN d 109 80 ls h (pIe st fun x => rtn (some (.int x))) Q := G_unf rfl rfl
theorem g109_81 : G d 109 81 ls st h Q ↔ GN d 109 81 ls h (ldR ls 2 fun a => nx 82 ls (.ref a :: st) h) Q := G_unf rfl rfl
theorem g109_82 : G d 109 82 ls st h Q ↔ GN d 109 82 ls h (pR st fun a r => ck (arr h a 0) (nx 85 ls (.int (hI h a 6) :: r) h)) Q := G_unf rfl rfl
theorem g109_85 : G d 109 85 ls st h Q ↔ GN d 109 85 ls h (pIe st fun x => rtn (some (.int x))) Q := G_unf rfl rfl
theorem g109_86 : G d 109 86 ls st h Q ↔ GN d 109 86 ls h (ldR ls 2 fun a => nx 87 ls (.ref a :: st) h) Q := G_unf rfl rfl
theorem g109_87 : G d 109 87 ls st h Q ↔ GN d 109 87 ls h (pR st fun a r => ck (arr h a 0) (nx 90 ls (.int (hI h a 10) :: r) h)) Q := G_unf rfl rfl
theorem g109_90 : G d 109 90 ls st h Q ↔ GN d 109 90 ls h (pIe st fun x => rtn (some (.int x))) Q := G_unf rfl rfl
theorem g109_91 : G d 109 91 ls st h Q ↔ GN d 109 91 ls h (ldR ls 2 fun a => nx 92 ls (.ref a :: st) h) Q := G_unf rfl rfl
theorem g109_92 : G d 109 92 ls st h Q ↔ GN d 109 92 ls h (pR st fun a r => ck (arr h a 0) (nx 95 ls (.int (hI h a 14) :: r) h)) Q := G_unf rfl rfl
theorem g109_95 : G d 109 95 ls st h Q ↔ GN d 109 95 ls h (pIe st fun x => rtn (some (.int x))) Q := G_unf rfl rfl
theorem g109_96 : G d 109 96 ls st h Q ↔ GN d 109 96 ls h (ldR ls 0 fun a => nx 97 ls (.ref a :: st) h) Q := G_unf rfl rfl
theorem g109_97 : G d 109 97 ls st h Q ↔ GN d 109 97 ls h (pR st fun a r => ck (arr h a 8) (nx 100 ls (rv (hR h a 6) :: r) h)) Q := G_unf rfl rfl
theorem g109_100 : G d 109 100 ls st h Q ↔ GN d 109 100 ls h (pA 0 st fun as r => pR r fun a r => ck (r.length ≤ 4 ∧ arr h a 6) (cll 91 (.ref a :: as) r)) Q := G_unf rfl rfl
theorem g109_103 : G d 109 103 ls st h Q ↔ GN d 109 103 ls h (pIe st fun x => rtn (some (.int x))) Q := G_unf rfl rfl
theorem g109_104 : G d 109 104 ls st h Q ↔ GN d 109 104 ls h (ldR ls 0 fun a => nx 105 ls (.ref a :: st) h) Q := G_unf rfl rfl
theorem g109_105 : G d 109 105 ls st h Q ↔ GN d 109 105 ls h (pR st fun a r => ck (arr h a 8) (nx 108 ls (rv (hR h a 2) :: r) h)) Q := G_unf rfl rfl
theorem g109_108 : G d 109 108 ls st h Q ↔ GN d 109 108 ls h (ldR ls 0 fun a => nx 109 ls (.ref a :: st) h) Q := G_unf rfl rfl
theorem g109_109 : G d 109 109 ls st h Q ↔ GN d 109 109 ls h (pR st fun a r => ck (arr h a 8) (nx 112 ls (rv (hR h a 6) :: r) h)) Q := G_unf rfl rfl
theorem g109_112 : G d 109 112 ls st h Q ↔ GN d 109 112 ls h (pA 1 st fun as r => pR r fun a r => ck (r.length ≤ 4 ∧ arr h a 1) (cll 17 (.ref a :: as) r)) Q := G_unf rfl rfl
theorem g109_115 : G d 109 115 ls st h Q ↔ GN d 109 115 ls h (pIe st fun x => rtn (some (.int x))) Q := G_unf rfl rfl
theorem g109_116 : G d 109 116 ls st h Q ↔ GN d 109 116 ls h (ldR ls 0 fun a => nx 117 ls (.ref a :: st) h) Q := G_unf rfl rfl
theorem g109_117 : G d 109 117 ls st h Q ↔ GN d 109 117 ls h (pR st fun a r => ck (arr h a 8) (nx 120 ls (rv (hR h a 6) :: r) h)) Q := G_unf rfl rfl
theorem g109_120 : G d 109 120 ls st h Q ↔ GN d 109 120 ls h (pR st fun a r => ck (arr h a 6) (nx 123 ls (.int (hI h a 0) :: r) h)) Q := G_unf rfl rfl
theorem g109_123 : G d 109 123 ls st h Q ↔ GN d 109 123 ls h (pIe st fun x => rtn (some (.int x))) Q := G_unf rfl rfl
theorem g109_124 : G d 109 124 ls st h Q ↔ GN d 109 124 ls h (ldR ls 2 fun a => nx 125 ls (.ref a :: st) h) Q := G_unf rfl rfl
theorem g109_125 : G d 109 125 ls st h Q ↔ GN d 109 125 ls h (ldR ls 0 fun a => nx 126 ls (.ref a :: st) h) Q := G_unf rfl rfl
theorem g109_126 : G d 109 126 ls st h Q ↔ GN d 109 126 ls h (pR st fun a r => ck (arr h a 8) (nx 129 ls (rv (hR h a 6) :: r) h)) Q := G_unf rfl rfl
theorem g109_129 : G d 109 129 ls st h Q ↔ GN d 109 129 ls h (pR st fun a r => ck (arr h a 6) (nx 132 ls (.int (hI h a 0) :: r) h)) Q := G_unf rfl rfl
theorem g109_132 : G d 109 132 ls st h Q ↔ GN d 109 132 ls h (pA 1 st fun as r => pR r fun a r => ck (r.length ≤ 4 ∧ arr h a 0) (cll 3 (.ref a :: as) r)) Q := G_unf rfl rfl
theorem g109_135 : G d 109 135 ls st h Q ↔ GN d 109 135 ls h (pIe st fun x => rtn (some (.int x))) Q := G_unf rfl rfl
theorem g109_136 : G d 109 136 ls st h Q ↔ GN d 109 136 ls h (ldR ls 0 fun a => nx 137 ls (.ref a :: st) h) Q := G_unf rfl rfl
theorem g109_137 : G d 109 137 ls st h Q ↔ GN d 109 137 ls h (pR st fun a r => ck (arr h a 8) (nx 140 ls (rv (hR h a 6) :: r) h)) Q := G_unf rfl rfl
theorem g109_140 : G d 109 140 ls st h Q ↔ GN d 109 140 ls h (ldR ls 2 fun a => nx 141 ls (.ref a :: st) h) Q := G_unf rfl rfl
theorem g109_141 : G d 109 141 ls st h Q ↔ GN d 109 141 ls h (pR st fun a r => ck (arr h a 0) (nx 144 ls (.int (hI h a 10) :: r) h)) Q := G_unf rfl rfl
theorem g109_144 : G d 109 144 ls st h Q ↔ GN d 109 144 ls h (pA 1 st fun as r => pR r fun a r => ck (r.length ≤ 4 ∧ arr h a 6) (cll 92 (.ref a :: as) r)) Q := G_unf rfl rfl
theorem g109_147 : G d 109 147 ls st h Q ↔ GN d 109 147 ls h (pIe st fun x => rtn (some (.int x))) Q := G_unf rfl rfl
theorem g109_148 : G d 109 148 ls st h Q ↔ GN d 109 148 ls h (ldR ls 0 fun a => nx 149 ls (.ref a :: st) h) Q := G_unf rfl rfl
theorem g109_149 : G d 109 149 ls st h Q ↔ GN d 109 149 ls h (pR st fun a r => ck (arr h a 8) (nx 152 ls (rv (hR h a 2) :: r) h)) Q := G_unf rfl rfl
theorem g109_152 : G d 109 152 ls st h Q ↔ GN d 109 152 ls h (ldR ls 0 fun a => nx 153 ls (.ref a :: st) h) Q := G_unf rfl rfl
theorem g109_153 : G d 109 153 ls st h Q ↔ GN d 109 153 ls h (pR st fun a r => ck (arr h a 8) (nx 156 ls (rv (hR h a 6) :: r) h)) Q := G_unf rfl rfl
theorem g109_156 : G d 109 156 ls st h Q ↔ GN d 109 156 ls h (pA 1 st fun as r => pR r fun a r => ck (r.length ≤ 4 ∧ arr h a 1) (cll 19 (.ref a :: as) r)) Q := G_unf rfl rfl
theorem g109_159 : G d 109 159 ls st h Q ↔ GN d 109 159 ls h (pIe st fun x => rtn (some (.int x))) Q := G_unf rfl rfl
theorem g109_160 : G d 109 160 ls st h Q ↔ GN d 109 160 ls h (ldR ls 0 fun a => nx 161 ls (.ref a :: st) h) Q := G_unf rfl rfl
theorem g109_161 : G d 109 161 ls st h Q ↔ GN d 109 161 ls h (pR st fun a r => ck (arr h a 8) (nx 164 ls (rv (hR h a 6) :: r) h)) Q := G_unf rfl rfl
theorem g109_164 : G d 109 164 ls st h Q ↔ GN d 109 164 ls h (pR st fun a r => ck (arr h a 6) (nx 167 ls (.int (hI h a 6) :: r) h)) Q := G_unf rfl rfl
theorem g109_167 : G d 109 167 ls st h Q ↔ GN d 109 167 ls h (pIe st fun x => rtn (some (.int x))) Q := G_unf rfl rfl
theorem g109_168 : G d 109 168 ls st h Q ↔ GN d 109 168 ls h (ldR ls 0 fun a => nx 169 ls (.ref a :: st) h) Q := G_unf rfl rfl
theorem g109_169 : G d 109 169 ls st h Q ↔ GN d 109 169 ls h (pR st fun a r => ck (arr h a 8) (nx 172 ls (rv (hR h a 5) :: r) h)) Q := G_unf rfl rfl
theorem g109_172 : G d 109 172 ls st h Q ↔ GN d 109 172 ls h (pR st fun a r => ck (arr h a 2) (nx 175 ls (.int (hI h a 2) :: r) h)) Q := G_unf rfl rfl
theorem g109_175 : G d 109 175 ls st h Q ↔ GN d 109 175 ls h (pIe st fun x => rtn (some (.int x))) Q := G_unf rfl rfl
theorem g109_176 : G d 109 176 ls st h Q ↔ GN d 109 176 ls h (ldR ls 0 fun a => nx 177 ls (.ref a :: st) h) Q := G_unf rfl rfl
theorem g109_177 : G d 109 177 ls st h Q ↔ GN d 109 177 ls h (pR st fun a r => ck (arr h a 8) (nx 180 ls (.int (hI h a 11) :: r) h)) Q := G_unf rfl rfl
theorem g109_180 : G d 109 180 ls st h Q ↔ GN d 109 180 ls h (pIe st fun x => rtn (some (.int x))) Q := G_unf rfl rfl
theorem g109_181 : G d 109 181 ls st h Q ↔ GN d 109 181 ls h (nx 182 ls (.int (-1) :: st) h) Q := G_unf rfl rfl
theorem g109_182 : G d 109 182 ls st h Q ↔ GN d 109 182 ls h (pIe st fun x => rtn (some (.int x))) Q := G_unf rfl rfl
theorem g110_0 : G d 110 0 ls st h Q ↔ GN d 110 0 ls h (ldI ls 3 fun x => nx 1 ls (.int x :: st) h) Q := G_unf rfl rfl
theorem g110_1 : G d 110 1 ls st h Q ↔ GN d 110 1 ls h (pI st fun x r => br (x < 0) (nx 10 ls r h) (nx 4 ls r h)) Q := G_unf rfl rfl
theorem g110_4 : G d 110 4 ls st h Q ↔ GN d 110 4 ls h (ldI ls 3 fun x => nx 5 ls (.int x :: st) h) Q := G_unf rfl rfl
theorem g110_5 : G d 110 5 ls st h Q ↔ GN d 110 5 ls h (nx 7 ls (.int (nI 6) :: st) h) Q := G_unf rfl rfl
theorem g110_7 : G d 110 7 ls st h Q ↔ GN d 110 7 ls h (pII st fun x y r => br (x < y) (nx 12 ls r h) (nx 10 ls r h)) Q := G_unf rfl rfl
theorem g110_10 : G d 110 10 ls st h Q ↔ GN d 110 10 ls h (nx 11 ls (.int (-1) :: st) h) Q := G_unf rfl rfl
theorem g110_11 : G d 110 11 ls st h Q ↔ GN d 110 11 ls h (pIe st fun x => rtn (some (.int x))) Q := G_unf rfl rfl
theorem g110_12 : G d 110 12 ls st h Q ↔ GN d 110 12 ls h (ldI ls 1 fun x => nx 13 ls (.int x :: st) h) Q := G_unf rfl rfl
theorem g110_13 : G d 110 13 ls st h Q ↔ GN d 110 13 ls h (pI st fun x r => br (¬ x = 0) (nx 41 ls r h) (nx 16 ls r h)) Q := G_unf rfl rfl
theorem g110_16 : G d 110 16 ls st h Q ↔ GN d 110 16 ls h (ldR ls 0 fun a => nx 17 ls (.ref a :: st) h) Q := G_unf rfl rfl
theorem g110_17 : G d 110 17 ls st h Q ↔ GN d 110 17 ls h (ldI ls 2 fun x => nx 18 ls (.int x :: st) h) Q := G_unf rfl rfl
theorem g110_18 : G d 110 18 ls st h Q ↔ GN d 110 18 ls h (pA 1 st fun as r => pR r fun a r => ck (r.length ≤ 4 ∧ arr h a 8) (cll 141 (.ref a :: as) r)) Q := G_unf rfl rfl
theorem g110_21 : G d 110 21 ls st h Q ↔ GN d 110 21 ls h (pI st fun x r => br (x = 0) (nx 41 ls r h) (nx 24 ls r h)) Q := G_unf rfl rfl
theorem g110_24 : G d 110 24 ls st h Q ↔ GN d 110 24 ls h (ldR ls 0 fun a => nx 25 ls (.ref a :: st) h) Q := G_unf rfl rfl
theorem g110_25 : G d 110 25 ls st h Q ↔ GN d 110 25 ls h (pR st fun a r => ck (arr h a 8) (nx 28 ls (rv (hR h a 2) :: r) h)) Q := G_unf rfl rfl
theorem g110_28 : G d 110 28 ls st h Q ↔ GN d 110 28 ls h (pR st fun a r => ck (arr h a 1) (nx 31 ls (rv (hR h a 0) :: r) h)) Q := G_unf rfl rfl
theorem g110_31 : G d 110 31 ls st h Q ↔ GN d 110 31 ls h (pR st fun a r => ck (arr h a 0) (nx 34 ls (rv (hR h a 0) :: r) h)) Q := G_unf rfl rfl
theorem g110_34 : G d 110 34 ls st h Q ↔ GN d 110 34 ls h (ldI ls 2 fun x => nx 35 ls (.int x :: st) h) Q := G_unf rfl rfl
theorem g110_35 : G d 110 35 ls st h Q ↔ GN d 110 35 ls h (pRI st fun a i r => br (a = 1000003) (ck (inb i (hS h).1) (nx 36 ls (.int ((hS h).2 i.toNatClampNeg) :: r) h)) (ck (arr h a 10 ∧ inb i (hLn h a)) (nx 36 ls (.int (hI h a i.toNatClampNeg) :: r) h))) Q := G_unf rfl rfl
theorem g110_36 : G d 110 36 ls st h Q ↔ GN d 110 36 ls h (ldI ls 3 fun x => nx 37 ls (.int x :: st) h) Q := G_unf rfl rfl
theorem g110_37 : G d 110 37 ls st h Q ↔ GN d 110 37 ls h (pA 2 st fun as r => ck (r.length ≤ 4) (cll 151 as r)) Q := G_unf rfl rfl
theorem g110_40 : G d 110 40 ls st h Q ↔ GN d 110 40 ls h (pIe st fun x => rtn (some (.int x))) Q := G_unf rfl rfl
theorem g110_41 : G d 110 41 ls st h Q ↔ GN d 110 41 ls h (ldI ls 1 fun x => nx 42 ls (.int x :: st) h) Q := G_unf rfl rfl
theorem g110_42 : G d 110 42 ls st h Q ↔ GN d 110 42 ls h (nx 43 ls (.int (nI 1) :: st) h) Q := G_unf rfl rfl
theorem g110_43 : G d 110 43 ls st h Q ↔ GN d 110 43 ls h (pII st fun x y r => br (¬ x = y) (nx 71 ls r h) (nx 46 ls r h)) Q := G_unf rfl rfl
theorem g110_46 : G d 110 46 ls st h Q ↔ GN d 110 46 ls h (ldR ls 0 fun a => nx 47 ls (.ref a :: st) h) Q := G_unf rfl rfl
theorem g110_47 : G d 110 47 ls st h Q ↔ GN d 110 47 ls h (ldI ls 2 fun x => nx 48 ls (.int x :: st) h) Q := G_unf rfl rfl
theorem g110_48 : G d 110 48 ls st h Q ↔ GN d 110 48 ls h (pA 1 st fun as r => pR r fun a r => ck (r.length ≤ 4 ∧ arr h a 8) (cll 143 (.ref a :: as) r)) Q := G_unf rfl rfl
theorem g110_51 : G d 110 51 ls st h Q ↔ GN d 110 51 ls h (pI st fun x r => br (x = 0) (nx 71 ls r h) (nx 54 ls r h)) Q := G_unf rfl rfl
theorem g110_54 : G d 110 54 ls st h Q ↔ GN d 110 54 ls h (ldR ls 0 fun a => nx 55 ls (.ref a :: st) h) Q := G_unf rfl rfl
theorem g110_55 : G d 110 55 ls st h Q ↔ GN d 110 55 ls h (pR st fun a r => ck (arr h a 8) (nx 58 ls (rv (hR h a 2) :: r) h)) Q := G_unf rfl rfl
theorem g110_58 : G d 110 58 ls st h Q ↔ GN d 110 58 ls h (pR st fun a r => ck (arr h a 1) (nx 61 ls (rv (hR h a 0) :: r) h)) Q := G_unf rfl rfl
theorem g110_61 : G d 110 61 ls st h Q ↔ GN d 110 61 ls h (pR st fun a r => ck (arr h a 0) (nx 64 ls (rv (hR h a 7) :: r) h)) Q := G_unf rfl rfl
theorem g110_64 : G d 110 64 ls st h Q ↔ GN d 110 64 ls h (ldI ls 2 fun x => nx 65 ls (.int x :: st) h) Q := G_unf rfl rfl
theorem g110_65 : G d 110 65 ls st h Q ↔ GN d 110 65 ls h (pRI st fun a i r => br (a = 1000003) (ck (inb i (hS h).1) (nx 66 ls (.int ((hS h).2 i.toNatClampNeg) :: r) h)) (ck (arr h a 10 ∧ inb i (hLn h a)) (nx 66 ls (.int (hI h a i.toNatClampNeg) :: r) h))) Q := G_unf rfl rfl
theorem g110_66 : G d 110 66 ls st h Q ↔ GN d 110 66 ls h (ldI ls 3 fun x => nx 67 ls (.int x :: st) h) Q := G_unf rfl rfl
theorem g110_67 : G d 110 67 ls st h Q ↔ GN d 110 67 ls h (pA 2 st fun as r => ck (r.length ≤ 4) (cll 151 as r)) Q := G_unf rfl rfl
theorem g110_70 : G d 110 70 ls st h Q ↔ GN d 110 70 ls h (pIe st fun x => rtn (some (.int x))) Q := G_unf rfl rfl
theorem g110_71 : G d 110 71 ls st h Q ↔ GN d 110 71 ls h (nx 72 ls (.int (-1) :: st) h) Q := G_unf rfl rfl
theorem g110_72 : G d 110 72 ls st h Q ↔ GN d 110 72 ls h (pIe st fun x => rtn (some (.int x))) Q := G_unf rfl rfl
theorem g111_0 : G d 111 0 ls st h Q ↔ GN d 111 0 ls h (ldR ls 0 fun a => nx 1 ls (.ref a :: st) h) Q := G_unf rfl rfl
theorem g111_1 : G d 111 1 ls st h Q ↔ GN d 111 1 ls h (ldI ls 1 fun x => nx 2 ls (.int x :: st) h) Q := G_unf rfl rfl
theorem g111_2 : G d 111 2 ls st h Q ↔ GN d 111 2 ls h (pA 1 st fun as r => pR r fun a r => ck (r.length ≤ 4 ∧ arr h a 8) (cll 141 (.ref a :: as) r)) Q := G_unf rfl rfl
theorem g111_5 : G d 111 5 ls st h Q ↔ GN d 111 5 ls h (pI st fun x r => br (¬ x = 0) (nx 10 ls r h) (nx 8 ls r h)) Q := G_unf rfl rfl
theorem g111_8 : G d 111 8 ls st h Q ↔ GN d 111 8 ls h (nx 9 ls (.int (-1) :: st) h) Q := G_unf rfl rfl
theorem g111_9 : G d 111 9 ls st h Q ↔ GN d 111 9 ls h (pIe st fun x => rtn (some (.int x))) Q := G_unf rfl rfl
theorem g111_10 : G d 111 10 ls st h Q ↔ GN d 111 10 ls h (ldR ls 0 fun a => nx 11 ls (.ref a :: st) h) Q := G_unf rfl rfl
theorem g111_11 : G d 111 11 ls st h Q ↔ GN d 111 11 ls h (pR st fun a r => ck (arr h a 8) (nx 14 ls (rv (hR h a 2) :: r) h)) Q := G_unf rfl rfl
theorem g111_14 : G d 111 14 ls st h Q ↔ GN d 111 14 ls h (pR st fun a r => ck (arr h a 1) (nx 17 ls (rv (hR h a 0) :: r) h)) Q := G_unf rfl rfl
theorem g111_17 : G d 111 17 ls st h Q ↔ GN d 111 17 ls h (pR st fun a r => ck (3 < ls.length) (nx 18 (st1 ls 3 (.ref a)) r h)) Q := G_unf rfl rfl
theorem g111_18 : G d 111 18 ls st h Q ↔ GN d 111 18 ls h (ldI ls 2 fun x => nx 19 ls (.int x :: st) h) Q := G_unf rfl rfl
theorem g111_19 : G d 111 19 ls st h Q ↔ GN d 111 19 ls h (pI st fun x r => br (x.toInt = 0) (nx 56 ls r h) (br (x.toInt = 1) (nx 63 ls r h) (br (x.toInt = 2) (nx 70 ls r h) (br (x.toInt = 3) (nx 82 ls r h) (br (x.toInt = 4) (nx 94 ls r h) (br (x.toInt = 5) (nx 100 ls r h) (nx 106 ls r h))))))) Q := G_unf rfl rfl
theorem g111_56 : G d 111 56 ls st h Q ↔ GN d 111 56 ls h (ldR ls 3 fun a => nx 57 ls (.ref a :: st) h) Q := G_unf rfl rfl
theorem g111_57 : G d 111 57 ls st h Q ↔ GN d 111 57 ls h (pR st fun a r => ck (arr h a 0) (nx 60 ls (rv (hR h a 1) :: r) h)) Q := G_unf rfl rfl
theorem g111_60 : G d 111 60 ls st h Q ↔ GN d 111 60 ls h (ldI ls 1 fun x => nx 61 ls (.int x :: st) h) Q := G_unf rfl rfl
theorem g111_61 : G d 111 61 ls st h Q ↔ GN d 111 61 ls h (pRI st fun a i r => br (a = 1000003) (ck (inb i (hS h).1) (nx 62 ls (.int ((hS h).2 i.toNatClampNeg) :: r) h)) (ck (arr h a 10 ∧ inb i (hLn h a)) (nx 62 ls (.int (hI h a i.toNatClampNeg) :: r) h))) Q := G_unf rfl rfl
theorem g111_62 : G d 111 62 ls st h Q ↔ GN d 111 62 ls h (pIe st fun x => rtn (some (.int x))) Q := G_unf rfl rfl
theorem g111_63 : G d 111 63 ls st h Q ↔ GN d 111 63 ls h (ldR ls 3 fun a => nx 64 ls (.ref a :: st) h) Q := G_unf rfl rfl
theorem g111_64 : G d 111 64 ls st h Q ↔ GN d 111 64 ls h (pR st fun a r => ck (arr h a 0) (nx 67 ls (rv (hR h a 2) :: r) h)) Q := G_unf rfl rfl
theorem g111_67 : G d 111 67 ls st h Q ↔ GN d 111 67 ls h (ldI ls 1 fun x => nx 68 ls (.int x :: st) h) Q := G_unf rfl rfl
theorem g111_68 : G d 111 68 ls st h Q ↔ GN d 111 68 ls h (pRI st fun a i r => br (a = 1000003) (ck (inb i (hS h).1) (nx 69 ls (.int ((hS h).2 i.toNatClampNeg) :: r) h)) (ck (arr h a 10 ∧ inb i (hLn h a)) (nx 69 ls (.int (hI h a i.toNatClampNeg) :: r) h))) Q := G_unf rfl rfl
theorem g111_69 : G d 111 69 ls st h Q ↔ GN d 111 69 ls h (pIe st fun x => rtn (some (.int x))) Q := G_unf rfl rfl
theorem g111_70 : G d 111 70 ls st h Q ↔ GN d 111 70 ls h (ldR ls 0 fun a => nx 71 ls (.ref a :: st) h) Q := G_unf rfl rfl
theorem g111_71 : G d 111 71 ls st h Q ↔ GN d 111 71 ls h (pR st fun a r => ck (arr h a 8) (nx 74 ls (rv (hR h a 6) :: r) h)) Q := G_unf rfl rfl
theorem g111_74 : G d 111 74 ls st h Q ↔ GN d 111 74 ls h (pR st fun a r => ck (arr h a 6) (nx 77 ls (rv (hR h a 1) :: r) h)) Q := G_unf rfl rfl
theorem g111_77 : G d 111 77 ls st h Q ↔ GN d 111 77 ls h (ldI ls 1 fun x => nx 78 ls (.int x :: st) h) Q := G_unf rfl rfl
theorem g111_78 : G d 111 78 ls st h Q ↔ GN d 111 78 ls h (pA 2 st fun as r => ck (r.length ≤ 4) (cll 152 as r)) Q := G_unf rfl rfl
theorem g111_81 : G d 111 81 ls st h Q ↔ GN d 111 81 ls h (pIe st fun x => rtn (some (.int x))) Q := G_unf rfl rfl
theorem g111_82 : G d 111 82 ls st h Q ↔ GN d 111 82 ls h (ldR ls 0 fun a => nx 83 ls (.ref a :: st) h) Q := G_unf rfl rfl
theorem g111_83 : G d 111 83 ls st h Q ↔ GN d 111 83 ls h (pR st fun a r => ck (arr h a 8) (nx 86 ls (rv (hR h a 6) :: r) h)) Q := G_unf rfl rfl
theorem g111_86 : G d 111 86 ls st h Q ↔ GN d 111 86 ls h (pR st fun a r => ck (arr h a 6) (nx 89 ls (rv (hR h a 4) :: r) h)) Q := G_unf rfl rfl
theorem g111_89 : G d 111 89 ls st h Q ↔ GN d 111 89 ls h (ldI ls 1 fun x => nx 90 ls (.int x :: st) h) Q := G_unf rfl rfl
theorem g111_90 : G d 111 90 ls st h Q ↔ GN d 111 90 ls h (pA 2 st fun as r => ck (r.length ≤ 4) (cll 152 as r)) Q := G_unf rfl rfl
theorem g111_93 : G d 111 93 ls st h Q ↔ GN d 111 93 ls h (pIe st fun x => rtn (some (.int x))) Q := G_unf rfl rfl
theorem g111_94 : G d 111 94 ls st h Q ↔ GN d 111 94 ls h (ldR ls 3 fun a => nx 95 ls (.ref a :: st) h) Q := G_unf rfl rfl
theorem g111_95 : G d 111 95 ls st h Q ↔ GN d 111 95 ls h (ldI ls 1 fun x => nx 96 ls (.int x :: st) h) Q := G_unf rfl rfl
theorem g111_96 : G d 111 96 ls st h Q ↔ GN d 111 96 ls h (pA 1 st fun as r => pR r fun a r => ck (r.length ≤ 4 ∧ arr h a 0) (cll 5 (.ref a :: as) r)) Q := G_unf rfl rfl
theorem g111_99 : G d 111 99 ls st h Q ↔ GN d 111 99 ls h (pIe st fun x => rtn (some (.int x))) Q := G_unf rfl rfl
theorem g111_100 : G d 111 100 ls st h Q ↔ GN d 111 100 ls h (ldR ls 3 fun a => nx 101 ls (.ref a :: st) h) Q := G_unf rfl rfl
theorem g111_101 : G d 111 101 ls st h Q ↔ GN d 111 101 ls h (ldI ls 1 fun x => nx 102 ls (.int x :: st) h) Q := G_unf rfl rfl
theorem g111_102 : G d 111 102 ls st h Q ↔ GN d 111 102 ls h (pA 1 st fun as r => pR r fun a r => ck (r.length ≤ 4 ∧ arr h a 0) (cll 6 (.ref a :: as) r)) Q := G_unf rfl rfl
theorem g111_105 : G d 111 105 ls st h Q ↔ GN d 111 105 ls h (pIe st fun x => rtn (some (.int x))) Q := G_unf rfl rfl
theorem g111_106 : G d 111 106 ls st h Q ↔ GN d 111 106 ls h (nx 107 ls (.int (-1) :: st) h) Q := G_unf rfl rfl
theorem g111_107 : G d 111 107 ls st h Q ↔ GN d 111 107 ls h (pIe st fun x => rtn (some (.int x))) Q := G_unf rfl rfl
theorem g112_0 : G d 112 0 ls st h Q ↔ GN d 112 0 ls h (ldI ls 1 fun x => nx 1 ls (.int x :: st) h) Q := G_unf rfl rfl
theorem g112_1 : G d 112 1 ls st h Q ↔ GN d 112 1 ls h (pI st fun x r => br (x < 0) (nx 18 ls r h) (nx 4 ls r h)) Q := G_unf rfl rfl
theorem g112_4 : G d 112 4 ls st h Q ↔ GN d 112 4 ls h (ldI ls 1 fun x => nx 5 ls (.int x :: st) h) Q := G_unf rfl rfl
theorem g112_5 : G d 112 5 ls st h Q ↔ GN d 112 5 ls h (ldR ls 0 fun a => nx 6 ls (.ref a :: st) h) Q := G_unf rfl rfl
theorem g112_6 : G d 112 6 ls st h Q ↔ GN d 112 6 ls h (pR st fun a r => ck (arr h a 8) (nx 9 ls (rv (hR h a 2) :: r) h)) Q := G_unf rfl rfl
theorem g112_9 : G d 112 9 ls st h Q ↔ GN d 112 9 ls h (pR st fun a r => ck (arr h a 1) (nx 12 ls (rv (hR h a 0) :: r) h)) Q := G_unf rfl rfl
theorem g112_12 : G d 112 12 ls st h Q ↔ GN d 112 12 ls h (pR st fun a r => ck (arr h a 0) (nx 15 ls (.int (hI h a 6) :: r) h)) Q := G_unf rfl rfl
theorem g112_15 : G d 112 15 ls st h Q ↔ GN d 112 15 ls h (pII st fun x y r => br (x < y) (nx 20 ls r h) (nx 18 ls r h)) Q := G_unf rfl rfl
theorem g112_18 : G d 112 18 ls st h Q ↔ GN d 112 18 ls h (nx 19 ls (.int (-1) :: st) h) Q := G_unf rfl rfl
theorem g112_19 : G d 112 19 ls st h Q ↔ GN d 112 19 ls h (pIe st fun x => rtn (some (.int x))) Q := G_unf rfl rfl
theorem g112_20 : G d 112 20 ls st h Q ↔ GN d 112 20 ls h (ldI ls 2 fun x => nx 21 ls (.int x :: st) h) Q := G_unf rfl rfl
theorem g112_21 : G d 112 21 ls st h Q ↔ GN d 112 21 ls h (pI st fun x r => br (x.toInt = 0) (nx 48 ls r h) (br (x.toInt = 1) (nx 61 ls r h) (nx 74 ls r h))) Q := G_unf rfl rfl
theorem g112_48 : G d 112 48 ls st h Q ↔ GN d 112 48 ls h (ldR ls 0 fun a => nx 49 ls (.ref a :: st) h) Q := G_unf rfl rfl
theorem g112_49 : G d 112 49 ls st h Q ↔ GN d 112 49 ls h (pR st fun a r => ck (arr h a 8) (nx 52 ls (rv (hR h a 2) :: r) h)) Q := G_unf rfl rfl
theorem g112_52 : G d 112 52 ls st h Q ↔ GN d 112 52 ls h (pR st fun a r => ck (arr h a 1) (nx 55 ls (rv (hR h a 0) :: r) h)) Q := G_unf rfl rfl
theorem g112_55 : G d 112 55 ls st h Q ↔ GN d 112 55 ls h (pR st fun a r => ck (arr h a 0) (nx 58 ls (rv (hR h a 4) :: r) h)) Q := G_unf rfl rfl
theorem g112_58 : G d 112 58 ls st h Q ↔ GN d 112 58 ls h (ldI ls 1 fun x => nx 59 ls (.int x :: st) h) Q := G_unf rfl rfl
theorem g112_59 : G d 112 59 ls st h Q ↔ GN d 112 59 ls h (pRI st fun a i r => br (a = 1000003) (ck (inb i (hS h).1) (nx 60 ls (.int ((hS h).2 i.toNatClampNeg) :: r) h)) (ck (arr h a 10 ∧ inb i (hLn h a)) (nx 60 ls (.int (hI h a i.toNatClampNeg) :: r) h))) Q := G_unf rfl rfl
theorem g112_60 : G d 112 60 ls st h Q ↔ GN d 112 60 ls h (pIe st fun x => rtn (some (.int x))) Q := G_unf rfl rfl
theorem g112_61 : G d 112 61 ls st h Q ↔ GN d 112 61 ls h (ldR ls 0 fun a => nx 62 ls (.ref a :: st) h) Q := G_unf rfl rfl
theorem g112_62 : G d 112 62 ls st h Q ↔ GN d 112 62 ls h (pR st fun a r => ck (arr h a 8) (nx 65 ls (rv (hR h a 2) :: r) h)) Q := G_unf rfl rfl
theorem g112_65 : G d 112 65 ls st h Q ↔ GN d 112 65 ls h (pR st fun a r => ck (arr h a 1) (nx 68 ls (rv (hR h a 0) :: r) h)) Q := G_unf rfl rfl
theorem g112_68 : G d 112 68 ls st h Q ↔ GN d 112 68 ls h (pR st fun a r => ck (arr h a 0) (nx 71 ls (rv (hR h a 5) :: r) h)) Q := G_unf rfl rfl
theorem g112_71 : G d 112 71 ls st h Q ↔ GN d 112 71 ls h (ldI ls 1 fun x => nx 72 ls (.int x :: st) h) Q := G_unf rfl rfl
theorem g112_72 : G d 112 72 ls st h Q ↔ GN d 112 72 ls h (pRI st fun a i r => br (a = 1000003) (ck (inb i (hS h).1) (nx 73 ls (.int ((hS h).2 i.toNatClampNeg) :: r) h)) (ck (arr h a 10 ∧ inb i (hLn h a)) (nx 73 ls (.int (hI h a i.toNatClampNeg) :: r) h))) Q := G_unf rfl rfl
theorem g112_73 : G d 112 73 ls st h Q ↔ GN d 112 73 ls h (pIe st fun x => rtn (some (.int x))) Q := G_unf rfl rfl
theorem g112_74 : G d 112 74 ls st h Q ↔ GN d 112 74 ls h (nx 75 ls (.int (-1) :: st) h) Q := G_unf rfl rfl
theorem g112_75 : G d 112 75 ls st h Q ↔ GN d 112 75 ls h (pIe st fun x => rtn (some (.int x))) Q := G_unf rfl rfl
theorem g113_0 : G d 113 0 ls st h Q ↔ GN d 113 0 ls h (ldR ls 0 fun a => nx 1 ls (.ref a :: st) h) Q := G_unf rfl rfl
theorem g113_1 : G d 113 1 ls st h Q ↔ GN d 113 1 ls h (ldI ls 1 fun x => nx 2 ls (.int x :: st) h) Q := G_unf rfl rfl
theorem g113_2 : G d 113 2 ls st h Q ↔ GN d 113 2 ls h (pA 1 st fun as r => pR r fun a r => ck (r.length ≤ 4 ∧ arr h a 8) (cll 143 (.ref a :: as) r)) Q := G_unf rfl rfl
theorem g113_5 : G d 113 5 ls st h Q ↔ GN d 113 5 ls h (pI st fun x r => br (¬ x = 0) (nx 10 ls r h) (nx 8 ls r h)) Q := G_unf rfl rfl
theorem g113_8 : G d 113 8 ls st h Q ↔ GN d 113 8 ls h (nx 9 ls (.int (-1) :: st) h) Q := G_unf rfl rfl
theorem g113_9 : G d 113 9 ls st h Q ↔ GN d 113 9 ls h (pIe st fun x => rtn (some (.int x))) Q := G_unf rfl rfl
theorem g113_10 : G d 113 10 ls st h Q ↔ GN d 113 10 ls h (ldI ls 2 fun x => nx 11 ls (.int x :: st) h) Q := G_unf rfl rfl
theorem g113_11 : G d 113 11 ls st h Q ↔ GN d 113 11 ls h (pI st fun x r => br (x.toInt = 0) (nx 48 ls r h) (br (x.toInt = 1) (nx 61 ls r h) (br (x.toInt = 2) (nx 71 ls r h) (br (x.toInt = 3) (nx 81 ls r h) (br (x.toInt = 4) (nx 91 ls r h) (br (x.toInt = 5) (nx 104 ls r h) (nx 113 ls r h))))))) Q := G_unf rfl rfl
theorem g113_48 : G d 113 48 ls st h Q ↔ GN d 113 48 ls h (ldR ls 0 fun a => nx 49 ls (.ref a :: st) h) Q := G_unf rfl rfl
theorem g113_49 : G d 113 49 ls st h Q ↔ GN d 113 49 ls h (pR st fun a r => ck (arr h a 8) (nx 52 ls (rv (hR h a 2) :: r) h)) Q := G_unf rfl rfl
theorem g113_52 : G d 113 52 ls st h Q ↔ GN d 113 52 ls h (pR st fun a r => ck (arr h a 1) (nx 55 ls (rv (hR h a 0) :: r) h)) Q := G_unf rfl rfl
theorem g113_55 : G d 113 55 ls st h Q ↔ GN d 113 55 ls h (pR st fun a r => ck (arr h a 0) (nx 58 ls (rv (hR h a 8) :: r) h)) Q := G_unf rfl rfl
theorem g113_58 : G d 113 58 ls st h Q ↔ GN d 113 58 ls h (ldI ls 1 fun x => nx 59 ls (.int x :: st) h) Q := G_unf rfl rfl
theorem g113_59 : G d 113 59 ls st h Q ↔ GN d 113 59 ls h (pRI st fun a i r => br (a = 1000003) (ck (inb i (hS h).1) (nx 60 ls (.int ((hS h).2 i.toNatClampNeg) :: r) h)) (ck (arr h a 10 ∧ inb i (hLn h a)) (nx 60 ls (.int (hI h a i.toNatClampNeg) :: r) h))) Q := G_unf rfl rfl
theorem g113_60 : G d 113 60 ls st h Q ↔ GN d 113 60 ls h (pIe st fun x => rtn (some (.int x))) Q := G_unf rfl rfl
theorem g113_61 : G d 113 61 ls st h Q ↔ GN d 113 61 ls h (ldR ls 0 fun a => nx 62 ls (.ref a :: st) h) Q := G_unf rfl rfl
theorem g113_62 : G d 113 62 ls st h Q ↔ GN d 113 62 ls h (pR st fun a r => ck (arr h a 8) (nx 65 ls (rv (hR h a 6) :: r) h)) Q := G_unf rfl rfl
theorem g113_65 : G d 113 65 ls st h Q ↔ GN d 113 65 ls h (pR st fun a r => ck (arr h a 6) (nx 68 ls (rv (hR h a 2) :: r) h)) Q := G_unf rfl rfl
theorem g113_68 : G d 113 68 ls st h Q ↔ GN d 113 68 ls h (ldI ls 1 fun x => nx 69 ls (.int x :: st) h) Q := G_unf rfl rfl
theorem g113_69 : G d 113 69 ls st h Q ↔ GN d 113 69 ls h (pRI st fun a i r => br (a = 1000003) (ck (inb i (hS h).1) (nx 70 ls (.int ((hS h).2 i.toNatClampNeg) :: r) h)) (ck (arr h a 10 ∧ inb i (hLn h a)) (nx 70 ls (.int (hI h a i.toNatClampNeg) :: r) h))) Q := G_unf rfl rfl
theorem g113_70 : G d 113 70 ls st h Q ↔ GN d 113 70 ls h (pIe st fun x => rtn (some (.int x))) Q := G_unf rfl rfl
theorem g113_71 : G d 113 71 ls st h Q ↔ GN d 113 71 ls h (ldR ls 0 fun a => nx 72 ls (.ref a :: st) h) Q := G_unf rfl rfl
theorem g113_72 : G d 113 72 ls st h Q ↔ GN d 113 72 ls h (pR st fun a r => ck (arr h a 8) (nx 75 ls (rv (hR h a 6) :: r) h)) Q := G_unf rfl rfl
theorem g113_75 : G d 113 75 ls st h Q ↔ GN d 113 75 ls h (pR st fun a r => ck (arr h a 6) (nx 78 ls (rv (hR h a 1) :: r) h)) Q := G_unf rfl rfl
theorem g113_78 : G d 113 78 ls st h Q ↔ GN d 113 78 ls h (ldI ls 1 fun x => nx 79 ls (.int x :: st) h) Q := G_unf rfl rfl
theorem g113_79 : G d 113 79 ls st h Q ↔ GN d 113 79 ls h (pRI st fun a i r => br (a = 1000003) (ck (inb i (hS h).1) (nx 80 ls (.int ((hS h).2 i.toNatClampNeg) :: r) h)) (ck (arr h a 10 ∧ inb i (hLn h a)) (nx 80 ls (.int (hI h a i.toNatClampNeg) :: r) h))) Q := G_unf rfl rfl
theorem g113_80 : G d 113 80 ls st h Q ↔ GN d 113 80 ls h (pIe st fun x => rtn (some (.int x))) Q := G_unf rfl rfl
theorem g113_81 : G d 113 81 ls st h Q ↔ GN d 113 81 ls h (ldR ls 0 fun a => nx 82 ls (.ref a :: st) h) Q := G_unf rfl rfl
theorem g113_82 : G d 113 82 ls st h Q ↔ GN d 113 82 ls h (pR st fun a r => ck (arr h a 8) (nx 85 ls (rv (hR h a 6) :: r) h)) Q := G_unf rfl rfl
theorem g113_85 : G d 113 85 ls st h Q ↔ GN d 113 85 ls h (pR st fun a r => ck (arr h a 6) (nx 88 ls (rv (hR h a 4) :: r) h)) Q := G_unf rfl rfl
theorem g113_88 : G d 113 88 ls st h Q ↔ GN d 113 88 ls h (ldI ls 1 fun x => nx 89 ls (.int x :: st) h) Q := G_unf rfl rfl
theorem g113_89 : G d 113 89 ls st h Q ↔ GN d 113 89 ls h (pRI st fun a i r => br (a = 1000003) (ck (inb i (hS h).1) (nx 90 ls (.int ((hS h).2 i.toNatClampNeg) :: r) h)) (ck (arr h a 10 ∧ inb i (hLn h a)) (nx 90 ls (.int (hI h a i.toNatClampNeg) :: r) h))) Q := G_unf rfl rfl
theorem g113_90 : G d 113 90 ls st h Q ↔ GN d 113 90 ls h (pIe st fun x => rtn (some (.int x))) Q := G_unf rfl rfl
theorem g113_91 : G d 113 91 ls st h Q ↔ GN d 113 91 ls h (ldR ls 0 fun a => nx 92 ls (.ref a :: st) h) Q := G_unf rfl rfl
theorem g113_92 : G d 113 92 ls st h Q ↔ GN d 113 92 ls h (pR st fun a r => ck (arr h a 8) (nx 95 ls (rv (hR h a 2) :: r) h)) Q := G_unf rfl rfl
theorem g113_95 : G d 113 95 ls st h Q ↔ GN d 113 95 ls h (ldR ls 0 fun a => nx 96 ls (.ref a :: st) h) Q := G_unf rfl rfl
theorem g113_96 : G d 113 96 ls st h Q ↔ GN d 113 96 ls h (pR st fun a r => ck (arr h a 8) (nx 99 ls (rv (hR h a 6) :: r) h)) Q := G_unf rfl rfl
theorem g113_99 : G d 113 99 ls st h Q ↔ GN d 113 99 ls h (ldI ls 1 fun x => nx 100 ls (.int x :: st) h) Q := G_unf rfl rfl
theorem g113_100 : G d 113 100 ls st h Q ↔ GN d 113 100 ls h (pA 2 st fun as r => pR r fun a r => ck (r.length ≤ 4 ∧ arr h a 1) (cll 18 (.ref a :: as) r)) Q := G_unf rfl rfl
theorem g113_103 : G d 113 103 ls st h Q ↔ GN d 113 103 ls h (pIe st fun x => rtn (some (.int x))) Q := G_unf rfl rfl
theorem g113_104 : G d 113 104 ls st h Q ↔ GN d 113 104 ls h (ldR ls 0 fun a => nx 105 ls (.ref a :: st) h) Q := G_unf rfl rfl
theorem g113_105 : G d 113 105 ls st h Q ↔ GN d 113 105 ls h (pR st fun a r => ck (arr h a 8) (nx 108 ls (rv (hR h a 6) :: r) h)) Q := G_unf rfl rfl
theorem g113_108 : G d 113 108 ls st h Q ↔ GN d 113 108 ls h (ldI ls 1 fun x => nx 109 ls (.int x :: st) h) Q := G_unf rfl rfl
theorem g113_109 : G d 113 109 ls st h Q ↔ GN d 113 109 ls h (pA 1 st fun as r => pR r fun a r => ck (r.length ≤ 4 ∧ arr h a 6) (cll 93 (.ref a :: as) r)) Q := G_unf rfl rfl
theorem g113_112 : G d 113 112 ls st h Q ↔ GN d 113 112 ls h (pIe st fun x => rtn (some (.int x))) Q := G_unf rfl rfl
theorem g113_113 : G d 113 113 ls st h Q ↔ GN d 113 113 ls h (nx 114 ls (.int (-1) :: st) h) Q := G_unf rfl rfl
theorem g113_114 : G d 113 114 ls st h Q ↔ GN d 113 114 ls h (pIe st fun x => rtn (some (.int x))) Q := G_unf rfl rfl
theorem g114_0 : G d 114 0 ls st h Q ↔ GN d 114 0 ls h (ldR ls 0 fun a => nx 1 ls (.ref a :: st) h) Q := G_unf rfl rfl
theorem g114_1 : G d 114 1 ls st h Q ↔ GN d 114 1 ls h (ldI ls 1 fun x => nx 2 ls (.int x :: st) h) Q := G_unf rfl rfl
theorem g114_2 : G d 114 2 ls st h Q ↔ GN d 114 2 ls h (pA 1 st fun as r => pR r fun a r => ck (r.length ≤ 4 ∧ arr h a 8) (cll 143 (.ref a :: as) r)) Q := G_unf rfl rfl
theorem g114_5 : G d 114 5 ls st h Q ↔ GN d 114 5 ls h (pI st fun x r => br (x = 0) (nx 28 ls r h) (nx 8 ls r h)) Q := G_unf rfl rfl
theorem g114_8 : G d 114 8 ls st h Q ↔ GN d 114 8 ls h (ldR ls 0 fun a => nx 9 ls (.ref a :: st) h) Q := G_unf rfl rfl
theorem g114_9 : G d 114 9 ls st h Q ↔ GN d 114 9 ls h (ldI ls 2 fun x => nx 10 ls (.int x :: st) h) Q := G_unf rfl rfl
theorem g114_10 : G d 114 10 ls st h Q ↔ GN d 114 10 ls h (pA 1 st fun as r => pR r fun a r => ck (r.length ≤ 4 ∧ arr h a 8) (cll 141 (.ref a :: as) r)) Q := G_unf rfl rfl
theorem g114_13 : G d 114 13 ls st h Q ↔ GN d 114 13 ls h (pI st fun x r => br (x = 0) (nx 28 ls r h) (nx 16 ls r h)) Q := G_unf rfl rfl
theorem g114_16 : G d 114 16 ls st h Q ↔ GN d 114 16 ls h (ldR ls 0 fun a => nx 17 ls (.ref a :: st) h) Q := G_unf rfl rfl
theorem g114_17 : G d 114 17 ls st h Q ↔ GN d 114 17 ls h (pR st fun a r => ck (arr h a 8) (nx 20 ls (rv (hR h a 6) :: r) h)) Q := G_unf rfl rfl
theorem g114_20 : G d 114 20 ls st h Q ↔ GN d 114 20 ls h (ldI ls 1 fun x => nx 21 ls (.int x :: st) h) Q := G_unf rfl rfl
theorem g114_21 : G d 114 21 ls st h Q ↔ GN d 114 21 ls h (ldI ls 2 fun x => nx 22 ls (.int x :: st) h) Q := G_unf rfl rfl
theorem g114_22 : G d 114 22 ls st h Q ↔ GN d 114 22 ls h (pA 2 st fun as r => pR r fun a r => ck (r.length ≤ 4 ∧ arr h a 6) (cll 88 (.ref a :: as) r)) Q := G_unf rfl rfl
theorem g114_25 : G d 114 25 ls st h Q ↔ GN d 114 25 ls h (pI st fun x r => br (¬ x = 0) (nx 30 ls r h) (nx 28 ls r h)) Q := G_unf rfl rfl
theorem g114_28 : G d 114 28 ls st h Q ↔ GN d 114 28 ls h (nx 29 ls (.int (-1) :: st) h) Q := G_unf rfl rfl
theorem g114_29 : G d 114 29 ls st h Q ↔ GN d 114 29 ls h (pIe st fun x => rtn (some (.int x))) Q := G_unf rfl rfl
theorem g114_30 : G d 114 30 ls st h Q ↔ GN d 114 30 ls h (ldR ls 0 fun a => nx 31 ls (.ref a :: st) h) Q := G_unf rfl rfl
theorem g114_31 : G d 114 31 ls st h Q ↔ GN d 114 31 ls h (pR st fun a r => ck (arr h a 8) (nx 34 ls (rv (hR h a 6) :: r) h)) Q := G_unf rfl rfl
theorem g114_34 : G d 114 34 ls st h Q ↔ GN d 114 34 ls h (pR st fun a r => ck (arr h a 6) (nx 37 ls (rv (hR h a 3) :: r) h)) Q := G_unf rfl rfl
theorem g114_37 : G d 114 37 ls st h Q ↔ GN d 114 37 ls h (ldI ls 1 fun x => nx 38 ls (.int x :: st) h) Q := G_unf rfl rfl
theorem g114_38 : G d 114 38 ls st h Q ↔ GN d 114 38 ls h (nx 40 ls (.int (nI 12) :: st) h) Q := G_unf rfl rfl
theorem g114_40 : G d 114 40 ls st h Q ↔ GN d 114 40 ls h (pII st fun x y r => nx 41 ls (.int (x * y) :: r) h) Q := G_unf rfl rfl
theorem g114_41 : G d 114 41 ls st h Q ↔ GN d 114 41 ls h (ldI ls 2 fun x => nx 42 ls (.int x :: st) h) Q := G_unf rfl rfl
theorem g114_42 : G d 114 42 ls st h Q ↔ GN d 114 42 ls h (pII st fun x y r => nx 43 ls (.int (x + y) :: r) h) Q := G_unf rfl rfl
theorem g114_43 : G d 114 43 ls st h Q ↔ GN d 114 43 ls h (pRI st fun a i r => br (a = 1000003) (ck (inb i (hS h).1) (nx 44 ls (.int ((hS h).2 i.toNatClampNeg) :: r) h)) (ck (arr h a 10 ∧ inb i (hLn h a)) (nx 44 ls (.int (hI h a i.toNatClampNeg) :: r) h))) Q := G_unf rfl rfl
theorem g114_44 : G d 114 44 ls st h Q ↔ GN d 114 44 ls h (pIe st fun x => rtn (some (.int x))) Q := G_unf rfl rfl
theorem g115_0 : G d 115 0 ls st h Q ↔ GN d 115 0 ls h (ldR ls 0 fun a => nx 1 ls (.ref a :: st) h) Q := G_unf rfl rfl
theorem g115_1 : G d 115 1 ls st h Q ↔ GN d 115 1 ls h (ldI ls 1 fun x => nx 2 ls (.int x :: st) h) Q := G_unf rfl rfl
theorem g115_2 : G d 115 2 ls st h Q ↔ GN d 115 2 ls h (pA 1 st fun as r => pR r fun a r => ck (r.length ≤ 4 ∧ arr h a 8) (cll 143 (.ref a :: as) r)) Q := G_unf rfl rfl
theorem g115_5 : G d 115 5 ls st h Q ↔ GN d 115 5 ls h (pI st fun x r => br (x = 0) (nx 27 ls r h) (nx 8 ls r h)) Q := G_unf rfl rfl
theorem g115_8 : G d 115 8 ls st h Q ↔ GN d 115 8 ls h (ldR ls 0 fun a => nx 9 ls (.ref a :: st) h) Q := G_unf rfl rfl
theorem g115_9 : G d 115 9 ls st h Q ↔ GN d 115 9 ls h (ldI ls 2 fun x => nx 10 ls (.int x :: st) h) Q := G_unf rfl rfl
theorem g115_10 : G d 115 10 ls st h Q ↔ GN d 115 10 ls h (pA 1 st fun as r => pR r fun a r => ck (r.length ≤ 4 ∧ arr h a 8) (cll 141 (.ref a :: as) r)) Q := G_unf rfl rfl
theorem g115_13 : G d 115 13 ls st h Q ↔ GN d 115 13 ls h (pI st fun x r => br (x = 0) (nx 27 ls r h) (nx 16 ls r h)) Q := G_unf rfl rfl
theorem g115_16 : G d 115 16 ls st h Q ↔ GN d 115 16 ls h (ldI ls 3 fun x => nx 17 ls (.int x :: st) h) Q := G_unf rfl rfl
theorem g115_17 : G d 115 17 ls st h Q ↔ GN d 115 17 ls h (nx 18 ls (.int (nI 1) :: st) h) Q := G_unf rfl rfl
theorem g115_18 : G d 115 18 ls st h Q ↔ GN d 115 18 ls h (pII st fun x y r => br (x < y) (nx 27 ls r h) (nx 21 ls r h)) Q := G_unf rfl rfl
theorem g115_21 : G d 115 21 ls st h Q ↔ GN d 115 21 ls h (ldI ls 3 fun x => nx 22 ls (.int x :: st) h) Q := G_unf rfl rfl
theorem g115_22 : G d 115 22 ls st h Q ↔ GN d 115 22 ls h (nx 24 ls (.int (nI 99) :: st) h) Q := G_unf rfl rfl
theorem g115_24 : G d 115 24 ls st h Q ↔ GN d 115 24 ls h (pII st fun x y r => br (x ≤ y) (nx 29 ls r h) (nx 27 ls r h)) Q := G_unf rfl rfl
theorem g115_27 : G d 115 27 ls st h Q ↔ GN d 115 27 ls h (nx 28 ls (.int (-1) :: st) h) Q := G_unf rfl rfl
theorem g115_28 : G d 115 28 ls st h Q ↔ GN d 115 28 ls h (pIe st fun x => rtn (some (.int x))) Q := G_unf rfl rfl
theorem g115_29 : G d 115 29 ls st h Q ↔ GN d 115 29 ls h (ldR ls 0 fun a => nx 30 ls (.ref a :: st) h) Q := G_unf rfl rfl
theorem g115_30 : G d 115 30 ls st h Q ↔ GN d 115 30 ls h (pR st fun a r => ck (arr h a 8) (nx 33 ls (rv (hR h a 2) :: r) h)) Q := G_unf rfl rfl
theorem g115_33 : G d 115 33 ls st h Q ↔ GN d 115 33 ls h (ldR ls 0 fun a => nx 34 ls (.ref a :: st) h) Q := G_unf rfl rfl
theorem g115_34 : G d 115 34 ls st h Q ↔ GN d 115 34 ls h (pR st fun a r => ck (arr h a 8) (nx 37 ls (rv (hR h a 6) :: r) h)) Q := G_unf rfl rfl
theorem g115_37 : G d 115 37 ls st h Q ↔ GN d 115 37 ls h (ldI ls 1 fun x => nx 38 ls (.int x :: st) h) Q := G_unf rfl rfl
theorem g115_38 : G d 115 38 ls st h Q ↔ GN d 115 38 ls h (ldI ls 2 fun x => nx 39 ls (.int x :: st) h) Q := G_unf rfl rfl
theorem g115_39 : G d 115 39 ls st h Q ↔ GN d 115 39 ls h (ldI ls 3 fun x => nx 40 ls (.int x :: st) h) Q := G_unf rfl rfl
theorem g115_40 : G d 115 40 ls st h Q ↔ GN d 115 40 ls h (pA 4 st fun as r => pR r fun a r => ck (r.length ≤ 4 ∧ arr h a 1) (cll 20 (.ref a :: as) r)) Q := G_unf rfl rfl
theorem g115_43 : G d 115 43 ls st h Q ↔ GN d 115 43 ls h (pIe st fun x => rtn (some (.int x))) Q := G_unf rfl rfl
theorem g116_0 : G d 116 0 ls st h Q ↔ GN d 116 0 ls h (ldR ls 0 fun a => nx 1 ls (.ref a :: st) h) Q := G_unf rfl rfl
theorem g116_1 : G d 116 1 ls st h Q ↔ GN d 116 1 ls h (ldI ls 1 fun x => nx 2 ls (.int x :: st) h) Q := G_unf rfl rfl
theorem g116_2 : G d 116 2 ls st h Q ↔ GN d 116 2 ls h (ldI ls 2 fun x => nx 3 ls (.int x :: st) h) Q := G_unf rfl rfl
theorem g116_3 : G d 116 3 ls st h Q ↔ GN d 116 3 ls h (ldI ls 3 fun x => nx 4 ls (.int x :: st) h) Q := G_unf rfl rfl
theorem g116_4 : G d 116 4 ls st h Q ↔ GN d 116 4 ls h (pA 3 st fun as r => pR r fun a r => ck (r.length ≤ 4 ∧ arr h a 8) (cll 146 (.ref a :: as) r)) Q := G_unf rfl rfl
theorem g116_7 : G d 116 7 ls st h Q ↔ GN d 116 7 ls h (pI st fun x r => br (¬ x = 0) (nx 16 ls r h) (nx 10 ls r h)) Q := G_unf rfl rfl
theorem g116_10 : G d 116 10 ls st h Q ↔ GN d 116 10 ls h (ldR ls 0 fun a => nx 11 ls (.ref a :: st) h) Q := G_unf rfl rfl
theorem g116_11 : G d 116 11 ls st h Q ↔ GN d 116 11 ls h (nx 12 ls (.int (nI 2) :: st) h) Q := G_unf rfl rfl
theorem g116_12 : G d 116 12 ls st h Q ↔ GN d 116 12 ls h (pA 1 st fun as r => pR r fun a r => ck (r.length ≤ 4 ∧ arr h a 8) (cll 139 (.ref a :: as) r)) Q := G_unf rfl rfl
theorem g116_15 : G d 116 15 ls st h Q ↔ GN d 116 15 ls h (pIe st fun x => rtn (some (.int x))) Q := G_unf rfl rfl
theorem g116_16 : G d 116 16 ls st h Q ↔ GN d 116 16 ls h (ldR ls 0 fun a => nx 17 ls (.ref a :: st) h) Q := G_unf rfl rfl
theorem g116_17 : G d 116 17 ls st h Q ↔ GN d 116 17 ls h (pR st fun a r => ck (arr h a 8) (nx 20 ls (rv (hR h a 2) :: r) h)) Q := G_unf rfl rfl
theorem g116_20 : G d 116 20 ls st h Q ↔ GN d 116 20 ls h (ldR ls 0 fun a => nx 21 ls (.ref a :: st) h) Q := G_unf rfl rfl
theorem g116_21 : G d 116 21 ls st h Q ↔ GN d 116 21 ls h (pR st fun a r => ck (arr h a 8) (nx 24 ls (rv (hR h a 6) :: r) h)) Q := G_unf rfl rfl
theorem g116_24 : G d 116 24 ls st h Q ↔ GN d 116 24 ls h (ldI ls 1 fun x => nx 25 ls (.int x :: st) h) Q := G_unf rfl rfl
theorem g116_25 : G d 116 25 ls st h Q ↔ GN d 116 25 ls h (ldI ls 2 fun x => nx 26 ls (.int x :: st) h) Q := G_unf rfl rfl
theorem g116_26 : G d 116 26 ls st h Q ↔ GN d 116 26 ls h (ldI ls 3 fun x => nx 27 ls (.int x :: st) h) Q := G_unf rfl rfl
theorem g116_27 : G d 116 27 ls st h Q ↔ GN d 116 27 ls h (pA 4 st fun as r => pR r fun a r => ck (r.length ≤ 4 ∧ arr h a 1) (cll 20 (.ref a :: as) r)) Q := G_unf rfl rfl
theorem g116_30 : G d 116 30 ls st h Q ↔ GN d 116 30 ls h (pI st fun x r => ck (4 < ls.length) (nx 32 (st1 ls 4 (.int x)) r h)) Q := G_unf rfl rfl
theorem g116_32 : G d 116 32 ls st h Q ↔ GN d 116 32 ls h (ldI ls 4 fun x => nx 34 ls (.int x :: st) h) Q := G_unf rfl rfl
theorem g116_34 : G d 116 34 ls st h Q ↔ GN d 116 34 ls h (ldR ls 0 fun a => nx 35 ls (.ref a :: st) h) Q := G_unf rfl rfl
theorem g116_35 : G d 116 35 ls st h Q ↔ GN d 116 35 ls h (pR st fun a r => ck (arr h a 8) (nx 38 ls (rv (hR h a 6) :: r) h)) Q := G_unf rfl rfl
theorem g116_38 : G d 116 38 ls st h Q ↔ GN d 116 38 ls h (pR st fun a r => ck (arr h a 6) (nx 41 ls (rv (hR h a 2) :: r) h)) Q := G_unf rfl rfl
theorem g116_41 : G d 116 41 ls st h Q ↔ GN d 116 41 ls h (ldI ls 1 fun x => nx 42 ls (.int x :: st) h) Q := G_unf rfl rfl
theorem g116_42 : G d 116 42 ls st h Q ↔ GN d 116 42 ls h (pRI st fun a i r => br (a = 1000003) (ck (inb i (hS h).1) (nx 43 ls (.int ((hS h).2 i.toNatClampNeg) :: r) h)) (ck (arr h a 10 ∧ inb i (hLn h a)) (nx 43 ls (.int (hI h a i.toNatClampNeg) :: r) h))) Q := G_unf rfl rfl
theorem g116_43 : G d 116 43 ls st h Q ↔ GN d 116 43 ls h (pII st fun x y r => br (x ≤ y) (nx 52 ls r h) (nx 46 ls r h)) Q := G_unf rfl rfl
theorem g116_46 : G d 116 46 ls st h Q ↔ GN d 116 46 ls h (ldR ls 0 fun a => nx 47 ls (.ref a :: st) h) Q := G_unf rfl rfl
theorem g116_47 : G d 116 47 ls st h Q ↔ GN d 116 47 ls h (nx 48 ls (.int (nI 2) :: st) h) Q := G_unf rfl rfl
theorem g116_48 : G d 116 48 ls st h Q ↔ GN d 116 48 ls h (pA 1 st fun as r => pR r fun a r => ck (r.length ≤ 4 ∧ arr h a 8) (cll 139 (.ref a :: as) r)) Q := G_unf rfl rfl
theorem g116_51 : G d 116 51 ls st h Q ↔ GN d 116 51 ls h (pIe st fun x => rtn (some (.int x))) Q := G_unf rfl rfl
theorem g116_52 : G d 116 52 ls st h Q ↔ GN d 116 52 ls h (ldR ls 0 fun a => nx 53 ls (.ref a :: st) h) Q := G_unf rfl rfl
theorem g116_53 : G d 116 53 ls st h Q ↔ GN d 116 53 ls h (pR st fun a r => ck (arr h a 8) (nx 56 ls (rv (hR h a 5) :: r) h)) Q := G_unf rfl rfl
theorem g116_56 : G d 116 56 ls st h Q ↔ GN d 116 56 ls h (ldR ls 0 fun a => nx 57 ls (.ref a :: st) h) Q := G_unf rfl rfl
theorem g116_57 : G d 116 57 ls st h Q ↔ GN d 116 57 ls h (pR st fun a r => ck (arr h a 8) (nx 60 ls (rv (hR h a 6) :: r) h)) Q := G_unf rfl rfl
theorem g116_60 : G d 116 60 ls st h Q ↔ GN d 116 60 ls h (pA 1 st fun as r => pR r fun a r => ck (r.length ≤ 4 ∧ arr h a 2) (cll 24 (.ref a :: as) r)) Q := G_unf rfl rfl
theorem g116_63 : G d 116 63 ls st h Q ↔ GN d 116 63 ls h (ldR ls 0 fun a => nx 64 ls (.ref a :: st) h) Q := G_unf rfl rfl
theorem g116_64 : G d 116 64 ls st h Q ↔ GN d 116 64 ls h (pR st fun a r => ck (arr h a 8) (nx 67 ls (rv (hR h a 6) :: r) h)) Q := G_unf rfl rfl
theorem g116_67 : G d 116 67 ls st h Q ↔ GN d 116 67 ls h (ldI ls 1 fun x => nx 68 ls (.int x :: st) h) Q := G_unf rfl rfl
theorem g116_68 : G d 116 68 ls st h Q ↔ GN d 116 68 ls h (ldI ls 2 fun x => nx 69 ls (.int x :: st) h) Q := G_unf rfl rfl
theorem g116_69 : G d 116 69 ls st h Q ↔ GN d 116 69 ls h (ldI ls 3 fun x => nx 70 ls (.int x :: st) h) Q := G_unf rfl rfl
theorem g116_70 : G d 116 70 ls st h Q ↔ GN d 116 70 ls h (ldI ls 4 fun x => nx 72 ls (.int x :: st) h) Q := G_unf rfl rfl
theorem g116_72 : G d 116 72 ls st h Q ↔ GN d 116 72 ls h (pA 4 st fun as r => pR r fun a r => ck (r.length ≤ 4 ∧ arr h a 6) (cll 94 (.ref a :: as) r)) Q := G_unf rfl rfl
theorem g116_75 : G d 116 75 ls st h Q ↔ GN d 116 75 ls h (ldI ls 4 fun x => nx 77 ls (.int x :: st) h) Q := G_unf rfl rfl
theorem g116_77 : G d 116 77 ls st h Q ↔ GN d 116 77 ls h (pIe st fun x => rtn (some (.int x))) Q := G_unf rfl rfl
theorem g117_0 : G d 117 0 ls st h Q ↔ GN d 117 0 ls h (ldR ls 0 fun a => nx 1 ls (.ref a :: st) h) Q := G_unf rfl rfl
theorem g117_1 : G d 117 1 ls st h Q ↔ GN d 117 1 ls h (ldI ls 1 fun x => nx 2 ls (.int x :: st) h) Q := G_unf rfl rfl
theorem g117_2 : G d 117 2 ls st h Q ↔ GN d 117 2 ls h (pA 1 st fun as r => pR r fun a r => ck (r.length ≤ 4 ∧ arr h a 8) (cll 143 (.ref a :: as) r)) Q := G_unf rfl rfl
theorem g117_5 : G d 117 5 ls st h Q ↔ GN d 117 5 ls h (pI st fun x r => br (x = 0) (nx 28 ls r h) (nx 8 ls r h)) Q := G_unf rfl rfl
theorem g117_8 : G d 117 8 ls st h Q ↔ GN d 117 8 ls h (ldR ls 0 fun a => nx 9 ls (.ref a :: st) h) Q := G_unf rfl rfl
theorem g117_9 : G d 117 9 ls st h Q ↔ GN d 117 9 ls h (ldI ls 2 fun x => nx 10 ls (.int x :: st) h) Q := G_unf rfl rfl
theorem g117_10 : G d 117 10 ls st h Q ↔ GN d 117 10 ls h (pA 1 st fun as r => pR r fun a r => ck (r.length ≤ 4 ∧ arr h a 8) (cll 141 (.ref a :: as) r)) Q := G_unf rfl rfl
theorem g117_13 : G d 117 13 ls st h Q ↔ GN d 117 13 ls h (pI st fun x r => br (x = 0) (nx 28 ls r h) (nx 16 ls r h)) Q := G_unf rfl rfl
theorem g117_16 : G d 117 16 ls st h Q ↔ GN d 117 16 ls h (ldR ls 0 fun a => nx 17 ls (.ref a :: st) h) Q := G_unf rfl rfl
theorem g117_17 : G d 117 17 ls st h Q ↔ GN d 117 17 ls h (pR st fun a r => ck (arr h a 8) (nx 20 ls (rv (hR h a 6) :: r) h)) Q := G_unf rfl rfl
theorem g117_20 : G d 117 20 ls st h Q ↔ GN d 117 20 ls h (ldI ls 1 fun x => nx 21 ls (.int x :: st) h) Q := G_unf rfl rfl
theorem g117_21 : G d 117 21 ls st h Q ↔ GN d 117 21 ls h (ldI ls 2 fun x => nx 22 ls (.int x :: st) h) Q := G_unf rfl rfl
theorem g117_22 : G d 117 22 ls st h Q ↔ GN d 117 22 ls h (pA 2 st fun as r => pR r fun a r => ck (r.length ≤ 4 ∧ arr h a 6) (cll 88 (.ref a :: as) r)) Q := G_unf rfl rfl
theorem g117_25 : G d 117 25 ls st h Q ↔ GN d 117 25 ls h (pI st fun x r => br (¬ x = 0) (nx 36 ls r h) (nx 28 ls r h)) Q := G_unf rfl rfl
theorem g117_28 : G d 117 28 ls st h Q ↔ GN d 117 28 ls h (ldR ls 0 fun a => nx 29 ls (.ref a :: st) h) Q := G_unf rfl rfl
theorem g117_29 : G d 117 29 ls st h Q ↔ GN d 117 29 ls h (nx 30 ls (.int (nI 2) :: st) h) Q := G_unf rfl rfl
theorem g117_30 : G d 117 30 ls st h Q ↔ GN d 117 30 ls h (pA 1 st fun as r => pR r fun a r => ck (r.length ≤ 4 ∧ arr h a 8) (cll 139 (.ref a :: as) r)) Q := G_unf rfl rfl
theorem g117_33 : G d 117 33 ls st h Q ↔ GN d 117 33 ls h (p1 st fun _ r => nx 34 ls r h) Q := G_unf rfl rfl
theorem g117_34 : G d 117 34 ls st h Q ↔ GN d 117 34 ls h (nx 35 ls (.int (nI 0) :: st) h) Q := G_unf rfl rfl
theorem g117_35 : G d 117 35 ls st h Q ↔ GN d 117 35 ls h (pIe st fun x => ck (x = 0 ∨ x = 1) (rtn (some (.int x)))) Q := G_unf rfl rfl
theorem g117_36 : G d 117 36 ls st h Q ↔ GN d 117 36 ls h (ldR ls 0 fun a => nx 37 ls (.ref a :: st) h) Q := G_unf rfl rfl
theorem g117_37 : G d 117 37 ls st h Q ↔ GN d 117 37 ls h (pR st fun a r => ck (arr h a 8) (nx 40 ls (rv (hR h a 5) :: r) h)) Q := G_unf rfl rfl
theorem g117_40 : G d 117 40 ls st h Q ↔ GN d 117 40 ls h (ldR ls 0 fun a => nx 41 ls (.ref a :: st) h) Q := G_unf rfl rfl
theorem g117_41 : G d 117 41 ls st h Q ↔ GN d 117 41 ls h (pR st fun a r => ck (arr h a 8) (nx 44 ls (rv (hR h a 6) :: r) h)) Q := G_unf rfl rfl
theorem g117_44 : G d 117 44 ls st h Q ↔ GN d 117 44 ls h (pA 1 st fun as r => pR r fun a r => ck (r.length ≤ 4 ∧ arr h a 2) (cll 24 (.ref a :: as) r)) Q := G_unf rfl rfl
theorem g117_47 : G d 117 47 ls st h Q ↔ GN d 117 47 ls h (ldR ls 0 fun a => nx 48 ls (.ref a :: st) h) Q := G_unf rfl rfl
theorem g117_48 : G d 117 48 ls st h Q ↔ GN d 117 48 ls h (pR st fun a r => ck (arr h a 8) (nx 51 ls (rv (hR h a 6) :: r) h)) Q := G_unf rfl rfl
theorem g117_51 : G d 117 51 ls st h Q ↔ GN d 117 51 ls h (ldI ls 1 fun x => nx 52 ls (.int x :: st) h) Q := G_unf rfl rfl
theorem g117_52 : G d 117 52 ls st h Q ↔ GN d 117 52 ls h (ldI ls 2 fun x => nx 53 ls (.int x :: st) h) Q := G_unf rfl rfl
theorem g117_53 : G d 117 53 ls st h Q ↔ GN d 117 53 ls h (pA 2 st fun as r => pR r fun a r => ck (r.length ≤ 4 ∧ arr h a 6) (cll 95 (.ref a :: as) r)) Q := G_unf rfl rfl
theorem g117_56 : G d 117 56 ls st h Q ↔ GN d 117 56 ls h (nx 57 ls (.int (nI 1) :: st) h) Q := G_unf rfl rfl
theorem g117_57 : G d 117 57 ls st h Q ↔ GN d 117 57 ls h (pIe st fun x => ck (x = 0 ∨ x = 1) (rtn (some (.int x)))) Q := G_unf rfl rfl
theorem g118_0 : G d 118 0 ls st h Q ↔ GN d 118 0 ls h (ldR ls 0 fun a => nx 1 ls (.ref a :: st) h) Q := G_unf rfl rfl
theorem g118_1 : G d 118 1 ls st h Q ↔ GN d 118 1 ls h (ldI ls 1 fun x => nx 2 ls (.int x :: st) h) Q := G_unf rfl rfl
theorem g118_2 : G d 118 2 ls st h Q ↔ GN d 118 2 ls h (pA 1 st fun as r => pR r fun a r => ck (r.length ≤ 4 ∧ arr h a 8) (cll 143 (.ref a :: as) r)) Q := G_unf rfl rfl
theorem g118_5 : G d 118 5 ls st h Q ↔ GN d 118 5 ls h (pI st fun x r => br (x = 0) (nx 28 ls r h) (nx 8 ls r h)) Q := G_unf rfl rfl
theorem g118_8 : G d 118 8 ls st h Q ↔ GN d 118 8 ls h (ldR ls 0 fun a => nx 9 ls (.ref a :: st) h) Q := G_unf rfl rfl
theorem g118_9 : G d 118 9 ls st h Q ↔ GN d 118 9 ls h (ldI ls 2 fun x => nx 10 ls (.int x :: st) h) Q := G_unf rfl rfl
theorem g118_10 : G d 118 10 ls st h Q ↔ GN d 118 10 ls h (pA 1 st fun as r => pR r fun a r => ck (r.length ≤ 4 ∧ arr h a 8) (cll 141 (.ref a :: as) r)) Q := G_unf rfl rfl
theorem g118_13 : G d 118 13 ls st h Q ↔ GN d 118 13 ls h (pI st fun x r => br (x = 0) (nx 28 ls r h) (nx 16 ls r h)) Q := G_unf rfl rfl
theorem g118_16 : G d 118 16 ls st h Q ↔ GN d 118 16 ls h (ldR ls 0 fun a => nx 17 ls (.ref a :: st) h) Q := G_unf rfl rfl
theorem g118_17 : G d 118 17 ls st h Q ↔ GN d 118 17 ls h (pR st fun a r => ck (arr h a 8) (nx 20 ls (rv (hR h a 6) :: r) h)) Q := G_unf rfl rfl
theorem g118_20 : G d 118 20 ls st h Q ↔ GN d 118 20 ls h (ldI ls 1 fun x => nx 21 ls (.int x :: st) h) Q := G_unf rfl rfl
theorem g118_21 : G d 118 21 ls st h Q ↔ GN d 118 21 ls h (ldI ls 2 fun x => nx 22 ls (.int x :: st) h) Q := G_unf rfl rfl
theorem g118_22 : G d 118 22 ls st h Q ↔ GN d 118 22 ls h (pA 2 st fun as r => pR r fun a r => ck (r.length ≤ 4 ∧ arr h a 6) (cll 89 (.ref a :: as) r)) Q := G_unf rfl rfl
theorem g118_25 : G d 118 25 ls st h Q ↔ GN d 118 25 ls h (pI st fun x r => br (¬ x = 0) (nx 34 ls r h) (nx 28 ls r h)) Q := G_unf rfl rfl
theorem g118_28 : G d 118 28 ls st h Q ↔ GN d 118 28 ls h (ldR ls 0 fun a => nx 29 ls (.ref a :: st) h) Q := G_unf rfl rfl
theorem g118_29 : G d 118 29 ls st h Q ↔ GN d 118 29 ls h (nx 30 ls (.int (nI 2) :: st) h) Q := G_unf rfl rfl
theorem g118_30 : G d 118 30 ls st h Q ↔ GN d 118 30 ls h (pA 1 st fun as r => pR r fun a r => ck (r.length ≤ 4 ∧ arr h a 8) (cll 139 (.ref a :: as) r)) Q := G_unf rfl rfl
theorem g118_33 : G d 118 33 ls st h Q ↔ GN d 118 33 ls h (pIe st fun x => rtn (some (.int x))) Q := G_unf rfl rfl
theorem g118_34 : G d 118 34 ls st h Q ↔ GN d 118 34 ls h (ldR ls 0 fun a => nx 35 ls (.ref a :: st) h) Q := G_unf rfl rfl
theorem g118_35 : G d 118 35 ls st h Q ↔ GN d 118 35 ls h (pR st fun a r => ck (arr h a 8) (nx 38 ls (rv (hR h a 5) :: r) h)) Q := G_unf rfl rfl
theorem g118_38 : G d 118 38 ls st h Q ↔ GN d 118 38 ls h (ldR ls 0 fun a => nx 39 ls (.ref a :: st) h) Q := G_unf rfl rfl
theorem g118_39 : G d 118 39 ls st h Q ↔ GN d 118 39 ls h (pR st fun a r => ck (arr h a 8) (nx 42 ls (rv (hR h a 6) :: r) h)) Q := G_unf rfl rfl
theorem g118_42 : G d 118 42 ls st h Q ↔ GN d 118 42 ls h (pA 1 st fun as r => pR r fun a r => ck (r.length ≤ 4 ∧ arr h a 2) (cll 24 (.ref a :: as) r)) Q := G_unf rfl rfl
theorem g118_45 : G d 118 45 ls st h Q ↔ GN d 118 45 ls h (ldR ls 0 fun a => nx 46 ls (.ref a :: st) h) Q := G_unf rfl rfl
theorem g118_46 : G d 118 46 ls st h Q ↔ GN d 118 46 ls h (pR st fun a r => ck (arr h a 8) (nx 49 ls (rv (hR h a 2) :: r) h)) Q := G_unf rfl rfl
theorem g118_49 : G d 118 49 ls st h Q ↔ GN d 118 49 ls h (ldR ls 0 fun a => nx 50 ls (.ref a :: st) h) Q := G_unf rfl rfl
theorem g118_50 : G d 118 50 ls st h Q ↔ GN d 118 50 ls h (pR st fun a r => ck (arr h a 8) (nx 53 ls (rv (hR h a 6) :: r) h)) Q := G_unf rfl rfl
theorem g118_53 : G d 118 53 ls st h Q ↔ GN d 118 53 ls h (ldI ls 1 fun x => nx 54 ls (.int x :: st) h) Q := G_unf rfl rfl
theorem g118_54 : G d 118 54 ls st h Q ↔ GN d 118 54 ls h (ldI ls 2 fun x => nx 55 ls (.int x :: st) h) Q := G_unf rfl rfl
theorem g118_55 : G d 118 55 ls st h Q ↔ GN d 118 55 ls h (pA 3 st fun as r => pR r fun a r => ck (r.length ≤ 4 ∧ arr h a 1) (cll 16 (.ref a :: as) r)) Q := G_unf rfl rfl
theorem g118_58 : G d 118 58 ls st h Q ↔ GN d 118 58 ls h (pIe st fun x => rtn (some (.int x))) Q := G_unf rfl rfl
theorem g119_0 : G d 119 0 ls st h Q ↔ GN d 119 0 ls h (ldR ls 0 fun a => nx 1 ls (.ref a :: st) h) Q := G_unf rfl rfl
theorem g119_1 : G d 119 1 ls st h Q ↔ GN d 119 1 ls h (ldI ls 1 fun x => nx 2 ls (.int x :: st) h) Q := G_unf rfl rfl
theorem g119_2 : G d 119 2 ls st h Q ↔ GN d 119 2 ls h (pA 1 st fun as r => pR r fun a r => ck (r.length ≤ 4 ∧ arr h a 8) (cll 145 (.ref a :: as) r)) Q := G_unf rfl rfl
theorem g119_5 : G d 119 5 ls st h Q ↔ GN d 119 5 ls h (pI st fun x r => br (¬ x = 0) (nx 14 ls r h) (nx 8 ls r h)) Q := G_unf rfl rfl
theorem g119_8 : G d 119 8 ls st h Q ↔ GN d 119 8 ls h (ldR ls 0 fun a => nx 9 ls (.ref a :: st) h) Q := G_unf rfl rfl
theorem g119_9 : G d 119 9 ls st h Q ↔ GN d 119 9 ls h (nx 10 ls (.int (nI 3) :: st) h) Q := G_unf rfl rfl
theorem g119_10 : G d 119 10 ls st h Q ↔ GN d 119 10 ls h (pA 1 st fun as r => pR r fun a r => ck (r.length ≤ 4 ∧ arr h a 8) (cll 139 (.ref a :: as) r)) Q := G_unf rfl rfl
theorem g119_13 : G d 119 13 ls st h Q ↔ GN d 119 13 ls h (pIe st fun x => rtn (some (.int x))) Q := G_unf rfl rfl
theorem g119_14 : G d 119 14 ls st h Q ↔ GN d 119 14 ls h (ldR ls 0 fun a => nx 15 ls (.ref a :: st) h) Q := G_unf rfl rfl
theorem g119_15 : G d 119 15 ls st h Q ↔ GN d 119 15 ls h (pR st fun a r => ck (arr h a 8) (nx 18 ls (rv (hR h a 5) :: r) h)) Q := G_unf rfl rfl
theorem g119_18 : G d 119 18 ls st h Q ↔ GN d 119 18 ls h (ldR ls 0 fun a => nx 19 ls (.ref a :: st) h) Q := G_unf rfl rfl
theorem g119_19 : G d 119 19 ls st h Q ↔ GN d 119 19 ls h (pR st fun a r => ck (arr h a 8) (nx 22 ls (rv (hR h a 6) :: r) h)) Q := G_unf rfl rfl
theorem g119_22 : G d 119 22 ls st h Q ↔ GN d 119 22 ls h (pA 1 st fun as r => pR r fun a r => ck (r.length ≤ 4 ∧ arr h a 2) (cll 24 (.ref a :: as) r)) Q := G_unf rfl rfl
theorem g119_25 : G d 119 25 ls st h Q ↔ GN d 119 25 ls h (ldR ls 0 fun a => nx 26 ls (.ref a :: st) h) Q := G_unf rfl rfl
theorem g119_26 : G d 119 26 ls st h Q ↔ GN d 119 26 ls h (pR st fun a r => ck (arr h a 8) (nx 29 ls (rv (hR h a 6) :: r) h)) Q := G_unf rfl rfl
theorem g119_29 : G d 119 29 ls st h Q ↔ GN d 119 29 ls h (pA 0 st fun as r => pR r fun a r => ck (r.length ≤ 4 ∧ arr h a 6) (cll 86 (.ref a :: as) r)) Q := G_unf rfl rfl
theorem g119_32 : G d 119 32 ls st h Q ↔ GN d 119 32 ls h (nx 33 ls (.int (nI 0) :: st) h) Q := G_unf rfl rfl
theorem g119_33 : G d 119 33 ls st h Q ↔ GN d 119 33 ls h (pI st fun x r => ck (2 < ls.length) (nx 34 (st1 ls 2 (.int x)) r h)) Q := G_unf rfl rfl
theorem g119_34 : G d 119 34 ls st h Q ↔ GN d 119 34 ls h (ldI ls 2 fun x => nx 35 ls (.int x :: st) h) Q := G_unf rfl rfl
theorem g119_35 : G d 119 35 ls st h Q ↔ GN d 119 35 ls h (ldI ls 1 fun x => nx 36 ls (.int x :: st) h) Q := G_unf rfl rfl
theorem g119_36 : G d 119 36 ls st h Q ↔ GN d 119 36 ls h (pII st fun x y r => br (y ≤ x) (nx 56 ls r h) (nx 39 ls r h)) Q := G_unf rfl rfl
theorem g119_39 : G d 119 39 ls st h Q ↔ GN d 119 39 ls h (ldR ls 0 fun a => nx 40 ls (.ref a :: st) h) Q := G_unf rfl rfl
theorem g119_40 : G d 119 40 ls st h Q ↔ GN d 119 40 ls h (pR st fun a r => ck (arr h a 8) (nx 43 ls (rv (hR h a 2) :: r) h)) Q := G_unf rfl rfl
theorem g119_43 : G d 119 43 ls st h Q ↔ GN d 119 43 ls h (ldR ls 0 fun a => nx 44 ls (.ref a :: st) h) Q := G_unf rfl rfl
theorem g119_44 : G d 119 44 ls st h Q ↔ GN d 119 44 ls h (pR st fun a r => ck (arr h a 8) (nx 47 ls (rv (hR h a 6) :: r) h)) Q := G_unf rfl rfl
theorem g119_47 : G d 119 47 ls st h Q ↔ GN d 119 47 ls h (pA 1 st fun as r => pR r fun a r => ck (r.length ≤ 4 ∧ arr h a 1) (cll 12 (.ref a :: as) r)) Q := G_unf rfl rfl
theorem g119_50 : G d 119 50 ls st h Q ↔ GN d 119 50 ls h (ldI ls 2 fun x => nx 53 (st1 ls 2 (.int (x + (nI 1)))) st h) Q := G_unf rfl rfl
theorem g119_53 : G d 119 53 ls st h Q ↔ GN d 119 53 ls h (nx 34 ls st h) Q := G_unf rfl rfl
theorem g119_56 : G d 119 56 ls st h Q ↔ GN d 119 56 ls h (ldR ls 0 fun a => nx 57 ls (.ref a :: st) h) Q := G_unf rfl rfl
theorem g119_57 : G d 119 57 ls st h Q ↔ GN d 119 57 ls h (pR st fun a r => ck (arr h a 8) (nx 60 ls (rv (hR h a 6) :: r) h)) Q := G_unf rfl rfl
theorem g119_60 : G d 119 60 ls st h Q ↔ GN d 119 60 ls h (pR st fun a r => ck (arr h a 6) (nx 63 ls (.int (hI h a 7) :: r) h)) Q := G_unf rfl rfl
theorem g119_63 : G d 119 63 ls st h Q ↔ GN d 119 63 ls h (pIe st fun x => rtn (some (.int x))) Q := G_unf rfl rfl
theorem g120_0 : G d 120 0 ls st h Q ↔ GN d 120 0 ls h (ldR ls 0 fun a => nx 1 ls (.ref a :: st) h) Q := G_unf rfl rfl
theorem g120_1 : G d 120 1 ls st h Q ↔ GN d 120 1 ls h (ldI ls 1 fun x => nx 2 ls (.int x :: st) h) Q := G_unf rfl rfl
theorem g120_2 : G d 120 2 ls st h Q ↔ GN d 120 2 ls h (pA 1 st fun as r => pR r fun a r => ck (r.length ≤ 4 ∧ arr h a 8) (cll 145 (.ref a :: as) r)) Q := G_unf rfl rfl
theorem g120_5 : G d 120 5 ls st h Q ↔ GN d 120 5 ls h (pI st fun x r => br (¬ x = 0) (nx 14 ls r h) (nx 8 ls r h)) Q := G_unf rfl rfl
theorem g120_8 : G d 120 8 ls st h Q ↔ GN d 120 8 ls h (ldR ls 0 fun a => nx 9 ls (.ref a :: st) h) Q := G_unf rfl rfl
theorem g120_9 : G d 120 9 ls st h Q ↔ GN d 120 9 ls h (nx 10 ls (.int (nI 3) :: st) h) Q := G_unf rfl rfl
theorem g120_10 : G d 120 10 ls st h Q ↔ GN d 120 10 ls h (pA 1 st fun as r => pR r fun a r => ck (r.length ≤ 4 ∧ arr h a 8) (cll 139 (.ref a :: as) r)) Q := G_unf rfl rfl
theorem g120_13 : G d 120 13 ls st h Q ↔ GN d 120 13 ls h (pIe st fun x => rtn (some (.int x))) Q := G_unf rfl rfl
theorem g120_14 : G d 120 14 ls st h Q ↔ GN d 120 14 ls h (ldR ls 0 fun a => nx 15 ls (.ref a :: st) h) Q := G_unf rfl rfl
theorem g120_15 : G d 120 15 ls st h Q ↔ GN d 120 15 ls h (pR st fun a r => ck (arr h a 8) (nx 18 ls (rv (hR h a 5) :: r) h)) Q := G_unf rfl rfl
theorem g120_18 : G d 120 18 ls st h Q ↔ GN d 120 18 ls h (ldR ls 0 fun a => nx 19 ls (.ref a :: st) h) Q := G_unf rfl rfl
theorem g120_19 : G d 120 19 ls st h Q ↔ GN d 120 19 ls h (pR st fun a r => ck (arr h a 8) (nx 22 ls (rv (hR h a 6) :: r) h)) Q := G_unf rfl rfl
theorem g120_22 : G d 120 22 ls st h Q ↔ GN d 120 22 ls h (pA 1 st fun as r => pR r fun a r => ck (r.length ≤ 4 ∧ arr h a 2) (cll 24 (.ref a :: as) r)) Q := G_unf rfl rfl
theorem g120_25 : G d 120 25 ls st h Q ↔ GN d 120 25 ls h (ldR ls 0 fun a => nx 26 ls (.ref a :: st) h) Q := G_unf rfl rfl
theorem g120_26 : G d 120 26 ls st h Q ↔ GN d 120 26 ls h (pR st fun a r => ck (arr h a 8) (nx 29 ls (rv (hR h a 6) :: r) h)) Q := G_unf rfl rfl
theorem g120_29 : G d 120 29 ls st h Q ↔ GN d 120 29 ls h (pA 0 st fun as r => pR r fun a r => ck (r.length ≤ 4 ∧ arr h a 6) (cll 86 (.ref a :: as) r)) Q := G_unf rfl rfl
theorem g120_32 : G d 120 32 ls st h Q ↔ GN d 120 32 ls h (nx 33 ls (.int (nI 0) :: st) h) Q := G_unf rfl rfl
theorem g120_33 : G d 120 33 ls st h Q ↔ GN d 120 33 ls h (pI st fun x r => ck (2 < ls.length) (nx 34 (st1 ls 2 (.int x)) r h)) Q := G_unf rfl rfl
theorem g120_34 : G d 120 34 ls st h Q ↔ GN d 120 34 ls h (ldI ls 2 fun x => nx 35 ls (.int x :: st) h) Q := G_unf rfl rfl
theorem g120_35 : G d 120 35 ls st h Q ↔ GN d 120 35 ls h (ldI ls 1 fun x => nx 36 ls (.int x :: st) h) Q := G_unf rfl rfl
theorem g120_36 : G d 120 36 ls st h Q ↔ GN d 120 36 ls h (pII st fun x y r => br (y ≤ x) (nx 60 ls r h) (nx 39 ls r h)) Q := G_unf rfl rfl
theorem g120_39 : G d 120 39 ls st h Q ↔ GN d 120 39 ls h (ldR ls 0 fun a => nx 40 ls (.ref a :: st) h) Q := G_unf rfl rfl
theorem g120_40 : G d 120 40 ls st h Q ↔ GN d 120 40 ls h (pR st fun a r => ck (arr h a 8) (nx 43 ls (rv (hR h a 2) :: r) h)) Q := G_unf rfl rfl
theorem g120_43 : G d 120 43 ls st h Q ↔ GN d 120 43 ls h (ldR ls 0 fun a => nx 44 ls (.ref a :: st) h) Q := G_unf rfl rfl
theorem g120_44 : G d 120 44 ls st h Q ↔ GN d 120 44 ls h (pR st fun a r => ck (arr h a 8) (nx 47 ls (rv (hR h a 6) :: r) h)) Q := G_unf rfl rfl
theorem g120_47 : G d 120 47 ls st h Q ↔ GN d 120 47 ls h (pA 1 st fun as r => pR r fun a r => ck (r.length ≤ 4 ∧ arr h a 1) (cll 12 (.ref a :: as) r)) Q := G_unf rfl rfl
theorem g120_50 : G d 120 50 ls st h Q ↔ GN d 120 50 ls h (ldR ls 0 fun a => nx 51 ls (.ref a :: st) h) Q := G_unf rfl rfl
theorem g120_51 : G d 120 51 ls st h Q ↔ GN d 120 51 ls h (pA 0 st fun as r => pR r fun a r => ck (r.length ≤ 4 ∧ arr h a 8) (cll 149 (.ref a :: as) r)) Q := G_unf rfl rfl
theorem g120_54 : G d 120 54 ls st h Q ↔ GN d 120 54 ls h (ldI ls 2 fun x => nx 57 (st1 ls 2 (.int (x + (nI 1)))) st h) Q := G_unf rfl rfl
theorem g120_57 : G d 120 57 ls st h Q ↔ GN d 120 57 ls h (nx 34 ls st h) Q := G_unf rfl rfl
theorem g120_60 : G d 120 60 ls st h Q ↔ GN d 120 60 ls h (ldR ls 0 fun a => nx 61 ls (.ref a :: st) h) Q := G_unf rfl rfl
theorem g120_61 : G d 120 61 ls st h Q ↔ GN d 120 61 ls h (pR st fun a r => ck (arr h a 8) (nx 64 ls (rv (hR h a 6) :: r) h)) Q := G_unf rfl rfl
theorem g120_64 : G d 120 64 ls st h Q ↔ GN d 120 64 ls h (pR st fun a r => ck (arr h a 6) (nx 67 ls (.int (hI h a 7) :: r) h)) Q := G_unf rfl rfl
theorem g120_67 : G d 120 67 ls st h Q ↔ GN d 120 67 ls h (pIe st fun x => rtn (some (.int x))) Q := G_unf rfl rfl
theorem g121_0 : G d 121 0 ls st h Q ↔ GN d 121 0 ls h (ldR ls 0 fun a => nx 1 ls (.ref a :: st) h) Q := G_unf rfl rfl
theorem g121_1 : G d 121 1 ls st h Q ↔ GN d 121 1 ls h (pR st fun a r => ck (arr h a 8) (nx 4 ls (rv (hR h a 5) :: r) h)) Q := G_unf rfl rfl
theorem g121_4 : G d 121 4 ls st h Q ↔ GN d 121 4 ls h (pR st fun a r => ck (arr h a 2) (nx 7 ls (.int (hI h a 2) :: r) h)) Q := G_unf rfl rfl
theorem g121_7 : G d 121 7 ls st h Q ↔ GN d 121 7 ls h (pI st fun x r => br (¬ x = 0) (nx 18 ls r h) (nx 10 ls r h)) Q := G_unf rfl rfl
theorem g121_10 : G d 121 10 ls st h Q ↔ GN d 121 10 ls h (ldR ls 0 fun a => nx 11 ls (.ref a :: st) h) Q := G_unf rfl rfl
theorem g121_11 : G d 121 11 ls st h Q ↔ GN d 121 11 ls h (nx 12 ls (.int (nI 4) :: st) h) Q := G_unf rfl rfl
theorem g121_12 : G d 121 12 ls st h Q ↔ GN d 121 12 ls h (pA 1 st fun as r => pR r fun a r => ck (r.length ≤ 4 ∧ arr h a 8) (cll 139 (.ref a :: as) r)) Q := G_unf rfl rfl
theorem g121_15 : G d 121 15 ls st h Q ↔ GN d 121 15 ls h (p1 st fun _ r => nx 16 ls r h) Q := G_unf rfl rfl
theorem g121_16 : G d 121 16 ls st h Q ↔ GN d 121 16 ls h (nx 17 ls (.int (nI 0) :: st) h) Q := G_unf rfl rfl
theorem g121_17 : G d 121 17 ls st h Q ↔ GN d 121 17 ls h (pIe st fun x => ck (x = 0 ∨ x = 1) (rtn (some (.int x)))) Q := G_unf rfl rfl
theorem g121_18 : G d 121 18 ls st h Q ↔ GN d 121 18 ls h (ldR ls 0 fun a => nx 19 ls (.ref a :: st) h) Q := G_unf rfl rfl
theorem g121_19 : G d 121 19 ls st h Q ↔ GN d 121 19 ls h (pR st fun a r => ck (arr h a 8) (nx 22 ls (rv (hR h a 5) :: r) h)) Q := G_unf rfl rfl
theorem g121_22 : G d 121 22 ls st h Q ↔ GN d 121 22 ls h (ldR ls 0 fun a => nx 23 ls (.ref a :: st) h) Q := G_unf rfl rfl
theorem g121_23 : G d 121 23 ls st h Q ↔ GN d 121 23 ls h (pR st fun a r => ck (arr h a 8) (nx 26 ls (rv (hR h a 6) :: r) h)) Q := G_unf rfl rfl
theorem g121_26 : G d 121 26 ls st h Q ↔ GN d 121 26 ls h (pA 1 st fun as r => pR r fun a r => ck (r.length ≤ 4 ∧ arr h a 2) (cll 25 (.ref a :: as) r)) Q := G_unf rfl rfl
theorem g121_29 : G d 121 29 ls st h Q ↔ GN d 121 29 ls h (nx 30 ls (.int (nI 1) :: st) h) Q := G_unf rfl rfl
theorem g121_30 : G d 121 30 ls st h Q ↔ GN d 121 30 ls h (pIe st fun x => ck (x = 0 ∨ x = 1) (rtn (some (.int x)))) Q := G_unf rfl rfl
theorem g122_0 : G d 122 0 ls st h Q ↔ GN d 122 0 ls h (ldI ls 1 fun x => nx 1 ls (.int x :: st) h) Q := G_unf rfl rfl
theorem g122_1 : G d 122 1 ls st h Q ↔ GN d 122 1 ls h (pI st fun x r => br (0 ≤ x) (nx 12 ls r h) (nx 4 ls r h)) Q := G_unf rfl rfl
theorem g122_4 : G d 122 4 ls st h Q ↔ GN d 122 4 ls h (ldR ls 0 fun a => nx 5 ls (.ref a :: st) h) Q := G_unf rfl rfl
theorem g122_5 : G d 122 5 ls st h Q ↔ GN d 122 5 ls h (nx 6 ls (.int (nI 5) :: st) h) Q := G_unf rfl rfl
theorem g122_6 : G d 122 6 ls st h Q ↔ GN d 122 6 ls h (pA 1 st fun as r => pR r fun a r => ck (r.length ≤ 4 ∧ arr h a 8) (cll 139 (.ref a :: as) r)) Q := G_unf rfl rfl
theorem g122_9 : G d 122 9 ls st h Q ↔ GN d 122 9 ls h (p1 st fun _ r => nx 10 ls r h) Q := G_unf rfl rfl
theorem g122_10 : G d 122 10 ls st h Q ↔ GN d 122 10 ls h (nx 11 ls (.int (nI 0) :: st) h) Q := G_unf rfl rfl
theorem g122_11 : G d 122 11 ls st h Q ↔ GN d 122 11 ls h (pIe st fun x => ck (x = 0 ∨ x = 1) (rtn (some (.int x)))) Q := G_unf rfl rfl
theorem g122_12 : G d 122 12 ls st h Q ↔ GN d 122 12 ls h (ldR ls 0 fun a => nx 13 ls (.ref a :: st) h) Q := G_unf rfl rfl
theorem g122_13 : G d 122 13 ls st h Q ↔ GN d 122 13 ls h (ldI ls 1 fun x => nx 14 ls (.int x :: st) h) Q := G_unf rfl rfl
theorem g122_14 : G d 122 14 ls st h Q ↔ GN d 122 14 ls h (pRI st fun a x r => ck (arr h a 8) (nx 17 ls r (sI h a 11 x))) Q := G_unf rfl rfl
theorem g122_17 : G d 122 17 ls st h Q ↔ GN d 122 17 ls h (nx 18 ls (.int (nI 1) :: st) h) Q := G_unf rfl rfl
theorem g122_18 : G d 122 18 ls st h Q ↔ GN d 122 18 ls h (pIe st fun x => ck (x = 0 ∨ x = 1) (rtn (some (.int x)))) Q := G_unf rfl rfl
theorem g123_0 : G d 123 0 ls st h Q ↔ GN d 123 0 ls h (ldI ls 1 fun x => nx 1 ls (.int x :: st) h) Q := G_unf rfl rfl
theorem g123_1 : G d 123 1 ls st h Q ↔ GN d 123 1 ls h (pI st fun x r => br (x < 0) (nx 15 ls r h) (nx 4 ls r h)) Q := G_unf rfl rfl
theorem g123_4 : G d 123 4 ls st h Q ↔ GN d 123 4 ls h (ldI ls 1 fun x => nx 5 ls (.int x :: st) h) Q := G_unf rfl rfl
theorem g123_5 : G d 123 5 ls st h Q ↔ GN d 123 5 ls h (ldR ls 0 fun a => nx 6 ls (.ref a :: st) h) Q := G_unf rfl rfl
theorem g123_6 : G d 123 6 ls st h Q ↔ GN d 123 6 ls h (pR st fun a r => ck (arr h a 8) (nx 9 ls (rv (hR h a 6) :: r) h)) Q := G_unf rfl rfl
theorem g123_9 : G d 123 9 ls st h Q ↔ GN d 123 9 ls h (pR st fun a r => ck (arr h a 6) (nx 12 ls (.int (hI h a 6) :: r) h)) Q := G_unf rfl rfl
theorem g123_12 : G d 123 12 ls st h Q ↔ GN d 123 12 ls h (pII st fun x y r => br (x < y) (nx 17 ls r h) (nx 15 ls r h)) Q := G_unf rfl rfl
theorem g123_15 : G d 123 15 ls st h Q ↔ GN d 123 15 ls h (nx 16 ls (.int (-1) :: st) h) Q := G_unf rfl rfl
theorem g123_16 : G d 123 16 ls st h Q ↔ GN d 123 16 ls h (pIe st fun x => rtn (some (.int x))) Q := G_unf rfl rfl
theorem g123_17 : G d 123 17 ls st h Q ↔ GN d 123 17 ls h (ldR ls 0 fun a => nx 18 ls (.ref a :: st) h) Q := G_unf rfl rfl
theorem g123_18 : G d 123 18 ls st h Q ↔ GN d 123 18 ls h (pR st fun a r => ck (arr h a 8) (nx 21 ls (rv (hR h a 6) :: r) h)) Q := G_unf rfl rfl
theorem g123_21 : G d 123 21 ls st h Q ↔ GN d 123 21 ls h (pR st fun a r => ck (arr h a 6) (nx 24 ls (rv (hR h a 5) :: r) h)) Q := G_unf rfl rfl
theorem g123_24 : G d 123 24 ls st h Q ↔ GN d 123 24 ls h (ldI ls 1 fun x => nx 25 ls (.int x :: st) h) Q := G_unf rfl rfl
theorem g123_25 : G d 123 25 ls st h Q ↔ GN d 123 25 ls h (pRI st fun a i r => br (a = 1000003) (ck (inb i (hS h).1) (nx 26 ls (.int ((hS h).2 i.toNatClampNeg) :: r) h)) (ck (arr h a 10 ∧ inb i (hLn h a)) (nx 26 ls (.int (hI h a i.toNatClampNeg) :: r) h))) Q := G_unf rfl rfl
theorem g123_26 : G d 123 26 ls st h Q ↔ GN d 123 26 ls h (ldI ls 2 fun x => nx 27 ls (.int x :: st) h) Q := G_unf rfl rfl
theorem g123_27 : G d 123 27 ls st h Q ↔ GN d 123 27 ls h (pA 2 st fun as r => ck (r.length ≤ 4) (cll 154 as r)) Q := G_unf rfl rfl
theorem g123_30 : G d 123 30 ls st h Q ↔ GN d 123 30 ls h (pIe st fun x => rtn (some (.int x))) Q := G_unf rfl rfl
theorem g124_0 : G d 124 0 ls st h Q ↔ GN d 124 0 ls h (ldR ls 0 fun a => nx 1 ls (.ref a :: st) h) Q := G_unf rfl rfl
theorem g124_1 : G d 124 1 ls st h Q ↔ GN d 124 1 ls h (ldI ls 1 fun x => nx 2 ls (.int x :: st) h) Q := G_unf rfl rfl
theorem g124_2 : G d 124 2 ls st h Q ↔ GN d 124 2 ls h (pA 1 st fun as r => pR r fun a r => ck (r.length ≤ 4 ∧ arr h a 8) (cll 143 (.ref a :: as) r)) Q := G_unf rfl rfl
theorem g124_5 : G d 124 5 ls st h Q ↔ GN d 124 5 ls h (pI st fun x r => br (x = 0) (nx 16 ls r h) (nx 8 ls r h)) Q := G_unf rfl rfl
theorem g124_8 : G d 124 8 ls st h Q ↔ GN d 124 8 ls h (ldR ls 0 fun a => nx 9 ls (.ref a :: st) h) Q := G_unf rfl rfl
theorem g124_9 : G d 124 9 ls st h Q ↔ GN d 124 9 ls h (ldI ls 2 fun x => nx 10 ls (.int x :: st) h) Q := G_unf rfl rfl
theorem g124_10 : G d 124 10 ls st h Q ↔ GN d 124 10 ls h (pA 1 st fun as r => pR r fun a r => ck (r.length ≤ 4 ∧ arr h a 8) (cll 141 (.ref a :: as) r)) Q := G_unf rfl rfl
theorem g124_13 : G d 124 13 ls st h Q ↔ GN d 124 13 ls h (pI st fun x r => br (¬ x = 0) (nx 18 ls r h) (nx 16 ls r h)) Q := G_unf rfl rfl
theorem g124_16 : G d 124 16 ls st h Q ↔ GN d 124 16 ls h (nx 17 ls (.int (-1) :: st) h) Q := G_unf rfl rfl
theorem g124_17 : G d 124 17 ls st h Q ↔ GN d 124 17 ls h (pIe st fun x => rtn (some (.int x))) Q := G_unf rfl rfl
theorem g124_18 : G d 124 18 ls st h Q ↔ GN d 124 18 ls h (ldR ls 0 fun a => nx 19 ls (.ref a :: st) h) Q := G_unf rfl rfl
theorem g124_19 : G d 124 19 ls st h Q ↔ GN d 124 19 ls h (pA 0 st fun as r => pR r fun a r => ck (r.length ≤ 4 ∧ arr h a 8) (cll 147 (.ref a :: as) r)) Q := G_unf rfl rfl
theorem g124_22 : G d 124 22 ls st h Q ↔ GN d 124 22 ls h (nx 23 ls (.int (nI 0) :: st) h) Q := G_unf rfl rfl
theorem g124_23 : G d 124 23 ls st h Q ↔ GN d 124 23 ls h (pI st fun x r => ck (3 < ls.length) (nx 24 (st1 ls 3 (.int x)) r h)) Q := G_unf rfl rfl
theorem g124_24 : G d 124 24 ls st h Q ↔ GN d 124 24 ls h (ldI ls 3 fun x => nx 25 ls (.int x :: st) h) Q := G_unf rfl rfl
theorem g124_25 : G d 124 25 ls st h Q ↔ GN d 124 25 ls h (nx 27 ls (.int (nI 40) :: st) h) Q := G_unf rfl rfl
theorem g124_27 : G d 124 27 ls st h Q ↔ GN d 124 27 ls h (pII st fun x y r => br (y ≤ x) (nx 80 ls r h) (nx 30 ls r h)) Q := G_unf rfl rfl
theorem g124_30 : G d 124 30 ls st h Q ↔ GN d 124 30 ls h (ldR ls 0 fun a => nx 31 ls (.ref a :: st) h) Q := G_unf rfl rfl
theorem g124_31 : G d 124 31 ls st h Q ↔ GN d 124 31 ls h (pR st fun a r => ck (arr h a 8) (nx 34 ls (rv (hR h a 7) :: r) h)) Q := G_unf rfl rfl
theorem g124_34 : G d 124 34 ls st h Q ↔ GN d 124 34 ls h (pR st fun a r => ck (arr h a 6) (nx 37 ls (.int (hI h a 0) :: r) h)) Q := G_unf rfl rfl
theorem g124_37 : G d 124 37 ls st h Q ↔ GN d 124 37 ls h (nx 40 ls (.int (nI 999) :: st) h) Q := G_unf rfl rfl
theorem g124_40 : G d 124 40 ls st h Q ↔ GN d 124 40 ls h (pII st fun x y r => br (y ≤ x) (nx 80 ls r h) (nx 43 ls r h)) Q := G_unf rfl rfl
theorem g124_43 : G d 124 43 ls st h Q ↔ GN d 124 43 ls h (ldR ls 0 fun a => nx 44 ls (.ref a :: st) h) Q := G_unf rfl rfl
theorem g124_44 : G d 124 44 ls st h Q ↔ GN d 124 44 ls h (pR st fun a r => ck (arr h a 8) (nx 47 ls (rv (hR h a 7) :: r) h)) Q := G_unf rfl rfl
theorem g124_47 : G d 124 47 ls st h Q ↔ GN d 124 47 ls h (ldI ls 1 fun x => nx 48 ls (.int x :: st) h) Q := G_unf rfl rfl
theorem g124_48 : G d 124 48 ls st h Q ↔ GN d 124 48 ls h (ldI ls 2 fun x => nx 49 ls (.int x :: st) h) Q := G_unf rfl rfl
theorem g124_49 : G d 124 49 ls st h Q ↔ GN d 124 49 ls h (pA 2 st fun as r => pR r fun a r => ck (r.length ≤ 4 ∧ arr h a 6) (cll 87 (.ref a :: as) r)) Q := G_unf rfl rfl
theorem g124_52 : G d 124 52 ls st h Q ↔ GN d 124 52 ls h (pI st fun x r => br (x = 0) (nx 63 ls r h) (nx 55 ls r h)) Q := G_unf rfl rfl
theorem g124_55 : G d 124 55 ls st h Q ↔ GN d 124 55 ls h (ldR ls 0 fun a => nx 56 ls (.ref a :: st) h) Q := G_unf rfl rfl
theorem g124_56 : G d 124 56 ls st h Q ↔ GN d 124 56 ls h (pR st fun a r => ck (arr h a 8) (nx 59 ls (rv (hR h a 7) :: r) h)) Q := G_unf rfl rfl
theorem g124_59 : G d 124 59 ls st h Q ↔ GN d 124 59 ls h (pR st fun a r => ck (arr h a 6) (nx 62 ls (.int (hI h a 0) :: r) h)) Q := G_unf rfl rfl
theorem g124_62 : G d 124 62 ls st h Q ↔ GN d 124 62 ls h (pIe st fun x => rtn (some (.int x))) Q := G_unf rfl rfl
theorem g124_63 : G d 124 63 ls st h Q ↔ GN d 124 63 ls h (ldR ls 0 fun a => nx 64 ls (.ref a :: st) h) Q := G_unf rfl rfl
theorem g124_64 : G d 124 64 ls st h Q ↔ GN d 124 64 ls h (pR st fun a r => ck (arr h a 8) (nx 67 ls (rv (hR h a 2) :: r) h)) Q := G_unf rfl rfl
theorem g124_67 : G d 124 67 ls st h Q ↔ GN d 124 67 ls h (ldR ls 0 fun a => nx 68 ls (.ref a :: st) h) Q := G_unf rfl rfl
theorem g124_68 : G d 124 68 ls st h Q ↔ GN d 124 68 ls h (pR st fun a r => ck (arr h a 8) (nx 71 ls (rv (hR h a 7) :: r) h)) Q := G_unf rfl rfl
theorem g124_71 : G d 124 71 ls st h Q ↔ GN d 124 71 ls h (pA 1 st fun as r => pR r fun a r => ck (r.length ≤ 4 ∧ arr h a 1) (cll 12 (.ref a :: as) r)) Q := G_unf rfl rfl
theorem g124_74 : G d 124 74 ls st h Q ↔ GN d 124 74 ls h (ldI ls 3 fun x => nx 77 (st1 ls 3 (.int (x + (nI 1)))) st h) Q := G_unf rfl rfl
theorem g124_77 : G d 124 77 ls st h Q ↔ GN d 124 77 ls h (nx 24 ls st h) Q := G_unf rfl rfl
theorem g124_80 : G d 124 80 ls st h Q ↔ GN d 124 80 ls h (ldR ls 0 fun a => nx 81 ls (.ref a :: st) h) Q := G_unf rfl rfl
theorem g124_81 : G d 124 81 ls st h Q ↔ GN d 124 81 ls h (pR st fun a r => ck (arr h a 8) (nx 84 ls (rv (hR h a 7) :: r) h)) Q := G_unf rfl rfl
theorem g124_84 : G d 124 84 ls st h Q ↔ GN d 124 84 ls h (ldI ls 1 fun x => nx 85 ls (.int x :: st) h) Q := G_unf rfl rfl
theorem g124_85 : G d 124 85 ls st h Q ↔ GN d 124 85 ls h (ldI ls 2 fun x => nx 86 ls (.int x :: st) h) Q := G_unf rfl rfl
theorem g124_86 : G d 124 86 ls st h Q ↔ GN d 124 86 ls h (pA 2 st fun as r => pR r fun a r => ck (r.length ≤ 4 ∧ arr h a 6) (cll 87 (.ref a :: as) r)) Q := G_unf rfl rfl
theorem g124_89 : G d 124 89 ls st h Q ↔ GN d 124 89 ls h (pI st fun x r => br (x = 0) (nx 102 ls r h) (nx 92 ls r h)) Q := G_unf rfl rfl
theorem g124_92 : G d 124 92 ls st h Q ↔ GN d 124 92 ls h (ldR ls 0 fun a => nx 93 ls (.ref a :: st) h) Q := G_unf rfl rfl
theorem g124_93 : G d 124 93 ls st h Q ↔ GN d 124 93 ls h (pR st fun a r => ck (arr h a 8) (nx 96 ls (rv (hR h a 7) :: r) h)) Q := G_unf rfl rfl
theorem g124_96 : G d 124 96 ls st h Q ↔ GN d 124 96 ls h (pR st fun a r => ck (arr h a 6) (nx 99 ls (.int (hI h a 0) :: r) h)) Q := G_unf rfl rfl
theorem g124_99 : G d 124 99 ls st h Q ↔ GN d 124 99 ls h (nx 103 ls st h) Q := G_unf rfl rfl
theorem g124_102 : G d 124 102 ls st h Q ↔ GN d 124 102 ls h (nx 103 ls (.int (-1) :: st) h) Q := G_unf rfl rfl
theorem g124_103 : G d 124 103 ls st h Q ↔ GN d 124 103 ls h (pIe st fun x => rtn (some (.int x))) Q := G_unf rfl rfl
theorem g125_0 : G d 125 0 ls st h Q ↔ GN d 125 0 ls h (ldR ls 0 fun a => nx 1 ls (.ref a :: st) h) Q := G_unf rfl rfl
theorem g125_1 : G d 125 1 ls st h Q ↔ GN d 125 1 ls h (pA 0 st fun as r => pR r fun a r => ck (r.length ≤ 4 ∧ arr h a 8) (cll 147 (.ref a :: as) r)) Q := G_unf rfl rfl
theorem g125_4 : G d 125 4 ls st h Q ↔ GN d 125 4 ls h (nx 5 ls (.int (nI 0) :: st) h) Q := G_unf rfl rfl
theorem g125_5 : G d 125 5 ls st h Q ↔ GN d 125 5 ls h (pI st fun x r => ck (2 < ls.length) (nx 6 (st1 ls 2 (.int x)) r h)) Q := G_unf rfl rfl
theorem g125_6 : G d 125 6 ls st h Q ↔ GN d 125 6 ls h (ldI ls 2 fun x => nx 7 ls (.int x :: st) h) Q := G_unf rfl rfl
theorem g125_7 : G d 125 7 ls st h Q ↔ GN d 125 7 ls h (nx 9 ls (.int (nI 40) :: st) h) Q := G_unf rfl rfl
theorem g125_9 : G d 125 9 ls st h Q ↔ GN d 125 9 ls h (pII st fun x y r => br (y ≤ x) (nx 52 ls r h) (nx 12 ls r h)) Q := G_unf rfl rfl
theorem g125_12 : G d 125 12 ls st h Q ↔ GN d 125 12 ls h (ldR ls 0 fun a => nx 13 ls (.ref a :: st) h) Q := G_unf rfl rfl
theorem g125_13 : G d 125 13 ls st h Q ↔ GN d 125 13 ls h (pR st fun a r => ck (arr h a 8) (nx 16 ls (rv (hR h a 7) :: r) h)) Q := G_unf rfl rfl
theorem g125_16 : G d 125 16 ls st h Q ↔ GN d 125 16 ls h (pR st fun a r => ck (arr h a 6) (nx 19 ls (.int (hI h a 0) :: r) h)) Q := G_unf rfl rfl
theorem g125_19 : G d 125 19 ls st h Q ↔ GN d 125 19 ls h (nx 22 ls (.int (nI 999) :: st) h) Q := G_unf rfl rfl
theorem g125_22 : G d 125 22 ls st h Q ↔ GN d 125 22 ls h (pII st fun x y r => br (y ≤ x) (nx 52 ls r h) (nx 25 ls r h)) Q := G_unf rfl rfl
theorem g125_25 : G d 125 25 ls st h Q ↔ GN d 125 25 ls h (ldR ls 0 fun a => nx 26 ls (.ref a :: st) h) Q := G_unf rfl rfl
theorem g125_26 : G d 125 26 ls st h Q ↔ GN d 125 26 ls h (pR st fun a r => ck (arr h a 8) (nx 29 ls (rv (hR h a 7) :: r) h)) Q := G_unf rfl rfl
theorem g125_29 : G d 125 29 ls st h Q ↔ GN d 125 29 ls h (pR st fun a r => ck (arr h a 6) (nx 32 ls (.int (hI h a 7) :: r) h)) Q := G_unf rfl rfl
theorem g125_32 : G d 125 32 ls st h Q ↔ GN d 125 32 ls h (pI st fun x r => br (¬ x = 0) (nx 52 ls r h) (nx 35 ls r h)) Q := G_unf rfl rfl
theorem g125_35 : G d 125 35 ls st h Q ↔ GN d 125 35 ls h (ldR ls 0 fun a => nx 36 ls (.ref a :: st) h) Q := G_unf rfl rfl
theorem g125_36 : G d 125 36 ls st h Q ↔ GN d 125 36 ls h (pR st fun a r => ck (arr h a 8) (nx 39 ls (rv (hR h a 2) :: r) h)) Q := G_unf rfl rfl
theorem g125_39 : G d 125 39 ls st h Q ↔ GN d 125 39 ls h (ldR ls 0 fun a => nx 40 ls (.ref a :: st) h) Q := G_unf rfl rfl
theorem g125_40 : G d 125 40 ls st h Q ↔ GN d 125 40 ls h (pR st fun a r => ck (arr h a 8) (nx 43 ls (rv (hR h a 7) :: r) h)) Q := G_unf rfl rfl
theorem g125_43 : G d 125 43 ls st h Q ↔ GN d 125 43 ls h (pA 1 st fun as r => pR r fun a r => ck (r.length ≤ 4 ∧ arr h a 1) (cll 12 (.ref a :: as) r)) Q := G_unf rfl rfl
theorem g125_46 : G d 125 46 ls st h Q ↔ GN d 125 46 ls h (ldI ls 2 fun x => nx 49 (st1 ls 2 (.int (x + (nI 1)))) st h) Q := G_unf rfl rfl
theorem g125_49 : G d 125 49 ls st h Q ↔ GN d 125 49 ls h (nx 6 ls st h) Q := G_unf rfl rfl
theorem g125_52 : G d 125 52 ls st h Q ↔ GN d 125 52 ls h (ldR ls 0 fun a => nx 53 ls (.ref a :: st) h) Q := G_unf rfl rfl
theorem g125_53 : G d 125 53 ls st h Q ↔ GN d 125 53 ls h (pR st fun a r => ck (arr h a 8) (nx 56 ls (rv (hR h a 7) :: r) h)) Q := G_unf rfl rfl
theorem g125_56 : G d 125 56 ls st h Q ↔ GN d 125 56 ls h (pR st fun a r => ck (arr h a 6) (nx 59 ls (.int (hI h a 7) :: r) h)) Q := G_unf rfl rfl
theorem g125_59 : G d 125 59 ls st h Q ↔ GN d 125 59 ls h (pI st fun x r => br (¬ x = 0) (nx 66 ls r h) (nx 62 ls r h)) Q := G_unf rfl rfl
theorem g125_62 : G d 125 62 ls st h Q ↔ GN d 125 62 ls h (nx 63 ls (.int (-1) :: st) h) Q := G_unf rfl rfl
theorem g125_63 : G d 125 63 ls st h Q ↔ GN d 125 63 ls h (nx 77 ls st h) Q := G_unf rfl rfl
theorem g125_66 : G d 125 66 ls st h Q ↔ GN d 125 66 ls h (ldR ls 0 fun a => nx 67 ls (.ref a :: st) h) Q := G_unf rfl rfl
theorem g125_67 : G d 125 67 ls st h Q ↔ GN d 125 67 ls h (pR st fun a r => ck (arr h a 8) (nx 70 ls (rv (hR h a 7) :: r) h)) Q := G_unf rfl rfl
theorem g125_70 : G d 125 70 ls st h Q ↔ GN d 125 70 ls h (pR st fun a r => ck (arr h a 6) (nx 73 ls (.int (hI h a 8) :: r) h)) Q := G_unf rfl rfl
theorem g125_73 : G d 125 73 ls st h Q ↔ GN d 125 73 ls h (ldI ls 1 fun x => nx 74 ls (.int x :: st) h) Q := G_unf rfl rfl
theorem g125_74 : G d 125 74 ls st h Q ↔ GN d 125 74 ls h (pA 2 st fun as r => ck (r.length ≤ 4) (cll 154 as r)) Q := G_unf rfl rfl
theorem g125_77 : G d 125 77 ls st h Q ↔ GN d 125 77 ls h (pIe st fun x => rtn (some (.int x))) Q := G_unf rfl rfl
theorem g126_0 : G d 126 0 ls st h Q ↔ GN d 126 0 ls h (ldR ls 0 fun a => nx 1 ls (.ref a :: st) h) Q := G_unf rfl rfl
theorem g126_1 : G d 126 1 ls st h Q ↔ GN d 126 1 ls h (ldI ls 1 fun x => nx 2 ls (.int x :: st) h) Q := G_unf rfl rfl
theorem g126_2 : G d 126 2 ls st h Q ↔ GN d 126 2 ls h (pA 1 st fun as r => pR r fun a r => ck (r.length ≤ 4 ∧ arr h a 8) (cll 143 (.ref a :: as) r)) Q := G_unf rfl rfl
theorem g126_5 : G d 126 5 ls st h Q ↔ GN d 126 5 ls h (pI st fun x r => br (x = 0) (nx 16 ls r h) (nx 8 ls r h)) Q := G_unf rfl rfl
theorem g126_8 : G d 126 8 ls st h Q ↔ GN d 126 8 ls h (ldR ls 0 fun a => nx 9 ls (.ref a :: st) h) Q := G_unf rfl rfl
theorem g126_9 : G d 126 9 ls st h Q ↔ GN d 126 9 ls h (ldI ls 2 fun x => nx 10 ls (.int x :: st) h) Q := G_unf rfl rfl
theorem g126_10 : G d 126 10 ls st h Q ↔ GN d 126 10 ls h (pA 1 st fun as r => pR r fun a r => ck (r.length ≤ 4 ∧ arr h a 8) (cll 144 (.ref a :: as) r)) Q := G_unf rfl rfl
theorem g126_13 : G d 126 13 ls st h Q ↔ GN d 126 13 ls h (pI st fun x r => br (¬ x = 0) (nx 18 ls r h) (nx 16 ls r h)) Q := G_unf rfl rfl
theorem g126_16 : G d 126 16 ls st h Q ↔ GN d 126 16 ls h (nx 17 ls (.int (-1) :: st) h) Q := G_unf rfl rfl
theorem g126_17 : G d 126 17 ls st h Q ↔ GN d 126 17 ls h (pIe st fun x => rtn (some (.int x))) Q := G_unf rfl rfl
theorem g126_18 : G d 126 18 ls st h Q ↔ GN d 126 18 ls h (ldR ls 0 fun a => nx 19 ls (.ref a :: st) h) Q := G_unf rfl rfl
theorem g126_19 : G d 126 19 ls st h Q ↔ GN d 126 19 ls h (ldI ls 2 fun x => nx 20 ls (.int x :: st) h) Q := G_unf rfl rfl
theorem g126_20 : G d 126 20 ls st h Q ↔ GN d 126 20 ls h (pA 1 st fun as r => pR r fun a r => ck (r.length ≤ 4 ∧ arr h a 8) (cll 148 (.ref a :: as) r)) Q := G_unf rfl rfl
theorem g126_23 : G d 126 23 ls st h Q ↔ GN d 126 23 ls h (ldR ls 0 fun a => nx 24 ls (.ref a :: st) h) Q := G_unf rfl rfl
theorem g126_24 : G d 126 24 ls st h Q ↔ GN d 126 24 ls h (pR st fun a r => ck (arr h a 8) (nx 27 ls (rv (hR h a 2) :: r) h)) Q := G_unf rfl rfl
theorem g126_27 : G d 126 27 ls st h Q ↔ GN d 126 27 ls h (ldR ls 0 fun a => nx 28 ls (.ref a :: st) h) Q := G_unf rfl rfl
theorem g126_28 : G d 126 28 ls st h Q ↔ GN d 126 28 ls h (pR st fun a r => ck (arr h a 8) (nx 31 ls (rv (hR h a 7) :: r) h)) Q := G_unf rfl rfl
theorem g126_31 : G d 126 31 ls st h Q ↔ GN d 126 31 ls h (ldI ls 1 fun x => nx 32 ls (.int x :: st) h) Q := G_unf rfl rfl
theorem g126_32 : G d 126 32 ls st h Q ↔ GN d 126 32 ls h (pA 2 st fun as r => pR r fun a r => ck (r.length ≤ 4 ∧ arr h a 1) (cll 18 (.ref a :: as) r)) Q := G_unf rfl rfl
theorem g126_35 : G d 126 35 ls st h Q ↔ GN d 126 35 ls h (pIe st fun x => rtn (some (.int x))) Q := G_unf rfl rfl
theorem g127_0 : G d 127 0 ls st h Q ↔ GN d 127 0 ls h (ldI ls 1 fun x => nx 1 ls (.int x :: st) h) Q := G_unf rfl rfl
theorem g127_1 : G d 127 1 ls st h Q ↔ GN d 127 1 ls h (pI st fun x r => br (x < 0) (nx 36 ls r h) (nx 4 ls r h)) Q := G_unf rfl rfl
theorem g127_4 : G d 127 4 ls st h Q ↔ GN d 127 4 ls h (ldI ls 1 fun x => nx 5 ls (.int x :: st) h) Q := G_unf rfl rfl
theorem g127_5 : G d 127 5 ls st h Q ↔ GN d 127 5 ls h (nx 6 ls (.int (nI 1) :: st) h) Q := G_unf rfl rfl
theorem g127_6 : G d 127 6 ls st h Q ↔ GN d 127 6 ls h (ldR ls 0 fun a => nx 7 ls (.ref a :: st) h) Q := G_unf rfl rfl
theorem g127_7 : G d 127 7 ls st h Q ↔ GN d 127 7 ls h (pR st fun a r => ck (arr h a 8) (nx 10 ls (rv (hR h a 2) :: r) h)) Q := G_unf rfl rfl
theorem g127_10 : G d 127 10 ls st h Q ↔ GN d 127 10 ls h (pR st fun a r => ck (arr h a 1) (nx 13 ls (rv (hR h a 0) :: r) h)) Q := G_unf rfl rfl
theorem g127_13 : G d 127 13 ls st h Q ↔ GN d 127 13 ls h (pR st fun a r => ck (arr h a 0) (nx 16 ls (.int (hI h a 10) :: r) h)) Q := G_unf rfl rfl
theorem g127_16 : G d 127 16 ls st h Q ↔ GN d 127 16 ls h (pII st fun x y r => nx 17 ls (.int (x <<< (y &&& 31)) :: r) h) Q := G_unf rfl rfl
theorem g127_17 : G d 127 17 ls st h Q ↔ GN d 127 17 ls h (pII st fun x y r => br (y ≤ x) (nx 36 ls r h) (nx 20 ls r h)) Q := G_unf rfl rfl
theorem g127_20 : G d 127 20 ls st h Q ↔ GN d 127 20 ls h (ldR ls 0 fun a => nx 21 ls (.ref a :: st) h) Q := G_unf rfl rfl
theorem g127_21 : G d 127 21 ls st h Q ↔ GN d 127 21 ls h (ldI ls 2 fun x => nx 22 ls (.int x :: st) h) Q := G_unf rfl rfl
theorem g127_22 : G d 127 22 ls st h Q ↔ GN d 127 22 ls h (pA 1 st fun as r => pR r fun a r => ck (r.length ≤ 4 ∧ arr h a 8) (cll 141 (.ref a :: as) r)) Q := G_unf rfl rfl
theorem g127_25 : G d 127 25 ls st h Q ↔ GN d 127 25 ls h (pI st fun x r => br (x = 0) (nx 36 ls r h) (nx 28 ls r h)) Q := G_unf rfl rfl
theorem g127_28 : G d 127 28 ls st h Q ↔ GN d 127 28 ls h (ldR ls 0 fun a => nx 29 ls (.ref a :: st) h) Q := G_unf rfl rfl
theorem g127_29 : G d 127 29 ls st h Q ↔ GN d 127 29 ls h (ldI ls 3 fun x => nx 30 ls (.int x :: st) h) Q := G_unf rfl rfl
theorem g127_30 : G d 127 30 ls st h Q ↔ GN d 127 30 ls h (pA 1 st fun as r => pR r fun a r => ck (r.length ≤ 4 ∧ arr h a 8) (cll 144 (.ref a :: as) r)) Q := G_unf rfl rfl
theorem g127_33 : G d 127 33 ls st h Q ↔ GN d 127 33 ls h (pI st fun x r => br (¬ x = 0) (nx 38 ls r h) (nx 36 ls r h)) Q := G_unf rfl rfl
theorem g127_36 : G d 127 36 ls st h Q ↔ GN d 127 36 ls h (nx 37 ls (.int (-1) :: st) h) Q := G_unf rfl rfl
theorem g127_37 : G d 127 37 ls st h Q ↔ GN d 127 37 ls h (pIe st fun x => rtn (some (.int x))) Q := G_unf rfl rfl
theorem g127_38 : G d 127 38 ls st h Q ↔ GN d 127 38 ls h (ldR ls 0 fun a => nx 39 ls (.ref a :: st) h) Q := G_unf rfl rfl
theorem g127_39 : G d 127 39 ls st h Q ↔ GN d 127 39 ls h (ldI ls 3 fun x => nx 40 ls (.int x :: st) h) Q := G_unf rfl rfl
theorem g127_40 : G d 127 40 ls st h Q ↔ GN d 127 40 ls h (pA 1 st fun as r => pR r fun a r => ck (r.length ≤ 4 ∧ arr h a 8) (cll 148 (.ref a :: as) r)) Q := G_unf rfl rfl
theorem g127_43 : G d 127 43 ls st h Q ↔ GN d 127 43 ls h (nx 44 ls (.int (nI 0) :: st) h) Q := G_unf rfl rfl
theorem g127_44 : G d 127 44 ls st h Q ↔ GN d 127 44 ls h (pI st fun x r => ck (4 < ls.length) (nx 46 (st1 ls 4 (.int x)) r h)) Q := G_unf rfl rfl
theorem g127_46 : G d 127 46 ls st h Q ↔ GN d 127 46 ls h (ldI ls 4 fun x => nx 48 ls (.int x :: st) h) Q := G_unf rfl rfl
theorem g127_48 : G d 127 48 ls st h Q ↔ GN d 127 48 ls h (ldR ls 0 fun a => nx 49 ls (.ref a :: st) h) Q := G_unf rfl rfl
theorem g127_49 : G d 127 49 ls st h Q ↔ GN d 127 49 ls h (pR st fun a r => ck (arr h a 8) (nx 52 ls (rv (hR h a 2) :: r) h)) Q := G_unf rfl rfl
theorem g127_52 : G d 127 52 ls st h Q ↔ GN d 127 52 ls h (pR st fun a r => ck (arr h a 1) (nx 55 ls (rv (hR h a 0) :: r) h)) Q := G_unf rfl rfl
theorem g127_55 : G d 127 55 ls st h Q ↔ GN d 127 55 ls h (pR st fun a r => ck (arr h a 0) (nx 58 ls (.int (hI h a 10) :: r) h)) Q := G_unf rfl rfl
theorem g127_58 : G d 127 58 ls st h Q ↔ GN d 127 58 ls h (pII st fun x y r => br (y ≤ x) (nx 92 ls r h) (nx 61 ls r h)) Q := G_unf rfl rfl
theorem g127_61 : G d 127 61 ls st h Q ↔ GN d 127 61 ls h (ldI ls 1 fun x => nx 62 ls (.int x :: st) h) Q := G_unf rfl rfl
theorem g127_62 : G d 127 62 ls st h Q ↔ GN d 127 62 ls h (ldI ls 4 fun x => nx 64 ls (.int x :: st) h) Q := G_unf rfl rfl
theorem g127_64 : G d 127 64 ls st h Q ↔ GN d 127 64 ls h (pII st fun x y r => nx 65 ls (.int (x >>> (y &&& 31)) :: r) h) Q := G_unf rfl rfl
theorem g127_65 : G d 127 65 ls st h Q ↔ GN d 127 65 ls h (nx 66 ls (.int (nI 1) :: st) h) Q := G_unf rfl rfl
theorem g127_66 : G d 127 66 ls st h Q ↔ GN d 127 66 ls h (pII st fun x y r => nx 67 ls (.int (x &&& y) :: r) h) Q := G_unf rfl rfl
theorem g127_67 : G d 127 67 ls st h Q ↔ GN d 127 67 ls h (nx 68 ls (.int (nI 1) :: st) h) Q := G_unf rfl rfl
theorem g127_68 : G d 127 68 ls st h Q ↔ GN d 127 68 ls h (pII st fun x y r => br (¬ x = y) (nx 86 ls r h) (nx 71 ls r h)) Q := G_unf rfl rfl
theorem g127_71 : G d 127 71 ls st h Q ↔ GN d 127 71 ls h (ldR ls 0 fun a => nx 72 ls (.ref a :: st) h) Q := G_unf rfl rfl
theorem g127_72 : G d 127 72 ls st h Q ↔ GN d 127 72 ls h (pR st fun a r => ck (arr h a 8) (nx 75 ls (rv (hR h a 7) :: r) h)) Q := G_unf rfl rfl
theorem g127_75 : G d 127 75 ls st h Q ↔ GN d 127 75 ls h (ldI ls 4 fun x => nx 77 ls (.int x :: st) h) Q := G_unf rfl rfl
theorem g127_77 : G d 127 77 ls st h Q ↔ GN d 127 77 ls h (ldI ls 2 fun x => nx 78 ls (.int x :: st) h) Q := G_unf rfl rfl
theorem g127_78 : G d 127 78 ls st h Q ↔ GN d 127 78 ls h (pA 2 st fun as r => pR r fun a r => ck (r.length ≤ 4 ∧ arr h a 6) (cll 87 (.ref a :: as) r)) Q := G_unf rfl rfl
theorem g127_81 : G d 127 81 ls st h Q ↔ GN d 127 81 ls h (pI st fun x r => br (x = 0) (nx 86 ls r h) (nx 84 ls r h)) Q := G_unf rfl rfl
theorem g127_84 : G d 127 84 ls st h Q ↔ GN d 127 84 ls h (nx 85 ls (.int (nI 0) :: st) h) Q := G_unf rfl rfl
theorem g127_85 : G d 127 85 ls st h Q ↔ GN d 127 85 ls h (pIe st fun x => rtn (some (.int x))) Q := G_unf rfl rfl
theorem g127_86 : G d 127 86 ls st h Q ↔ GN d 127 86 ls h (ldI ls 4 fun x => nx 89 (st1 ls 4 (.int (x + (nI 1)))) st h) Q := G_unf rfl rfl
theorem g127_89 : G d 127 89 ls st h Q ↔ GN d 127 89 ls h (nx 46 ls st h) Q := G_unf rfl rfl
theorem g127_92 : G d 127 92 ls st h Q ↔ GN d 127 92 ls h (nx 93 ls (.int (nI 1) :: st) h) Q := G_unf rfl rfl
theorem g127_93 : G d 127 93 ls st h Q ↔ GN d 127 93 ls h (pIe st fun x => rtn (some (.int x))) Q := G_unf rfl rfl
theorem g128_0 : G d 128 0 ls st h Q ↔ GN d 128 0 ls h (ldR ls 0 fun a => nx 1 ls (.ref a :: st) h) Q := G_unf rfl rfl
theorem g128_1 : G d 128 1 ls st h Q ↔ GN d 128 1 ls h (ldI ls 1 fun x => nx 2 ls (.int x :: st) h) Q := G_unf rfl rfl
theorem g128_2 : G d 128 2 ls st h Q ↔ GN d 128 2 ls h (pA 1 st fun as r => pR r fun a r => ck (r.length ≤ 4 ∧ arr h a 8) (cll 142 (.ref a :: as) r)) Q := G_unf rfl rfl
theorem g128_5 : G d 128 5 ls st h Q ↔ GN d 128 5 ls h (pI st fun x r => br (x = 0) (nx 22 ls r h) (nx 8 ls r h)) Q := G_unf rfl rfl
theorem g128_8 : G d 128 8 ls st h Q ↔ GN d 128 8 ls h (ldR ls 0 fun a => nx 9 ls (.ref a :: st) h) Q := G_unf rfl rfl
theorem g128_9 : G d 128 9 ls st h Q ↔ GN d 128 9 ls h (pR st fun a r => ck (arr h a 8) (nx 12 ls (rv (hR h a 2) :: r) h)) Q := G_unf rfl rfl
theorem g128_12 : G d 128 12 ls st h Q ↔ GN d 128 12 ls h (pR st fun a r => ck (arr h a 1) (nx 15 ls (rv (hR h a 0) :: r) h)) Q := G_unf rfl rfl
theorem g128_15 : G d 128 15 ls st h Q ↔ GN d 128 15 ls h (ldI ls 1 fun x => nx 16 ls (.int x :: st) h) Q := G_unf rfl rfl
theorem g128_16 : G d 128 16 ls st h Q ↔ GN d 128 16 ls h (pA 1 st fun as r => pR r fun a r => ck (r.length ≤ 4 ∧ arr h a 0) (cll 9 (.ref a :: as) r)) Q := G_unf rfl rfl
theorem g128_19 : G d 128 19 ls st h Q ↔ GN d 128 19 ls h (nx 23 ls st h) Q := G_unf rfl rfl
theorem g128_22 : G d 128 22 ls st h Q ↔ GN d 128 22 ls h (nx 23 ls (.int (-1) :: st) h) Q := G_unf rfl rfl
theorem g128_23 : G d 128 23 ls st h Q ↔ GN d 128 23 ls h (pIe st fun x => rtn (some (.int x))) Q := G_unf rfl rfl
theorem g129_0 : G d 129 0 ls st h Q ↔ GN d 129 0 ls h (ldR ls 0 fun a => nx 1 ls (.ref a :: st) h) Q := G_unf rfl rfl
theorem g129_1 : G d 129 1 ls st h Q ↔ GN d 129 1 ls h (ldI ls 1 fun x => nx 2 ls (.int x :: st) h) Q := G_unf rfl rfl
theorem g129_2 : G d 129 2 ls st h Q ↔ GN d 129 2 ls h (pA 1 st fun as r => pR r fun a r => ck (r.length ≤ 4 ∧ arr h a 8) (cll 142 (.ref a :: as) r)) Q := G_unf rfl rfl
theorem g129_5 : G d 129 5 ls st h Q ↔ GN d 129 5 ls h (pI st fun x r => br (x = 0) (nx 21 ls r h) (nx 8 ls r h)) Q := G_unf rfl rfl
theorem g129_8 : G d 129 8 ls st h Q ↔ GN d 129 8 ls h (ldR ls 0 fun a => nx 9 ls (.ref a :: st) h) Q := G_unf rfl rfl
theorem g129_9 : G d 129 9 ls st h Q ↔ GN d 129 9 ls h (ldI ls 2 fun x => nx 10 ls (.int x :: st) h) Q := G_unf rfl rfl
theorem g129_10 : G d 129 10 ls st h Q ↔ GN d 129 10 ls h (pA 1 st fun as r => pR r fun a r => ck (r.length ≤ 4 ∧ arr h a 8) (cll 141 (.ref a :: as) r)) Q := G_unf rfl rfl
theorem g129_13 : G d 129 13 ls st h Q ↔ GN d 129 13 ls h (pI st fun x r => br (x = 0) (nx 21 ls r h) (nx 16 ls r h)) Q := G_unf rfl rfl
theorem g129_16 : G d 129 16 ls st h Q ↔ GN d 129 16 ls h (ldI ls 3 fun x => nx 17 ls (.int x :: st) h) Q := G_unf rfl rfl
theorem g129_17 : G d 129 17 ls st h Q ↔ GN d 129 17 ls h (nx 18 ls (.int (-1) :: st) h) Q := G_unf rfl rfl
theorem g129_18 : G d 129 18 ls st h Q ↔ GN d 129 18 ls h (pII st fun x y r => br (y ≤ x) (nx 23 ls r h) (nx 21 ls r h)) Q := G_unf rfl rfl
theorem g129_21 : G d 129 21 ls st h Q ↔ GN d 129 21 ls h (nx 22 ls (.int (-1) :: st) h) Q := G_unf rfl rfl
theorem g129_22 : G d 129 22 ls st h Q ↔ GN d 129 22 ls h (pIe st fun x => rtn (some (.int x))) Q := G_unf rfl rfl
theorem g129_23 : G d 129 23 ls st h Q ↔ GN d 129 23 ls h (ldR ls 0 fun a => nx 24 ls (.ref a :: st) h) Q := G_unf rfl rfl
theorem g129_24 : G d 129 24 ls st h Q ↔ GN d 129 24 ls h (pR st fun a r => ck (arr h a 8) (nx 27 ls (rv (hR h a 3) :: r) h)) Q := G_unf rfl rfl
theorem g129_27 : G d 129 27 ls st h Q ↔ GN d 129 27 ls h (ldR ls 0 fun a => nx 28 ls (.ref a :: st) h) Q := G_unf rfl rfl
theorem g129_28 : G d 129 28 ls st h Q ↔ GN d 129 28 ls h (pR st fun a r => ck (arr h a 8) (nx 31 ls (rv (hR h a 2) :: r) h)) Q := G_unf rfl rfl
theorem g129_31 : G d 129 31 ls st h Q ↔ GN d 129 31 ls h (pR st fun a r => ck (arr h a 1) (nx 34 ls (rv (hR h a 0) :: r) h)) Q := G_unf rfl rfl
theorem g129_34 : G d 129 34 ls st h Q ↔ GN d 129 34 ls h (ldI ls 1 fun x => nx 35 ls (.int x :: st) h) Q := G_unf rfl rfl
theorem g129_35 : G d 129 35 ls st h Q ↔ GN d 129 35 ls h (ldI ls 2 fun x => nx 36 ls (.int x :: st) h) Q := G_unf rfl rfl
theorem g129_36 : G d 129 36 ls st h Q ↔ GN d 129 36 ls h (pA 3 st fun as r => pR r fun a r => ck (r.length ≤ 4 ∧ arr h a 4) (cll 35 (.ref a :: as) r)) Q := G_unf rfl rfl
theorem g129_39 : G d 129 39 ls st h Q ↔ GN d 129 39 ls h (pI st fun x r => ck (4 < ls.length) (nx 41 (st1 ls 4 (.int x)) r h)) Q := G_unf rfl rfl
theorem g129_41 : G d 129 41 ls st h Q ↔ GN d 129 41 ls h (ldI ls 3 fun x => nx 42 ls (.int x :: st) h) Q := G_unf rfl rfl
theorem g129_42 : G d 129 42 ls st h Q ↔ GN d 129 42 ls h (nx 43 ls (.int (-1) :: st) h) Q := G_unf rfl rfl
theorem g129_43 : G d 129 43 ls st h Q ↔ GN d 129 43 ls h (pII st fun x y r => br (x = y) (nx 52 ls r h) (nx 46 ls r h)) Q := G_unf rfl rfl
theorem g129_46 : G d 129 46 ls st h Q ↔ GN d 129 46 ls h (ldI ls 4 fun x => nx 48 ls (.int x :: st) h) Q := G_unf rfl rfl
theorem g129_48 : G d 129 48 ls st h Q ↔ GN d 129 48 ls h (nx 49 ls (.int (-1) :: st) h) Q := G_unf rfl rfl
theorem g129_49 : G d 129 49 ls st h Q ↔ GN d 129 49 ls h (pII st fun x y r => br (¬ x = y) (nx 55 ls r h) (nx 52 ls r h)) Q := G_unf rfl rfl
theorem g129_52 : G d 129 52 ls st h Q ↔ GN d 129 52 ls h (ldI ls 4 fun x => nx 54 ls (.int x :: st) h) Q := G_unf rfl rfl
theorem g129_54 : G d 129 54 ls st h Q ↔ GN d 129 54 ls h (pIe st fun x => rtn (some (.int x))) Q := G_unf rfl rfl
theorem g129_55 : G d 129 55 ls st h Q ↔ GN d 129 55 ls h (ldI ls 3 fun x => nx 56 ls (.int x :: st) h) Q := G_unf rfl rfl
theorem g129_56 : G d 129 56 ls st h Q ↔ GN d 129 56 ls h (ldI ls 4 fun x => nx 58 ls (.int x :: st) h) Q := G_unf rfl rfl
theorem g129_58 : G d 129 58 ls st h Q ↔ GN d 129 58 ls h (pII st fun x y r => br (y ≤ x) (nx 73 ls r h) (nx 61 ls r h)) Q := G_unf rfl rfl
theorem g129_61 : G d 129 61 ls st h Q ↔ GN d 129 61 ls h (ldR ls 0 fun a => nx 62 ls (.ref a :: st) h) Q := G_unf rfl rfl
theorem g129_62 : G d 129 62 ls st h Q ↔ GN d 129 62 ls h (pR st fun a r => ck (arr h a 8) (nx 65 ls (rv (hR h a 3) :: r) h)) Q := G_unf rfl rfl
theorem g129_65 : G d 129 65 ls st h Q ↔ GN d 129 65 ls h (pR st fun a r => ck (arr h a 4) (nx 68 ls (rv (hR h a 0) :: r) h)) Q := G_unf rfl rfl
theorem g129_68 : G d 129 68 ls st h Q ↔ GN d 129 68 ls h (ldI ls 3 fun x => nx 69 ls (.int x :: st) h) Q := G_unf rfl rfl
theorem g129_69 : G d 129 69 ls st h Q ↔ GN d 129 69 ls h (pRI st fun a i r => br (a = 1000003) (ck (inb i (hS h).1) (nx 70 ls (.int ((hS h).2 i.toNatClampNeg) :: r) h)) (ck (arr h a 10 ∧ inb i (hLn h a)) (nx 70 ls (.int (hI h a i.toNatClampNeg) :: r) h))) Q := G_unf rfl rfl
theorem g129_70 : G d 129 70 ls st h Q ↔ GN d 129 70 ls h (nx 74 ls st h) Q := G_unf rfl rfl
theorem g129_73 : G d 129 73 ls st h Q ↔ GN d 129 73 ls h (nx 74 ls (.int (-1) :: st) h) Q := G_unf rfl rfl
theorem g129_74 : G d 129 74 ls st h Q ↔ GN d 129 74 ls h (pIe st fun x => rtn (some (.int x))) Q := G_unf rfl rfl
theorem g130_0 : G d 130 0 ls st h Q ↔ GN d 130 0 ls h (ldR ls 0 fun a => nx 1 ls (.ref a :: st) h) Q := G_unf rfl rfl
theorem g130_1 : G d 130 1 ls st h Q ↔ GN d 130 1 ls h (ldI ls 1 fun x => nx 2 ls (.int x :: st) h) Q := G_unf rfl rfl
theorem g130_2 : G d 130 2 ls st h Q ↔ GN d 130 2 ls h (pA 1 st fun as r => pR r fun a r => ck (r.length ≤ 4 ∧ arr h a 8) (cll 142 (.ref a :: as) r)) Q := G_unf rfl rfl
theorem g130_5 : G d 130 5 ls st h Q ↔ GN d 130 5 ls h (pI st fun x r => br (x = 0) (nx 25 ls r h) (nx 8 ls r h)) Q := G_unf rfl rfl
theorem g130_8 : G d 130 8 ls st h Q ↔ GN d 130 8 ls h (ldR ls 0 fun a => nx 9 ls (.ref a :: st) h) Q := G_unf rfl rfl
theorem g130_9 : G d 130 9 ls st h Q ↔ GN d 130 9 ls h (ldI ls 2 fun x => nx 10 ls (.int x :: st) h) Q := G_unf rfl rfl
theorem g130_10 : G d 130 10 ls st h Q ↔ GN d 130 10 ls h (pA 1 st fun as r => pR r fun a r => ck (r.length ≤ 4 ∧ arr h a 8) (cll 141 (.ref a :: as) r)) Q := G_unf rfl rfl
theorem g130_13 : G d 130 13 ls st h Q ↔ GN d 130 13 ls h (pI st fun x r => br (x = 0) (nx 25 ls r h) (nx 16 ls r h)) Q := G_unf rfl rfl
theorem g130_16 : G d 130 16 ls st h Q ↔ GN d 130 16 ls h (ldI ls 3 fun x => nx 17 ls (.int x :: st) h) Q := G_unf rfl rfl
theorem g130_17 : G d 130 17 ls st h Q ↔ GN d 130 17 ls h (pI st fun x r => br (x < 0) (nx 25 ls r h) (nx 20 ls r h)) Q := G_unf rfl rfl
theorem g130_20 : G d 130 20 ls st h Q ↔ GN d 130 20 ls h (ldI ls 3 fun x => nx 21 ls (.int x :: st) h) Q := G_unf rfl rfl
theorem g130_21 : G d 130 21 ls st h Q ↔ GN d 130 21 ls h (nx 22 ls (.int (nI 1) :: st) h) Q := G_unf rfl rfl
theorem g130_22 : G d 130 22 ls st h Q ↔ GN d 130 22 ls h (pII st fun x y r => br (x ≤ y) (nx 27 ls r h) (nx 25 ls r h)) Q := G_unf rfl rfl
theorem g130_25 : G d 130 25 ls st h Q ↔ GN d 130 25 ls h (nx 26 ls (.int (-1) :: st) h) Q := G_unf rfl rfl
theorem g130_26 : G d 130 26 ls st h Q ↔ GN d 130 26 ls h (pIe st fun x => rtn (some (.int x))) Q := G_unf rfl rfl
theorem g130_27 : G d 130 27 ls st h Q ↔ GN d 130 27 ls h (ldR ls 0 fun a => nx 28 ls (.ref a :: st) h) Q := G_unf rfl rfl
theorem g130_28 : G d 130 28 ls st h Q ↔ GN d 130 28 ls h (pR st fun a r => ck (arr h a 8) (nx 31 ls (rv (hR h a 3) :: r) h)) Q := G_unf rfl rfl
theorem g130_31 : G d 130 31 ls st h Q ↔ GN d 130 31 ls h (pR st fun a r => ck (arr h a 4) (nx 34 ls (rv (hR h a 1) :: r) h)) Q := G_unf rfl rfl
theorem g130_34 : G d 130 34 ls st h Q ↔ GN d 130 34 ls h (nx 35 ls (.int (nI 1) :: st) h) Q := G_unf rfl rfl
theorem g130_35 : G d 130 35 ls st h Q ↔ GN d 130 35 ls h (pA 2 st fun as r => ck (r.length ≤ 4) (cll 288 as r)) Q := G_unf rfl rfl
theorem g130_38 : G d 130 38 ls st h Q ↔ GN d 130 38 ls h (ldR ls 0 fun a => nx 39 ls (.ref a :: st) h) Q := G_unf rfl rfl
theorem g130_39 : G d 130 39 ls st h Q ↔ GN d 130 39 ls h (pR st fun a r => ck (arr h a 8) (nx 42 ls (rv (hR h a 3) :: r) h)) Q := G_unf rfl rfl
theorem g130_42 : G d 130 42 ls st h Q ↔ GN d 130 42 ls h (ldR ls 0 fun a => nx 43 ls (.ref a :: st) h) Q := G_unf rfl rfl
theorem g130_43 : G d 130 43 ls st h Q ↔ GN d 130 43 ls h (pR st fun a r => ck (arr h a 8) (nx 46 ls (rv (hR h a 2) :: r) h)) Q := G_unf rfl rfl
theorem g130_46 : G d 130 46 ls st h Q ↔ GN d 130 46 ls h (pR st fun a r => ck (arr h a 1) (nx 49 ls (rv (hR h a 0) :: r) h)) Q := G_unf rfl rfl
theorem g130_49 : G d 130 49 ls st h Q ↔ GN d 130 49 ls h (ldI ls 1 fun x => nx 50 ls (.int x :: st) h) Q := G_unf rfl rfl
theorem g130_50 : G d 130 50 ls st h Q ↔ GN d 130 50 ls h (ldI ls 2 fun x => nx 51 ls (.int x :: st) h) Q := G_unf rfl rfl
theorem g130_51 : G d 130 51 ls st h Q ↔ GN d 130 51 ls h (pA 3 st fun as r => pR r fun a r => ck (r.length ≤ 4 ∧ arr h a 4) (cll 39 (.ref a :: as) r)) Q := G_unf rfl rfl
theorem g130_54 : G d 130 54 ls st h Q ↔ GN d 130 54 ls h (pI st fun x r => ck (4 < ls.length) (nx 56 (st1 ls 4 (.int x)) r h)) Q := G_unf rfl rfl
theorem g130_56 : G d 130 56 ls st h Q ↔ GN d 130 56 ls h (ldI ls 3 fun x => nx 57 ls (.int x :: st) h) Q := G_unf rfl rfl
theorem g130_57 : G d 130 57 ls st h Q ↔ GN d 130 57 ls h (pI st fun x r => br (¬ x = 0) (nx 68 ls r h) (nx 60 ls r h)) Q := G_unf rfl rfl
theorem g130_60 : G d 130 60 ls st h Q ↔ GN d 130 60 ls h (ldI ls 4 fun x => nx 62 ls (.int x :: st) h) Q := G_unf rfl rfl
theorem g130_62 : G d 130 62 ls st h Q ↔ GN d 130 62 ls h (pA 1 st fun as r => ck (r.length ≤ 4) (cll 273 as r)) Q := G_unf rfl rfl
theorem g130_65 : G d 130 65 ls st h Q ↔ GN d 130 65 ls h (nx 70 ls st h) Q := G_unf rfl rfl
theorem g130_68 : G d 130 68 ls st h Q ↔ GN d 130 68 ls h (ldI ls 4 fun x => nx 70 ls (.int x :: st) h) Q := G_unf rfl rfl
theorem g130_70 : G d 130 70 ls st h Q ↔ GN d 130 70 ls h (pIe st fun x => rtn (some (.int x))) Q := G_unf rfl rfl
theorem g131_0 : G d 131 0 ls st h Q ↔ GN d 131 0 ls h (ldR ls 0 fun a => nx 1 ls (.ref a :: st) h) Q := G_unf rfl rfl
theorem g131_1 : G d 131 1 ls st h Q ↔ GN d 131 1 ls h (ldI ls 1 fun x => nx 2 ls (.int x :: st) h) Q := G_unf rfl rfl
theorem g131_2 : G d 131 2 ls st h Q ↔ GN d 131 2 ls h (pA 1 st fun as r => pR r fun a r => ck (r.length ≤ 4 ∧ arr h a 8) (cll 143 (.ref a :: as) r)) Q := G_unf rfl rfl
theorem g131_5 : G d 131 5 ls st h Q ↔ GN d 131 5 ls h (pI st fun x r => br (x = 0) (nx 27 ls r h) (nx 8 ls r h)) Q := G_unf rfl rfl
theorem g131_8 : G d 131 8 ls st h Q ↔ GN d 131 8 ls h (ldR ls 0 fun a => nx 9 ls (.ref a :: st) h) Q := G_unf rfl rfl
theorem g131_9 : G d 131 9 ls st h Q ↔ GN d 131 9 ls h (ldI ls 2 fun x => nx 10 ls (.int x :: st) h) Q := G_unf rfl rfl
theorem g131_10 : G d 131 10 ls st h Q ↔ GN d 131 10 ls h (pA 1 st fun as r => pR r fun a r => ck (r.length ≤ 4 ∧ arr h a 8) (cll 141 (.ref a :: as) r)) Q := G_unf rfl rfl
theorem g131_13 : G d 131 13 ls st h Q ↔ GN d 131 13 ls h (pI st fun x r => br (x = 0) (nx 27 ls r h) (nx 16 ls r h)) Q := G_unf rfl rfl
theorem g131_16 : G d 131 16 ls st h Q ↔ GN d 131 16 ls h (ldI ls 3 fun x => nx 17 ls (.int x :: st) h) Q := G_unf rfl rfl
theorem g131_17 : G d 131 17 ls st h Q ↔ GN d 131 17 ls h (pI st fun x r => br (x < 0) (nx 27 ls r h) (nx 20 ls r h)) Q := G_unf rfl rfl
theorem g131_20 : G d 131 20 ls st h Q ↔ GN d 131 20 ls h (ldI ls 3 fun x => nx 21 ls (.int x :: st) h) Q := G_unf rfl rfl
theorem g131_21 : G d 131 21 ls st h Q ↔ GN d 131 21 ls h (nx 24 ls (.int (nI 999) :: st) h) Q := G_unf rfl rfl
theorem g131_24 : G d 131 24 ls st h Q ↔ GN d 131 24 ls h (pII st fun x y r => br (x ≤ y) (nx 29 ls r h) (nx 27 ls r h)) Q := G_unf rfl rfl
theorem g131_27 : G d 131 27 ls st h Q ↔ GN d 131 27 ls h (nx 28 ls (.int (-1) :: st) h) Q := G_unf rfl rfl
theorem g131_28 : G d 131 28 ls st h Q ↔ GN d 131 28 ls h (pIe st fun x => rtn (some (.int x))) Q := G_unf rfl rfl
theorem g131_29 : G d 131 29 ls st h Q ↔ GN d 131 29 ls h (ldI ls 4 fun x => nx 31 ls (.int x :: st) h) Q := G_unf rfl rfl
theorem g131_31 : G d 131 31 ls st h Q ↔ GN d 131 31 ls h (pI st fun x r => br (x < 0) (nx 40 ls r h) (nx 34 ls r h)) Q := G_unf rfl rfl
theorem g131_34 : G d 131 34 ls st h Q ↔ GN d 131 34 ls h (ldI ls 4 fun x => nx 36 ls (.int x :: st) h) Q := G_unf rfl rfl
theorem g131_36 : G d 131 36 ls st h Q ↔ GN d 131 36 ls h (nx 37 ls (.int (nI 1) :: st) h) Q := G_unf rfl rfl
theorem g131_37 : G d 131 37 ls st h Q ↔ GN d 131 37 ls h (pII st fun x y r => br (x ≤ y) (nx 42 ls r h) (nx 40 ls r h)) Q := G_unf rfl rfl
theorem g131_40 : G d 131 40 ls st h Q ↔ GN d 131 40 ls h (nx 41 ls (.int (-1) :: st) h) Q := G_unf rfl rfl
theorem g131_41 : G d 131 41 ls st h Q ↔ GN d 131 41 ls h (pIe st fun x => rtn (some (.int x))) Q := G_unf rfl rfl
theorem g131_42 : G d 131 42 ls st h Q ↔ GN d 131 42 ls h (ldR ls 0 fun a => nx 43 ls (.ref a :: st) h) Q := G_unf rfl rfl
theorem g131_43 : G d 131 43 ls st h Q ↔ GN d 131 43 ls h (pR st fun a r => ck (arr h a 8) (nx 46 ls (rv (hR h a 3) :: r) h)) Q := G_unf rfl rfl
theorem g131_46 : G d 131 46 ls st h Q ↔ GN d 131 46 ls h (ldR ls 0 fun a => nx 47 ls (.ref a :: st) h) Q := G_unf rfl rfl
theorem g131_47 : G d 131 47 ls st h Q ↔ GN d 131 47 ls h (pR st fun a r => ck (arr h a 8) (nx 50 ls (rv (hR h a 2) :: r) h)) Q := G_unf rfl rfl
theorem g131_50 : G d 131 50 ls st h Q ↔ GN d 131 50 ls h (ldR ls 0 fun a => nx 51 ls (.ref a :: st) h) Q := G_unf rfl rfl
theorem g131_51 : G d 131 51 ls st h Q ↔ GN d 131 51 ls h (pR st fun a r => ck (arr h a 8) (nx 54 ls (rv (hR h a 6) :: r) h)) Q := G_unf rfl rfl
theorem g131_54 : G d 131 54 ls st h Q ↔ GN d 131 54 ls h (ldI ls 1 fun x => nx 55 ls (.int x :: st) h) Q := G_unf rfl rfl
theorem g131_55 : G d 131 55 ls st h Q ↔ GN d 131 55 ls h (pA 3 st fun as r => pR r fun a r => ck (r.length ≤ 4 ∧ arr h a 4) (cll 41 (.ref a :: as) r)) Q := G_unf rfl rfl
theorem g131_58 : G d 131 58 ls st h Q ↔ GN d 131 58 ls h (ldR ls 0 fun a => nx 59 ls (.ref a :: st) h) Q := G_unf rfl rfl
theorem g131_59 : G d 131 59 ls st h Q ↔ GN d 131 59 ls h (pR st fun a r => ck (arr h a 8) (nx 62 ls (rv (hR h a 3) :: r) h)) Q := G_unf rfl rfl
theorem g131_62 : G d 131 62 ls st h Q ↔ GN d 131 62 ls h (ldR ls 0 fun a => nx 63 ls (.ref a :: st) h) Q := G_unf rfl rfl
theorem g131_63 : G d 131 63 ls st h Q ↔ GN d 131 63 ls h (pR st fun a r => ck (arr h a 8) (nx 66 ls (rv (hR h a 2) :: r) h)) Q := G_unf rfl rfl
theorem g131_66 : G d 131 66 ls st h Q ↔ GN d 131 66 ls h (pR st fun a r => ck (arr h a 1) (nx 69 ls (rv (hR h a 0) :: r) h)) Q := G_unf rfl rfl
theorem g131_69 : G d 131 69 ls st h Q ↔ GN d 131 69 ls h (ldR ls 0 fun a => nx 70 ls (.ref a :: st) h) Q := G_unf rfl rfl
theorem g131_70 : G d 131 70 ls st h Q ↔ GN d 131 70 ls h (pR st fun a r => ck (arr h a 8) (nx 73 ls (rv (hR h a 2) :: r) h)) Q := G_unf rfl rfl
theorem g131_73 : G d 131 73 ls st h Q ↔ GN d 131 73 ls h (pR st fun a r => ck (arr h a 1) (nx 76 ls (rv (hR h a 0) :: r) h)) Q := G_unf rfl rfl
theorem g131_76 : G d 131 76 ls st h Q ↔ GN d 131 76 ls h (ldI ls 3 fun x => nx 77 ls (.int x :: st) h) Q := G_unf rfl rfl
theorem g131_77 : G d 131 77 ls st h Q ↔ GN d 131 77 ls h (pA 1 st fun as r => pR r fun a r => ck (r.length ≤ 4 ∧ arr h a 0) (cll 3 (.ref a :: as) r)) Q := G_unf rfl rfl
theorem g131_80 : G d 131 80 ls st h Q ↔ GN d 131 80 ls h (ldI ls 2 fun x => nx 81 ls (.int x :: st) h) Q := G_unf rfl rfl
theorem g131_81 : G d 131 81 ls st h Q ↔ GN d 131 81 ls h (pA 3 st fun as r => pR r fun a r => ck (r.length ≤ 4 ∧ arr h a 4) (cll 39 (.ref a :: as) r)) Q := G_unf rfl rfl
theorem g131_84 : G d 131 84 ls st h Q ↔ GN d 131 84 ls h (pI st fun x r => ck (5 < ls.length) (nx 86 (st1 ls 5 (.int x)) r h)) Q := G_unf rfl rfl
theorem g131_86 : G d 131 86 ls st h Q ↔ GN d 131 86 ls h (ldI ls 4 fun x => nx 88 ls (.int x :: st) h) Q := G_unf rfl rfl
theorem g131_88 : G d 131 88 ls st h Q ↔ GN d 131 88 ls h (pI st fun x r => br (¬ x = 0) (nx 103 ls r h) (nx 91 ls r h)) Q := G_unf rfl rfl
theorem g131_91 : G d 131 91 ls st h Q ↔ GN d 131 91 ls h (ldR ls 0 fun a => nx 92 ls (.ref a :: st) h) Q := G_unf rfl rfl
theorem g131_92 : G d 131 92 ls st h Q ↔ GN d 131 92 ls h (pR st fun a r => ck (arr h a 8) (nx 95 ls (rv (hR h a 3) :: r) h)) Q := G_unf rfl rfl
theorem g131_95 : G d 131 95 ls st h Q ↔ GN d 131 95 ls h (ldI ls 5 fun x => nx 97 ls (.int x :: st) h) Q := G_unf rfl rfl
theorem g131_97 : G d 131 97 ls st h Q ↔ GN d 131 97 ls h (pA 1 st fun as r => pR r fun a r => ck (r.length ≤ 4 ∧ arr h a 4) (cll 40 (.ref a :: as) r)) Q := G_unf rfl rfl
theorem g131_100 : G d 131 100 ls st h Q ↔ GN d 131 100 ls h (nx 105 ls st h) Q := G_unf rfl rfl
theorem g131_103 : G d 131 103 ls st h Q ↔ GN d 131 103 ls h (ldI ls 5 fun x => nx 105 ls (.int x :: st) h) Q := G_unf rfl rfl
theorem g131_105 : G d 131 105 ls st h Q ↔ GN d 131 105 ls h (pIe st fun x => rtn (some (.int x))) Q := G_unf rfl rfl
theorem g132_0 : G d 132 0 ls st h Q ↔ GN d 132 0 ls h (ldR ls 0 fun a => nx 1 ls (.ref a :: st) h) Q := G_unf rfl rfl
theorem g132_1 : G d 132 1 ls st h Q ↔ GN d 132 1 ls h (ldI ls 1 fun x => nx 2 ls (.int x :: st) h) Q := G_unf rfl rfl
theorem g132_2 : G d 132 2 ls st h Q ↔ GN d 132 2 ls h (pA 1 st fun as r => pR r fun a r => ck (r.length ≤ 4 ∧ arr h a 8) (cll 144 (.ref a :: as) r)) Q := G_unf rfl rfl
theorem g132_5 : G d 132 5 ls st h Q ↔ GN d 132 5 ls h (pI st fun x r => br (x = 0) (nx 13 ls r h) (nx 8 ls r h)) Q := G_unf rfl rfl
theorem g132_8 : G d 132 8 ls st h Q ↔ GN d 132 8 ls h (ldI ls 2 fun x => nx 9 ls (.int x :: st) h) Q := G_unf rfl rfl
theorem g132_9 : G d 132 9 ls st h Q ↔ GN d 132 9 ls h (nx 10 ls (.int (-1) :: st) h) Q := G_unf rfl rfl
theorem g132_10 : G d 132 10 ls st h Q ↔ GN d 132 10 ls h (pII st fun x y r => br (y ≤ x) (nx 15 ls r h) (nx 13 ls r h)) Q := G_unf rfl rfl
theorem g132_13 : G d 132 13 ls st h Q ↔ GN d 132 13 ls h (nx 14 ls (.int (-1) :: st) h) Q := G_unf rfl rfl
theorem g132_14 : G d 132 14 ls st h Q ↔ GN d 132 14 ls h (pIe st fun x => rtn (some (.int x))) Q := G_unf rfl rfl
theorem g132_15 : G d 132 15 ls st h Q ↔ GN d 132 15 ls h (ldR ls 0 fun a => nx 16 ls (.ref a :: st) h) Q := G_unf rfl rfl
theorem g132_16 : G d 132 16 ls st h Q ↔ GN d 132 16 ls h (pR st fun a r => ck (arr h a 8) (nx 19 ls (rv (hR h a 3) :: r) h)) Q := G_unf rfl rfl
theorem g132_19 : G d 132 19 ls st h Q ↔ GN d 132 19 ls h (ldR ls 0 fun a => nx 20 ls (.ref a :: st) h) Q := G_unf rfl rfl
theorem g132_20 : G d 132 20 ls st h Q ↔ GN d 132 20 ls h (pR st fun a r => ck (arr h a 8) (nx 23 ls (rv (hR h a 2) :: r) h)) Q := G_unf rfl rfl
theorem g132_23 : G d 132 23 ls st h Q ↔ GN d 132 23 ls h (pR st fun a r => ck (arr h a 1) (nx 26 ls (rv (hR h a 0) :: r) h)) Q := G_unf rfl rfl
theorem g132_26 : G d 132 26 ls st h Q ↔ GN d 132 26 ls h (ldR ls 0 fun a => nx 27 ls (.ref a :: st) h) Q := G_unf rfl rfl
theorem g132_27 : G d 132 27 ls st h Q ↔ GN d 132 27 ls h (pR st fun a r => ck (arr h a 8) (nx 30 ls (rv (hR h a 6) :: r) h)) Q := G_unf rfl rfl
theorem g132_30 : G d 132 30 ls st h Q ↔ GN d 132 30 ls h (pR st fun a r => ck (arr h a 6) (nx 33 ls (.int (hI h a 0) :: r) h)) Q := G_unf rfl rfl
theorem g132_33 : G d 132 33 ls st h Q ↔ GN d 132 33 ls h (ldI ls 1 fun x => nx 34 ls (.int x :: st) h) Q := G_unf rfl rfl
theorem g132_34 : G d 132 34 ls st h Q ↔ GN d 132 34 ls h (pA 3 st fun as r => pR r fun a r => ck (r.length ≤ 4 ∧ arr h a 4) (cll 42 (.ref a :: as) r)) Q := G_unf rfl rfl
theorem g132_37 : G d 132 37 ls st h Q ↔ GN d 132 37 ls h (pI st fun x r => ck (3 < ls.length) (nx 38 (st1 ls 3 (.int x)) r h)) Q := G_unf rfl rfl
theorem g132_38 : G d 132 38 ls st h Q ↔ GN d 132 38 ls h (ldI ls 3 fun x => nx 39 ls (.int x :: st) h) Q := G_unf rfl rfl
theorem g132_39 : G d 132 39 ls st h Q ↔ GN d 132 39 ls h (nx 40 ls (.int (-1) :: st) h) Q := G_unf rfl rfl
theorem g132_40 : G d 132 40 ls st h Q ↔ GN d 132 40 ls h (pII st fun x y r => br (¬ x = y) (nx 45 ls r h) (nx 43 ls r h)) Q := G_unf rfl rfl
theorem g132_43 : G d 132 43 ls st h Q ↔ GN d 132 43 ls h (nx 44 ls (.int (-1) :: st) h) Q := G_unf rfl rfl
theorem g132_44 : G d 132 44 ls st h Q ↔ GN d 132 44 ls h (pIe st fun x => rtn (some (.int x))) Q := G_unf rfl rfl
theorem g132_45 : G d 132 45 ls st h Q ↔ GN d 132 45 ls h (ldI ls 2 fun x => nx 46 ls (.int x :: st) h) Q := G_unf rfl rfl
theorem g132_46 : G d 132 46 ls st h Q ↔ GN d 132 46 ls h (nx 47 ls (.int (-1) :: st) h) Q := G_unf rfl rfl
theorem g132_47 : G d 132 47 ls st h Q ↔ GN d 132 47 ls h (pII st fun x y r => br (¬ x = y) (nx 57 ls r h) (nx 50 ls r h)) Q := G_unf rfl rfl
theorem g132_50 : G d 132 50 ls st h Q ↔ GN d 132 50 ls h (ldI ls 3 fun x => nx 51 ls (.int x :: st) h) Q := G_unf rfl rfl
theorem g132_51 : G d 132 51 ls st h Q ↔ GN d 132 51 ls h (pA 1 st fun as r => ck (r.length ≤ 4) (cll 273 as r)) Q := G_unf rfl rfl
theorem g132_54 : G d 132 54 ls st h Q ↔ GN d 132 54 ls h (nx 66 ls st h) Q := G_unf rfl rfl
theorem g132_57 : G d 132 57 ls st h Q ↔ GN d 132 57 ls h (ldR ls 0 fun a => nx 58 ls (.ref a :: st) h) Q := G_unf rfl rfl
theorem g132_58 : G d 132 58 ls st h Q ↔ GN d 132 58 ls h (pR st fun a r => ck (arr h a 8) (nx 61 ls (rv (hR h a 3) :: r) h)) Q := G_unf rfl rfl
theorem g132_61 : G d 132 61 ls st h Q ↔ GN d 132 61 ls h (ldI ls 3 fun x => nx 62 ls (.int x :: st) h) Q := G_unf rfl rfl
theorem g132_62 : G d 132 62 ls st h Q ↔ GN d 132 62 ls h (ldI ls 2 fun x => nx 63 ls (.int x :: st) h) Q := G_unf rfl rfl
theorem g132_63 : G d 132 63 ls st h Q ↔ GN d 132 63 ls h (pA 2 st fun as r => pR r fun a r => ck (r.length ≤ 4 ∧ arr h a 4) (cll 43 (.ref a :: as) r)) Q := G_unf rfl rfl
theorem g132_66 : G d 132 66 ls st h Q ↔ GN d 132 66 ls h (pIe st fun x => rtn (some (.int x))) Q := G_unf rfl rfl
theorem g133_0 : G d 133 0 ls st h Q ↔ GN d 133 0 ls h (ldI ls 1 fun x => nx 1 ls (.int x :: st) h) Q := G_unf rfl rfl
theorem g133_1 : G d 133 1 ls st h Q ↔ GN d 133 1 ls h (pI st fun x r => br (x < 0) (nx 13 ls r h) (nx 4 ls r h)) Q := G_unf rfl rfl
theorem g133_4 : G d 133 4 ls st h Q ↔ GN d 133 4 ls h (ldI ls 2 fun x => nx 5 ls (.int x :: st) h) Q := G_unf rfl rfl
theorem g133_5 : G d 133 5 ls st h Q ↔ GN d 133 5 ls h (pI st fun x r => br (x < 0) (nx 13 ls r h) (nx 8 ls r h)) Q := G_unf rfl rfl
theorem g133_8 : G d 133 8 ls st h Q ↔ GN d 133 8 ls h (ldI ls 2 fun x => nx 9 ls (.int x :: st) h) Q := G_unf rfl rfl
theorem g133_9 : G d 133 9 ls st h Q ↔ GN d 133 9 ls h (nx 10 ls (.int (nI 2) :: st) h) Q := G_unf rfl rfl
theorem g133_10 : G d 133 10 ls st h Q ↔ GN d 133 10 ls h (pII st fun x y r => br (x ≤ y) (nx 15 ls r h) (nx 13 ls r h)) Q := G_unf rfl rfl
theorem g133_13 : G d 133 13 ls st h Q ↔ GN d 133 13 ls h (nx 14 ls (.int (-1) :: st) h) Q := G_unf rfl rfl
theorem g133_14 : G d 133 14 ls st h Q ↔ GN d 133 14 ls h (pIe st fun x => rtn (some (.int x))) Q := G_unf rfl rfl
theorem g133_15 : G d 133 15 ls st h Q ↔ GN d 133 15 ls h (ldR ls 0 fun a => nx 16 ls (.ref a :: st) h) Q := G_unf rfl rfl
theorem g133_16 : G d 133 16 ls st h Q ↔ GN d 133 16 ls h (pR st fun a r => ck (arr h a 8) (nx 19 ls (rv (hR h a 3) :: r) h)) Q := G_unf rfl rfl
theorem g133_19 : G d 133 19 ls st h Q ↔ GN d 133 19 ls h (ldR ls 0 fun a => nx 20 ls (.ref a :: st) h) Q := G_unf rfl rfl
theorem g133_20 : G d 133 20 ls st h Q ↔ GN d 133 20 ls h (pR st fun a r => ck (arr h a 8) (nx 23 ls (rv (hR h a 2) :: r) h)) Q := G_unf rfl rfl
theorem g133_23 : G d 133 23 ls st h Q ↔ GN d 133 23 ls h (pR st fun a r => ck (arr h a 1) (nx 26 ls (rv (hR h a 0) :: r) h)) Q := G_unf rfl rfl
theorem g133_26 : G d 133 26 ls st h Q ↔ GN d 133 26 ls h (ldR ls 0 fun a => nx 27 ls (.ref a :: st) h) Q := G_unf rfl rfl
theorem g133_27 : G d 133 27 ls st h Q ↔ GN d 133 27 ls h (pR st fun a r => ck (arr h a 8) (nx 30 ls (rv (hR h a 6) :: r) h)) Q := G_unf rfl rfl
theorem g133_30 : G d 133 30 ls st h Q ↔ GN d 133 30 ls h (pR st fun a r => ck (arr h a 6) (nx 33 ls (.int (hI h a 0) :: r) h)) Q := G_unf rfl rfl
theorem g133_33 : G d 133 33 ls st h Q ↔ GN d 133 33 ls h (ldI ls 1 fun x => nx 34 ls (.int x :: st) h) Q := G_unf rfl rfl
theorem g133_34 : G d 133 34 ls st h Q ↔ GN d 133 34 ls h (pA 3 st fun as r => pR r fun a r => ck (r.length ≤ 4 ∧ arr h a 4) (cll 46 (.ref a :: as) r)) Q := G_unf rfl rfl
theorem g133_37 : G d 133 37 ls st h Q ↔ GN d 133 37 ls h (ldI ls 2 fun x => nx 38 ls (.int x :: st) h) Q := G_unf rfl rfl
theorem g133_38 : G d 133 38 ls st h Q ↔ GN d 133 38 ls h (pI st fun x r => br (¬ x = 0) (nx 49 ls r h) (nx 41 ls r h)) Q := G_unf rfl rfl
theorem g133_41 : G d 133 41 ls st h Q ↔ GN d 133 41 ls h (ldR ls 0 fun a => nx 42 ls (.ref a :: st) h) Q := G_unf rfl rfl
theorem g133_42 : G d 133 42 ls st h Q ↔ GN d 133 42 ls h (pR st fun a r => ck (arr h a 8) (nx 45 ls (rv (hR h a 3) :: r) h)) Q := G_unf rfl rfl
theorem g133_45 : G d 133 45 ls st h Q ↔ GN d 133 45 ls h (pR st fun a r => ck (arr h a 4) (nx 48 ls (.int (hI h a 2) :: r) h)) Q := G_unf rfl rfl
theorem g133_48 : G d 133 48 ls st h Q ↔ GN d 133 48 ls h (pIe st fun x => rtn (some (.int x))) Q := G_unf rfl rfl
theorem g133_49 : G d 133 49 ls st h Q ↔ GN d 133 49 ls h (ldI ls 2 fun x => nx 50 ls (.int x :: st) h) Q := G_unf rfl rfl
theorem g133_50 : G d 133 50 ls st h Q ↔ GN d 133 50 ls h (nx 51 ls (.int (nI 1) :: st) h) Q := G_unf rfl rfl
theorem g133_51 : G d 133 51 ls st h Q ↔ GN d 133 51 ls h (pII st fun x y r => br (¬ x = y) (nx 64 ls r h) (nx 54 ls r h)) Q := G_unf rfl rfl
theorem g133_54 : G d 133 54 ls st h Q ↔ GN d 133 54 ls h (ldR ls 0 fun a => nx 55 ls (.ref a :: st) h) Q := G_unf rfl rfl
theorem g133_55 : G d 133 55 ls st h Q ↔ GN d 133 55 ls h (pR st fun a r => ck (arr h a 8) (nx 58 ls (rv (hR h a 3) :: r) h)) Q := G_unf rfl rfl
theorem g133_58 : G d 133 58 ls st h Q ↔ GN d 133 58 ls h (pR st fun a r => ck (arr h a 4) (nx 61 ls (.int (hI h a 3) :: r) h)) Q := G_unf rfl rfl
theorem g133_61 : G d 133 61 ls st h Q ↔ GN d 133 61 ls h (nx 71 ls st h) Q := G_unf rfl rfl
theorem g133_64 : G d 133 64 ls st h Q ↔ GN d 133 64 ls h (ldR ls 0 fun a => nx 65 ls (.ref a :: st) h) Q := G_unf rfl rfl
theorem g133_65 : G d 133 65 ls st h Q ↔ GN d 133 65 ls h (pR st fun a r => ck (arr h a 8) (nx 68 ls (rv (hR h a 3) :: r) h)) Q := G_unf rfl rfl
theorem g133_68 : G d 133 68 ls st h Q ↔ GN d 133 68 ls h (pR st fun a r => ck (arr h a 4) (nx 71 ls (.int (hI h a 4) :: r) h)) Q := G_unf rfl rfl
theorem g133_71 : G d 133 71 ls st h Q ↔ GN d 133 71 ls h (pIe st fun x => rtn (some (.int x))) Q := G_unf rfl rfl
theorem g134_0 : G d 134 0 ls st h Q ↔ GN d 134 0 ls h (ldI ls 1 fun x => nx 1 ls (.int x :: st) h) Q := G_unf rfl rfl
theorem g134_1 : G d 134 1 ls st h Q ↔ GN d 134 1 ls h (pI st fun x r => br (x < 0) (nx 9 ls r h) (nx 4 ls r h)) Q := G_unf rfl rfl
theorem g134_4 : G d 134 4 ls st h Q ↔ GN d 134 4 ls h (ldI ls 1 fun x => nx 5 ls (.int x :: st) h) Q := G_unf rfl rfl
theorem g134_5 : G d 134 5 ls st h Q ↔ GN d 134 5 ls h (nx 6 ls (.int (nI 3) :: st) h) Q := G_unf rfl rfl
theorem g134_6 : G d 134 6 ls st h Q ↔ GN d 134 6 ls h (pII st fun x y r => br (x ≤ y) (nx 11 ls r h) (nx 9 ls r h)) Q := G_unf rfl rfl
theorem g134_9 : G d 134 9 ls st h Q ↔ GN d 134 9 ls h (nx 10 ls (.int (-1) :: st) h) Q := G_unf rfl rfl
theorem g134_10 : G d 134 10 ls st h Q ↔ GN d 134 10 ls h (pIe st fun x => rtn (some (.int x))) Q := G_unf rfl rfl
theorem g134_11 : G d 134 11 ls st h Q ↔ GN d 134 11 ls h (ldR ls 0 fun a => nx 12 ls (.ref a :: st) h) Q := G_unf rfl rfl
theorem g134_12 : G d 134 12 ls st h Q ↔ GN d 134 12 ls h (pA 0 st fun as r => pR r fun a r => ck (r.length ≤ 4 ∧ arr h a 8) (cll 147 (.ref a :: as) r)) Q := G_unf rfl rfl
theorem g134_15 : G d 134 15 ls st h Q ↔ GN d 134 15 ls h (ldR ls 0 fun a => nx 16 ls (.ref a :: st) h) Q := G_unf rfl rfl
theorem g134_16 : G d 134 16 ls st h Q ↔ GN d 134 16 ls h (pR st fun a r => ck (arr h a 8) (nx 19 ls (rv (hR h a 3) :: r) h)) Q := G_unf rfl rfl
theorem g134_19 : G d 134 19 ls st h Q ↔ GN d 134 19 ls h (ldR ls 0 fun a => nx 20 ls (.ref a :: st) h) Q := G_unf rfl rfl
theorem g134_20 : G d 134 20 ls st h Q ↔ GN d 134 20 ls h (pR st fun a r => ck (arr h a 8) (nx 23 ls (rv (hR h a 2) :: r) h)) Q := G_unf rfl rfl
theorem g134_23 : G d 134 23 ls st h Q ↔ GN d 134 23 ls h (ldR ls 0 fun a => nx 24 ls (.ref a :: st) h) Q := G_unf rfl rfl
theorem g134_24 : G d 134 24 ls st h Q ↔ GN d 134 24 ls h (pR st fun a r => ck (arr h a 8) (nx 27 ls (rv (hR h a 7) :: r) h)) Q := G_unf rfl rfl
theorem g134_27 : G d 134 27 ls st h Q ↔ GN d 134 27 ls h (pA 2 st fun as r => pR r fun a r => ck (r.length ≤ 4 ∧ arr h a 4) (cll 47 (.ref a :: as) r)) Q := G_unf rfl rfl
theorem g134_30 : G d 134 30 ls st h Q ↔ GN d 134 30 ls h (ldI ls 1 fun x => nx 31 ls (.int x :: st) h) Q := G_unf rfl rfl
theorem g134_31 : G d 134 31 ls st h Q ↔ GN d 134 31 ls h (pI st fun x r => br (x.toInt = 0) (nx 56 ls r h) (br (x.toInt = 1) (nx 64 ls r h) (br (x.toInt = 2) (nx 72 ls r h) (nx 80 ls r h)))) Q := G_unf rfl rfl
theorem g134_56 : G d 134 56 ls st h Q ↔ GN d 134 56 ls h (ldR ls 0 fun a => nx 57 ls (.ref a :: st) h) Q := G_unf rfl rfl
theorem g134_57 : G d 134 57 ls st h Q ↔ GN d 134 57 ls h (pR st fun a r => ck (arr h a 8) (nx 60 ls (rv (hR h a 3) :: r) h)) Q := G_unf rfl rfl
theorem g134_60 : G d 134 60 ls st h Q ↔ GN d 134 60 ls h (pR st fun a r => ck (arr h a 4) (nx 63 ls (.int (hI h a 5) :: r) h)) Q := G_unf rfl rfl
theorem g134_63 : G d 134 63 ls st h Q ↔ GN d 134 63 ls h (pIe st fun x => rtn (some (.int x))) Q := G_unf rfl rfl
theorem g134_64 : G d 134 64 ls st h Q ↔ GN d 134 64 ls h (ldR ls 0 fun a => nx 65 ls (.ref a :: st) h) Q := G_unf rfl rfl
theorem g134_65 : G d 134 65 ls st h Q ↔ GN d 134 65 ls h (pR st fun a r => ck (arr h a 8) (nx 68 ls (rv (hR h a 3) :: r) h)) Q := G_unf rfl rfl
theorem g134_68 : G d 134 68 ls st h Q ↔ GN d 134 68 ls h (pR st fun a r => ck (arr h a 4) (nx 71 ls (.int (hI h a 6) :: r) h)) Q := G_unf rfl rfl
theorem g134_71 : G d 134 71 ls st h Q ↔ GN d 134 71 ls h (pIe st fun x => rtn (some (.int x))) Q := G_unf rfl rfl
theorem g134_72 : G d 134 72 ls st h Q ↔ GN d 134 72 ls h (ldR ls 0 fun a => nx 73 ls (.ref a :: st) h) Q := G_unf rfl rfl
theorem g134_73 : G d 134 73 ls st h Q ↔ GN d 134 73 ls h (pR st fun a r => ck (arr h a 8) (nx 76 ls (rv (hR h a 3) :: r) h)) Q := G_unf rfl rfl
theorem g134_76 : G d 134 76 ls st h Q ↔ GN d 134 76 ls h (pR st fun a r => ck (arr h a 4) (nx 79 ls (.int (hI h a 7) :: r) h)) Q := G_unf rfl rfl
theorem g134_79 : G d 134 79 ls st h Q ↔ GN d 134 79 ls h (pIe st fun x => rtn (some (.int x))) Q := G_unf rfl rfl
theorem g134_80 : G d 134 80 ls st h Q ↔ GN d 134 80 ls h (ldR ls 0 fun a => nx 81 ls (.ref a :: st) h) Q := G_unf rfl rfl
theorem g134_81 : G d 134 81 ls st h Q ↔ GN d 134 81 ls h (pR st fun a r => ck (arr h a 8) (nx 84 ls (rv (hR h a 2) :: r) h)) Q := G_unf rfl rfl
theorem g134_84 : G d 134 84 ls st h Q ↔ GN d 134 84 ls h (ldR ls 0 fun a => nx 85 ls (.ref a :: st) h) Q := G_unf rfl rfl
theorem g134_85 : G d 134 85 ls st h Q ↔ GN d 134 85 ls h (pR st fun a r => ck (arr h a 8) (nx 88 ls (rv (hR h a 7) :: r) h)) Q := G_unf rfl rfl
theorem g134_88 : G d 134 88 ls st h Q ↔ GN d 134 88 ls h (pA 1 st fun as r => pR r fun a r => ck (r.length ≤ 4 ∧ arr h a 1) (cll 17 (.ref a :: as) r)) Q := G_unf rfl rfl
theorem g134_91 : G d 134 91 ls st h Q ↔ GN d 134 91 ls h (pIe st fun x => rtn (some (.int x))) Q := G_unf rfl rfl
theorem g135_0 : G d 135 0 ls st h Q ↔ GN d 135 0 ls h (ldR ls 0 fun a => nx 1 ls (.ref a :: st) h) Q := G_unf rfl rfl
theorem g135_1 : G d 135 1 ls st h Q ↔ GN d 135 1 ls h (pR st fun a r => ck (arr h a 8) (nx 4 ls (rv (hR h a 4) :: r) h)) Q := G_unf rfl rfl
theorem g135_4 : G d 135 4 ls st h Q ↔ GN d 135 4 ls h (ldR ls 0 fun a => nx 5 ls (.ref a :: st) h) Q := G_unf rfl rfl
theorem g135_5 : G d 135 5 ls st h Q ↔ GN d 135 5 ls h (pR st fun a r => ck (arr h a 8) (nx 8 ls (rv (hR h a 2) :: r) h)) Q := G_unf rfl rfl
theorem g135_8 : G d 135 8 ls st h Q ↔ GN d 135 8 ls h (pR st fun a r => ck (arr h a 1) (nx 11 ls (rv (hR h a 0) :: r) h)) Q := G_unf rfl rfl
theorem g135_11 : G d 135 11 ls st h Q ↔ GN d 135 11 ls h (ldR ls 0 fun a => nx 12 ls (.ref a :: st) h) Q := G_unf rfl rfl
theorem g135_12 : G d 135 12 ls st h Q ↔ GN d 135 12 ls h (pR st fun a r => ck (arr h a 8) (nx 15 ls (rv (hR h a 6) :: r) h)) Q := G_unf rfl rfl
theorem g135_15 : G d 135 15 ls st h Q ↔ GN d 135 15 ls h (pA 2 st fun as r => pR r fun a r => ck (r.length ≤ 4 ∧ arr h a 3) (cll 27 (.ref a :: as) r)) Q := G_unf rfl rfl
theorem g135_18 : G d 135 18 ls st h Q ↔ GN d 135 18 ls h (ldR ls 0 fun a => nx 19 ls (.ref a :: st) h) Q := G_unf rfl rfl
theorem g135_19 : G d 135 19 ls st h Q ↔ GN d 135 19 ls h (pR st fun a r => ck (arr h a 8) (nx 22 ls (rv (hR h a 4) :: r) h)) Q := G_unf rfl rfl
theorem g135_22 : G d 135 22 ls st h Q ↔ GN d 135 22 ls h (pR st fun a r => ck (arr h a 3) (nx 25 ls (.int (hI h a 1) :: r) h)) Q := G_unf rfl rfl
theorem g135_25 : G d 135 25 ls st h Q ↔ GN d 135 25 ls h (pIe st fun x => rtn (some (.int x))) Q := G_unf rfl rfl
theorem g136_0 : G d 136 0 ls st h Q ↔ GN d 136 0 ls h (ldI ls 1 fun x => nx 1 ls (.int x :: st) h) Q := G_unf rfl rfl
theorem g136_1 : G d 136 1 ls st h Q ↔ GN d 136 1 ls h (pI st fun x r => br (x < 0) (nx 15 ls r h) (nx 4 ls r h)) Q := G_unf rfl rfl
theorem g136_4 : G d 136 4 ls st h Q ↔ GN d 136 4 ls h (ldI ls 1 fun x => nx 5 ls (.int x :: st) h) Q := G_unf rfl rfl
theorem g136_5 : G d 136 5 ls st h Q ↔ GN d 136 5 ls h (ldR ls 0 fun a => nx 6 ls (.ref a :: st) h) Q := G_unf rfl rfl
theorem g136_6 : G d 136 6 ls st h Q ↔ GN d 136 6 ls h (pR st fun a r => ck (arr h a 8) (nx 9 ls (rv (hR h a 4) :: r) h)) Q := G_unf rfl rfl
theorem g136_9 : G d 136 9 ls st h Q ↔ GN d 136 9 ls h (pR st fun a r => ck (arr h a 3) (nx 12 ls (.int (hI h a 1) :: r) h)) Q := G_unf rfl rfl
theorem g136_12 : G d 136 12 ls st h Q ↔ GN d 136 12 ls h (pII st fun x y r => br (x < y) (nx 19 ls r h) (nx 15 ls r h)) Q := G_unf rfl rfl
theorem g136_15 : G d 136 15 ls st h Q ↔ GN d 136 15 ls h (nx 16 ls (.int (-1) :: st) h) Q := G_unf rfl rfl
theorem g136_16 : G d 136 16 ls st h Q ↔ GN d 136 16 ls h (nx 32 ls st h) Q := G_unf rfl rfl
theorem g136_19 : G d 136 19 ls st h Q ↔ GN d 136 19 ls h (ldR ls 0 fun a => nx 20 ls (.ref a :: st) h) Q := G_unf rfl rfl
theorem g136_20 : G d 136 20 ls st h Q ↔ GN d 136 20 ls h (pR st fun a r => ck (arr h a 8) (nx 23 ls (rv (hR h a 4) :: r) h)) Q := G_unf rfl rfl
theorem g136_23 : G d 136 23 ls st h Q ↔ GN d 136 23 ls h (pR st fun a r => ck (arr h a 3) (nx 26 ls (rv (hR h a 0) :: r) h)) Q := G_unf rfl rfl
theorem g136_26 : G d 136 26 ls st h Q ↔ GN d 136 26 ls h (ldI ls 1 fun x => nx 27 ls (.int x :: st) h) Q := G_unf rfl rfl
theorem g136_27 : G d 136 27 ls st h Q ↔ GN d 136 27 ls h (pRI st fun a i r => br (a = 1000002) (ck (inb i 208) (nx 28 ls (.int (ownB i.toNatClampNeg) :: r) h)) (ck ((arr h a 11 ∨ arr h a 12) ∧ inb i (hLn h a)) (nx 28 ls (.int (hI h a i.toNatClampNeg) :: r) h))) Q := G_unf rfl rfl
theorem g136_28 : G d 136 28 ls st h Q ↔ GN d 136 28 ls h (nx 31 ls (.int (nI 255) :: st) h) Q := G_unf rfl rfl
theorem g136_31 : G d 136 31 ls st h Q ↔ GN d 136 31 ls h (pII st fun x y r => nx 32 ls (.int (x &&& y) :: r) h) Q := G_unf rfl rfl
theorem g136_32 : G d 136 32 ls st h Q ↔ GN d 136 32 ls h (pIe st fun x => rtn (some (.int x))) Q := G_unf rfl rfl
theorem g137_0 : G d 137 0 ls st h Q ↔ GN d 137 0 ls h (ldR ls 0 fun a => nx 1 ls (.ref a :: st) h) Q := G_unf rfl rfl
theorem g137_1 : G d 137 1 ls st h Q ↔ GN d 137 1 ls h (pR st fun a r => ck (arr h a 8) (nx 4 ls (.int (hI h a 10) :: r) h)) Q := G_unf rfl rfl
theorem g137_4 : G d 137 4 ls st h Q ↔ GN d 137 4 ls h (pI st fun x r => ck (1 < ls.length) (nx 5 (st1 ls 1 (.int x)) r h)) Q := G_unf rfl rfl
theorem g137_5 : G d 137 5 ls st h Q ↔ GN d 137 5 ls h (ldR ls 0 fun a => nx 6 ls (.ref a :: st) h) Q := G_unf rfl rfl
theorem g137_6 : G d 137 6 ls st h Q ↔ GN d 137 6 ls h (nx 7 ls (.int (nI 0) :: st) h) Q := G_unf rfl rfl
theorem g137_7 : G d 137 7 ls st h Q ↔ GN d 137 7 ls h (pRI st fun a x r => ck (arr h a 8) (nx 10 ls r (sI h a 10 x))) Q := G_unf rfl rfl
theorem g137_10 : G d 137 10 ls st h Q ↔ GN d 137 10 ls h (ldR ls 0 fun a => nx 11 ls (.ref a :: st) h) Q := G_unf rfl rfl
theorem g137_11 : G d 137 11 ls st h Q ↔ GN d 137 11 ls h (pR st fun a r => ck (arr h a 8) (nx 14 ls (rv (hR h a 7) :: r) h)) Q := G_unf rfl rfl
theorem g137_14 : G d 137 14 ls st h Q ↔ GN d 137 14 ls h (pA 0 st fun as r => pR r fun a r => ck (r.length ≤ 4 ∧ arr h a 6) (cll 84 (.ref a :: as) r)) Q := G_unf rfl rfl
theorem g137_17 : G d 137 17 ls st h Q ↔ GN d 137 17 ls h (ldR ls 0 fun a => nx 18 ls (.ref a :: st) h) Q := G_unf rfl rfl
theorem g137_18 : G d 137 18 ls st h Q ↔ GN d 137 18 ls h (pR st fun a r => ck (arr h a 8) (nx 21 ls (rv (hR h a 0) :: r) h)) Q := G_unf rfl rfl
theorem g137_21 : G d 137 21 ls st h Q ↔ GN d 137 21 ls h (ldI ls 1 fun x => nx 22 ls (.int x :: st) h) Q := G_unf rfl rfl
theorem g137_22 : G d 137 22 ls st h Q ↔ GN d 137 22 ls h (ldR ls 0 fun a => nx 23 ls (.ref a :: st) h) Q := G_unf rfl rfl
theorem g137_23 : G d 137 23 ls st h Q ↔ GN d 137 23 ls h (pR st fun a r => ck (arr h a 8) (nx 26 ls (rv (hR h a 2) :: r) h)) Q := G_unf rfl rfl
theorem g137_26 : G d 137 26 ls st h Q ↔ GN d 137 26 ls h (pR st fun a r => ck (arr h a 1) (nx 29 ls (rv (hR h a 0) :: r) h)) Q := G_unf rfl rfl
theorem g137_29 : G d 137 29 ls st h Q ↔ GN d 137 29 ls h (ldR ls 0 fun a => nx 30 ls (.ref a :: st) h) Q := G_unf rfl rfl
theorem g137_30 : G d 137 30 ls st h Q ↔ GN d 137 30 ls h (pR st fun a r => ck (arr h a 8) (nx 33 ls (rv (hR h a 7) :: r) h)) Q := G_unf rfl rfl
theorem g137_33 : G d 137 33 ls st h Q ↔ GN d 137 33 ls h (pA 4 st fun as r => ck (r.length ≤ 4) (cll 31 as r)) Q := G_unf rfl rfl
theorem g137_36 : G d 137 36 ls st h Q ↔ GN d 137 36 ls h (pI st fun x r => br (¬ x = 0) (nx 47 ls r h) (nx 39 ls r h)) Q := G_unf rfl rfl
theorem g137_39 : G d 137 39 ls st h Q ↔ GN d 137 39 ls h (ldR ls 0 fun a => nx 40 ls (.ref a :: st) h) Q := G_unf rfl rfl
theorem g137_40 : G d 137 40 ls st h Q ↔ GN d 137 40 ls h (nx 41 ls (.int (nI 5) :: st) h) Q := G_unf rfl rfl
theorem g137_41 : G d 137 41 ls st h Q ↔ GN d 137 41 ls h (pA 1 st fun as r => pR r fun a r => ck (r.length ≤ 4 ∧ arr h a 8) (cll 139 (.ref a :: as) r)) Q := G_unf rfl rfl
theorem g137_44 : G d 137 44 ls st h Q ↔ GN d 137 44 ls h (p1 st fun _ r => nx 45 ls r h) Q := G_unf rfl rfl
theorem g137_45 : G d 137 45 ls st h Q ↔ GN d 137 45 ls h (nx 46 ls (.int (nI 0) :: st) h) Q := G_unf rfl rfl
theorem g137_46 : G d 137 46 ls st h Q ↔ GN d 137 46 ls h (pIe st fun x => ck (x = 0 ∨ x = 1) (rtn (some (.int x)))) Q := G_unf rfl rfl
theorem g137_47 : G d 137 47 ls st h Q ↔ GN d 137 47 ls h (ldR ls 0 fun a => nx 48 ls (.ref a :: st) h) Q := G_unf rfl rfl
theorem g137_48 : G d 137 48 ls st h Q ↔ GN d 137 48 ls h (pR st fun a r => ck (arr h a 8) (nx 51 ls (rv (hR h a 6) :: r) h)) Q := G_unf rfl rfl
theorem g137_51 : G d 137 51 ls st h Q ↔ GN d 137 51 ls h (ldR ls 0 fun a => nx 52 ls (.ref a :: st) h) Q := G_unf rfl rfl
theorem g137_52 : G d 137 52 ls st h Q ↔ GN d 137 52 ls h (pR st fun a r => ck (arr h a 8) (nx 55 ls (rv (hR h a 7) :: r) h)) Q := G_unf rfl rfl
theorem g137_55 : G d 137 55 ls st h Q ↔ GN d 137 55 ls h (pA 1 st fun as r => pR r fun a r => ck (r.length ≤ 4 ∧ arr h a 6) (cll 85 (.ref a :: as) r)) Q := G_unf rfl rfl
theorem g137_58 : G d 137 58 ls st h Q ↔ GN d 137 58 ls h (ldR ls 0 fun a => nx 59 ls (.ref a :: st) h) Q := G_unf rfl rfl
theorem g137_59 : G d 137 59 ls st h Q ↔ GN d 137 59 ls h (pR st fun a r => ck (arr h a 8) (nx 62 ls (rv (hR h a 5) :: r) h)) Q := G_unf rfl rfl
theorem g137_62 : G d 137 62 ls st h Q ↔ GN d 137 62 ls h (pA 0 st fun as r => pR r fun a r => ck (r.length ≤ 4 ∧ arr h a 2) (cll 23 (.ref a :: as) r)) Q := G_unf rfl rfl
theorem g137_65 : G d 137 65 ls st h Q ↔ GN d 137 65 ls h (nx 66 ls (.int (nI 1) :: st) h) Q := G_unf rfl rfl
theorem g137_66 : G d 137 66 ls st h Q ↔ GN d 137 66 ls h (pIe st fun x => ck (x = 0 ∨ x = 1) (rtn (some (.int x)))) Q := G_unf rfl rfl
theorem g138_0 : G d 138 0 ls st h Q ↔ GN d 138 0 ls h (ldI ls 1 fun x => nx 1 ls (.int x :: st) h) Q := G_unf rfl rfl
theorem g138_1 : G d 138 1 ls st h Q ↔ GN d 138 1 ls h (pI st fun x r => br (x < 0) (nx 13 ls r h) (nx 4 ls r h)) Q := G_unf rfl rfl
theorem g138_4 : G d 138 4 ls st h Q ↔ GN d 138 4 ls h (ldI ls 1 fun x => nx 5 ls (.int x :: st) h) Q := G_unf rfl rfl
theorem g138_5 : G d 138 5 ls st h Q ↔ GN d 138 5 ls h (ldR ls 0 fun a => nx 6 ls (.ref a :: st) h) Q := G_unf rfl rfl
theorem g138_6 : G d 138 6 ls st h Q ↔ GN d 138 6 ls h (pR st fun a r => ck (arr h a 8) (nx 9 ls (rv (hR h a 8) :: r) h)) Q := G_unf rfl rfl
theorem g138_9 : G d 138 9 ls st h Q ↔ GN d 138 9 ls h (pR st fun a r => br (a = 1000000) (nx 10 ls (.int (nI 0) :: r) h) (br (a = 1000002) (nx 10 ls (.int (nI 208) :: r) h) (br (a = 1000003) (nx 10 ls (.int (nI (hS h).1) :: r) h) (ck (a < hN h ∧ 10 ≤ lay a) (nx 10 ls (.int (nI (hLn h a)) :: r) h))))) Q := G_unf rfl rfl
theorem g138_10 : G d 138 10 ls st h Q ↔ GN d 138 10 ls h (pII st fun x y r => br (x < y) (nx 17 ls r h) (nx 13 ls r h)) Q := G_unf rfl rfl
theorem g138_13 : G d 138 13 ls st h Q ↔ GN d 138 13 ls h (nx 14 ls (.int (-1) :: st) h) Q := G_unf rfl rfl
theorem g138_14 : G d 138 14 ls st h Q ↔ GN d 138 14 ls h (nx 23 ls st h) Q := G_unf rfl rfl
theorem g138_17 : G d 138 17 ls st h Q ↔ GN d 138 17 ls h (ldR ls 0 fun a => nx 18 ls (.ref a :: st) h) Q := G_unf rfl rfl
theorem g138_18 : G d 138 18 ls st h Q ↔ GN d 138 18 ls h (pR st fun a r => ck (arr h a 8) (nx 21 ls (rv (hR h a 8) :: r) h)) Q := G_unf rfl rfl
theorem g138_21 : G d 138 21 ls st h Q ↔ GN d 138 21 ls h (ldI ls 1 fun x => nx 22 ls (.int x :: st) h) Q := G_unf rfl rfl
theorem g138_22 : G d 138 22 ls st h Q ↔ GN d 138 22 ls h (pRI st fun a i r => br (a = 1000003) (ck (inb i (hS h).1) (nx 23 ls (.int ((hS h).2 i.toNatClampNeg) :: r) h)) (ck (arr h a 10 ∧ inb i (hLn h a)) (nx 23 ls (.int (hI h a i.toNatClampNeg) :: r) h))) Q := G_unf rfl rfl
theorem g138_23 : G d 138 23 ls st h Q ↔ GN d 138 23 ls h (pIe st fun x => rtn (some (.int x))) Q := G_unf rfl rfl
theorem g139_0 : G d 139 0 ls st h Q ↔ GN d 139 0 ls h (ldR ls 0 fun a => nx 1 ls (.ref a :: st) h) Q := G_unf rfl rfl
theorem g139_1 : G d 139 1 ls st h Q ↔ GN d 139 1 ls h (pR st fun a r => ck (arr h a 8) (nx 4 ls (rv (hR h a 8) :: r) h)) Q := G_unf rfl rfl
theorem g139_4 : G d 139 4 ls st h Q ↔ GN d 139 4 ls h (ldI ls 1 fun x => nx 5 ls (.int x :: st) h) Q := G_unf rfl rfl
theorem g139_5 : G d 139 5 ls st h Q ↔ GN d 139 5 ls h (p11 st fun v w r => nx 6 ls (v :: w :: v :: w :: r) h) Q := G_unf rfl rfl
theorem g139_6 : G d 139 6 ls st h Q ↔ GN d 139 6 ls h (pRI st fun a i r => br (a = 1000003) (ck (inb i (hS h).1) (nx 7 ls (.int ((hS h).2 i.toNatClampNeg) :: r) h)) (ck (arr h a 10 ∧ inb i (hLn h a)) (nx 7 ls (.int (hI h a i.toNatClampNeg) :: r) h))) Q := G_unf rfl rfl
theorem g139_7 : G d 139 7 ls st h Q ↔ GN d 139 7 ls h (nx 8 ls (.int (nI 1) :: st) h) Q := G_unf rfl rfl
theorem g139_8 : G d 139 8 ls st h Q ↔ GN d 139 8 ls h (pII st fun x y r => nx 9 ls (.int (x + y) :: r) h) Q := G_unf rfl rfl
theorem g139_9 : G d 139 9 ls st h Q ↔ GN d 139 9 ls h (pRII st fun a i x r => ck (arr h a 10 ∧ inb i (hLn h a)) (nx 10 ls r (sI h a i.toNatClampNeg x))) Q := G_unf rfl rfl
theorem g139_10 : G d 139 10 ls st h Q ↔ GN d 139 10 ls h (nx 11 ls (.int (-1) :: st) h) Q := G_unf rfl rfl
theorem g139_11 : G d 139 11 ls st h Q ↔ GN d 139 11 ls h (pIe st fun x => rtn (some (.int x))) Q := G_unf rfl rfl
theorem g140_0 : G d 140 0 ls st h Q ↔ GN d 140 0 ls h (nx 2 ls (.int (nI 24) :: st) h) Q := G_unf rfl rfl
theorem g140_2 : G d 140 2 ls st h Q ↔ GN d 140 2 ls h (pI st fun x r => ck (2 < ls.length) (nx 3 (st1 ls 2 (.int x)) r h)) Q := G_unf rfl rfl
theorem g140_3 : G d 140 3 ls st h Q ↔ GN d 140 3 ls h (ldI ls 2 fun x => nx 4 ls (.int x :: st) h) Q := G_unf rfl rfl
theorem g140_4 : G d 140 4 ls st h Q ↔ GN d 140 4 ls h (pI st fun x r => br (x < 0) (nx 46 ls r h) (nx 7 ls r h)) Q := G_unf rfl rfl
theorem g140_7 : G d 140 7 ls st h Q ↔ GN d 140 7 ls h (ldR ls 0 fun a => nx 8 ls (.ref a :: st) h) Q := G_unf rfl rfl
theorem g140_8 : G d 140 8 ls st h Q ↔ GN d 140 8 ls h (pR st fun a r => ck (arr h a 8) (nx 11 ls (.int (hI h a 10) :: r) h)) Q := G_unf rfl rfl
theorem g140_11 : G d 140 11 ls st h Q ↔ GN d 140 11 ls h (nx 14 ls (.int (nI 1600) :: st) h) Q := G_unf rfl rfl
theorem g140_14 : G d 140 14 ls st h Q ↔ GN d 140 14 ls h (pII st fun x y r => br (y ≤ x) (nx 40 ls r h) (nx 17 ls r h)) Q := G_unf rfl rfl
theorem g140_17 : G d 140 17 ls st h Q ↔ GN d 140 17 ls h (ldR ls 0 fun a => nx 18 ls (.ref a :: st) h) Q := G_unf rfl rfl
theorem g140_18 : G d 140 18 ls st h Q ↔ GN d 140 18 ls h (pR st fun a r => ck (arr h a 8) (nx 21 ls (rv (hR h a 0) :: r) h)) Q := G_unf rfl rfl
theorem g140_21 : G d 140 21 ls st h Q ↔ GN d 140 21 ls h (ldR ls 0 fun a => nx 22 ls (.ref a :: st) h) Q := G_unf rfl rfl
theorem g140_22 : G d 140 22 ls st h Q ↔ GN d 140 22 ls h (pR st fun a r => ck (arr h a 8) (nx 25 ls (.int (hI h a 10) :: r) h)) Q := G_unf rfl rfl
theorem g140_25 : G d 140 25 ls st h Q ↔ GN d 140 25 ls h (ldI ls 1 fun x => nx 26 ls (.int x :: st) h) Q := G_unf rfl rfl
theorem g140_26 : G d 140 26 ls st h Q ↔ GN d 140 26 ls h (ldI ls 2 fun x => nx 27 ls (.int x :: st) h) Q := G_unf rfl rfl
theorem g140_27 : G d 140 27 ls st h Q ↔ GN d 140 27 ls h (pII st fun x y r => nx 28 ls (.int (x >>> (y &&& 31)) :: r) h) Q := G_unf rfl rfl
theorem g140_28 : G d 140 28 ls st h Q ↔ GN d 140 28 ls h (pI st fun x r => nx 29 ls (.int x.toInt8.toInt32 :: r) h) Q := G_unf rfl rfl
theorem g140_29 : G d 140 29 ls st h Q ↔ GN d 140 29 ls h (pRII st fun a i x r => ck ((arr h a 11 ∨ arr h a 12) ∧ inb i (hLn h a)) (nx 30 ls r (sI h a i.toNatClampNeg (if lay a = 11 then vp_nar .byte x else vp_nar .boolean x)))) Q := G_unf rfl rfl
theorem g140_30 : G d 140 30 ls st h Q ↔ GN d 140 30 ls h (ldR ls 0 fun a => nx 31 ls (.ref a :: st) h) Q := G_unf rfl rfl
theorem g140_31 : G d 140 31 ls st h Q ↔ GN d 140 31 ls h (p1 st fun v r => nx 32 ls (v :: v :: r) h) Q := G_unf rfl rfl
theorem g140_32 : G d 140 32 ls st h Q ↔ GN d 140 32 ls h (pR st fun a r => ck (arr h a 8) (nx 35 ls (.int (hI h a 10) :: r) h)) Q := G_unf rfl rfl
theorem g140_35 : G d 140 35 ls st h Q ↔ GN d 140 35 ls h (nx 36 ls (.int (nI 1) :: st) h) Q := G_unf rfl rfl
theorem g140_36 : G d 140 36 ls st h Q ↔ GN d 140 36 ls h (pII st fun x y r => nx 37 ls (.int (x + y) :: r) h) Q := G_unf rfl rfl
theorem g140_37 : G d 140 37 ls st h Q ↔ GN d 140 37 ls h (pRI st fun a x r => ck (arr h a 8) (nx 40 ls r (sI h a 10 x))) Q := G_unf rfl rfl
theorem g140_40 : G d 140 40 ls st h Q ↔ GN d 140 40 ls h (ldI ls 2 fun x => nx 43 (st1 ls 2 (.int (x + (-8)))) st h) Q := G_unf rfl rfl
theorem g140_43 : G d 140 43 ls st h Q ↔ GN d 140 43 ls h (nx 3 ls st h) Q := G_unf rfl rfl
theorem g140_46 : G d 140 46 ls st h Q ↔ GN d 140 46 ls h (pE st (rtn none)) Q := G_unf rfl rfl
theorem g141_0 : G d 141 0 ls st h Q ↔ GN d 141 0 ls h (ldI ls 1 fun x => nx 1 ls (.int x :: st) h) Q := G_unf rfl rfl
theorem g141_1 : G d 141 1 ls st h Q ↔ GN d 141 1 ls h (pI st fun x r => br (x < 0) (nx 22 ls r h) (nx 4 ls r h)) Q := G_unf rfl rfl
theorem g141_4 : G d 141 4 ls st h Q ↔ GN d 141 4 ls h (ldI ls 1 fun x => nx 5 ls (.int x :: st) h) Q := G_unf rfl rfl
theorem g141_5 : G d 141 5 ls st h Q ↔ GN d 141 5 ls h (ldR ls 0 fun a => nx 6 ls (.ref a :: st) h) Q := G_unf rfl rfl
theorem g141_6 : G d 141 6 ls st h Q ↔ GN d 141 6 ls h (pR st fun a r => ck (arr h a 8) (nx 9 ls (rv (hR h a 2) :: r) h)) Q := G_unf rfl rfl
theorem g141_9 : G d 141 9 ls st h Q ↔ GN d 141 9 ls h (pR st fun a r => ck (arr h a 1) (nx 12 ls (rv (hR h a 0) :: r) h)) Q := G_unf rfl rfl
theorem g141_12 : G d 141 12 ls st h Q ↔ GN d 141 12 ls h (pR st fun a r => ck (arr h a 0) (nx 15 ls (.int (hI h a 3) :: r) h)) Q := G_unf rfl rfl
theorem g141_15 : G d 141 15 ls st h Q ↔ GN d 141 15 ls h (pII st fun x y r => br (y ≤ x) (nx 22 ls r h) (nx 18 ls r h)) Q := G_unf rfl rfl
theorem g141_18 : G d 141 18 ls st h Q ↔ GN d 141 18 ls h (nx 19 ls (.int (nI 1) :: st) h) Q := G_unf rfl rfl
theorem g141_19 : G d 141 19 ls st h Q ↔ GN d 141 19 ls h (nx 23 ls st h) Q := G_unf rfl rfl
theorem g141_22 : G d 141 22 ls st h Q ↔ GN d 141 22 ls h (nx 23 ls (.int (nI 0) :: st) h) Q := G_unf rfl rfl
theorem g141_23 : G d 141 23 ls st h Q ↔ GN d 141 23 ls h (pIe st fun x => ck (x = 0 ∨ x = 1) (rtn (some (.int x)))) Q := G_unf rfl rfl
theorem g142_0 : G d 142 0 ls st h Q ↔ GN d 142 0 ls h (ldI ls 1 fun x => nx 1 ls (.int x :: st) h) Q := G_unf rfl rfl
theorem g142_1 : G d 142 1 ls st h Q ↔ GN d 142 1 ls h (pI st fun x r => br (x < 0) (nx 24 ls r h) (nx 4 ls r h)) Q := G_unf rfl rfl
theorem g142_4 : G d 142 4 ls st h Q ↔ GN d 142 4 ls h (ldI ls 1 fun x => nx 5 ls (.int x :: st) h) Q := G_unf rfl rfl
theorem g142_5 : G d 142 5 ls st h Q ↔ GN d 142 5 ls h (nx 6 ls (.int (nI 1) :: st) h) Q := G_unf rfl rfl
theorem g142_6 : G d 142 6 ls st h Q ↔ GN d 142 6 ls h (ldR ls 0 fun a => nx 7 ls (.ref a :: st) h) Q := G_unf rfl rfl
theorem g142_7 : G d 142 7 ls st h Q ↔ GN d 142 7 ls h (pR st fun a r => ck (arr h a 8) (nx 10 ls (rv (hR h a 2) :: r) h)) Q := G_unf rfl rfl
theorem g142_10 : G d 142 10 ls st h Q ↔ GN d 142 10 ls h (pR st fun a r => ck (arr h a 1) (nx 13 ls (rv (hR h a 0) :: r) h)) Q := G_unf rfl rfl
theorem g142_13 : G d 142 13 ls st h Q ↔ GN d 142 13 ls h (pR st fun a r => ck (arr h a 0) (nx 16 ls (.int (hI h a 3) :: r) h)) Q := G_unf rfl rfl
theorem g142_16 : G d 142 16 ls st h Q ↔ GN d 142 16 ls h (pII st fun x y r => nx 17 ls (.int (x <<< (y &&& 31)) :: r) h) Q := G_unf rfl rfl
theorem g142_17 : G d 142 17 ls st h Q ↔ GN d 142 17 ls h (pII st fun x y r => br (y ≤ x) (nx 24 ls r h) (nx 20 ls r h)) Q := G_unf rfl rfl
theorem g142_20 : G d 142 20 ls st h Q ↔ GN d 142 20 ls h (nx 21 ls (.int (nI 1) :: st) h) Q := G_unf rfl rfl
theorem g142_21 : G d 142 21 ls st h Q ↔ GN d 142 21 ls h (nx 25 ls st h) Q := G_unf rfl rfl
theorem g142_24 : G d 142 24 ls st h Q ↔ GN d 142 24 ls h (nx 25 ls (.int (nI 0) :: st) h) Q := G_unf rfl rfl
theorem g142_25 : G d 142 25 ls st h Q ↔ GN d 142 25 ls h (pIe st fun x => ck (x = 0 ∨ x = 1) (rtn (some (.int x)))) Q := G_unf rfl rfl
theorem g143_0 : G d 143 0 ls st h Q ↔ GN d 143 0 ls h (ldI ls 1 fun x => nx 1 ls (.int x :: st) h) Q := G_unf rfl rfl
theorem g143_1 : G d 143 1 ls st h Q ↔ GN d 143 1 ls h (pI st fun x r => br (x < 0) (nx 22 ls r h) (nx 4 ls r h)) Q := G_unf rfl rfl
theorem g143_4 : G d 143 4 ls st h Q ↔ GN d 143 4 ls h (ldI ls 1 fun x => nx 5 ls (.int x :: st) h) Q := G_unf rfl rfl
theorem g143_5 : G d 143 5 ls st h Q ↔ GN d 143 5 ls h (ldR ls 0 fun a => nx 6 ls (.ref a :: st) h) Q := G_unf rfl rfl
theorem g143_6 : G d 143 6 ls st h Q ↔ GN d 143 6 ls h (pR st fun a r => ck (arr h a 8) (nx 9 ls (rv (hR h a 2) :: r) h)) Q := G_unf rfl rfl
theorem g143_9 : G d 143 9 ls st h Q ↔ GN d 143 9 ls h (pR st fun a r => ck (arr h a 1) (nx 12 ls (rv (hR h a 0) :: r) h)) Q := G_unf rfl rfl
theorem g143_12 : G d 143 12 ls st h Q ↔ GN d 143 12 ls h (pR st fun a r => ck (arr h a 0) (nx 15 ls (.int (hI h a 10) :: r) h)) Q := G_unf rfl rfl
theorem g143_15 : G d 143 15 ls st h Q ↔ GN d 143 15 ls h (pII st fun x y r => br (y ≤ x) (nx 22 ls r h) (nx 18 ls r h)) Q := G_unf rfl rfl
theorem g143_18 : G d 143 18 ls st h Q ↔ GN d 143 18 ls h (nx 19 ls (.int (nI 1) :: st) h) Q := G_unf rfl rfl
theorem g143_19 : G d 143 19 ls st h Q ↔ GN d 143 19 ls h (nx 23 ls st h) Q := G_unf rfl rfl
theorem g143_22 : G d 143 22 ls st h Q ↔ GN d 143 22 ls h (nx 23 ls (.int (nI 0) :: st) h) Q := G_unf rfl rfl
theorem g143_23 : G d 143 23 ls st h Q ↔ GN d 143 23 ls h (pIe st fun x => ck (x = 0 ∨ x = 1) (rtn (some (.int x)))) Q := G_unf rfl rfl
theorem g144_0 : G d 144 0 ls st h Q ↔ GN d 144 0 ls h (ldI ls 1 fun x => nx 1 ls (.int x :: st) h) Q := G_unf rfl rfl
theorem g144_1 : G d 144 1 ls st h Q ↔ GN d 144 1 ls h (pI st fun x r => br (x < 0) (nx 29 ls r h) (nx 4 ls r h)) Q := G_unf rfl rfl
theorem g144_4 : G d 144 4 ls st h Q ↔ GN d 144 4 ls h (ldI ls 1 fun x => nx 5 ls (.int x :: st) h) Q := G_unf rfl rfl
theorem g144_5 : G d 144 5 ls st h Q ↔ GN d 144 5 ls h (nx 7 ls (.int (nI 40) :: st) h) Q := G_unf rfl rfl
theorem g144_7 : G d 144 7 ls st h Q ↔ GN d 144 7 ls h (pII st fun x y r => br (y < x) (nx 29 ls r h) (nx 10 ls r h)) Q := G_unf rfl rfl
theorem g144_10 : G d 144 10 ls st h Q ↔ GN d 144 10 ls h (ldR ls 0 fun a => nx 11 ls (.ref a :: st) h) Q := G_unf rfl rfl
theorem g144_11 : G d 144 11 ls st h Q ↔ GN d 144 11 ls h (pR st fun a r => ck (arr h a 8) (nx 14 ls (rv (hR h a 6) :: r) h)) Q := G_unf rfl rfl
theorem g144_14 : G d 144 14 ls st h Q ↔ GN d 144 14 ls h (pR st fun a r => ck (arr h a 6) (nx 17 ls (.int (hI h a 0) :: r) h)) Q := G_unf rfl rfl
theorem g144_17 : G d 144 17 ls st h Q ↔ GN d 144 17 ls h (ldI ls 1 fun x => nx 18 ls (.int x :: st) h) Q := G_unf rfl rfl
theorem g144_18 : G d 144 18 ls st h Q ↔ GN d 144 18 ls h (pII st fun x y r => nx 19 ls (.int (x + y) :: r) h) Q := G_unf rfl rfl
theorem g144_19 : G d 144 19 ls st h Q ↔ GN d 144 19 ls h (nx 22 ls (.int (nI 999) :: st) h) Q := G_unf rfl rfl
theorem g144_22 : G d 144 22 ls st h Q ↔ GN d 144 22 ls h (pII st fun x y r => br (y < x) (nx 29 ls r h) (nx 25 ls r h)) Q := G_unf rfl rfl
theorem g144_25 : G d 144 25 ls st h Q ↔ GN d 144 25 ls h (nx 26 ls (.int (nI 1) :: st) h) Q := G_unf rfl rfl
theorem g144_26 : G d 144 26 ls st h Q ↔ GN d 144 26 ls h (nx 30 ls st h) Q := G_unf rfl rfl
theorem g144_29 : G d 144 29 ls st h Q ↔ GN d 144 29 ls h (nx 30 ls (.int (nI 0) :: st) h) Q := G_unf rfl rfl
theorem g144_30 : G d 144 30 ls st h Q ↔ GN d 144 30 ls h (pIe st fun x => ck (x = 0 ∨ x = 1) (rtn (some (.int x)))) Q := G_unf rfl rfl
theorem g145_0 : G d 145 0 ls st h Q ↔ GN d 145 0 ls h (ldI ls 1 fun x => nx 1 ls (.int x :: st) h) Q := G_unf rfl rfl
theorem g145_1 : G d 145 1 ls st h Q ↔ GN d 145 1 ls h (nx 2 ls (.int (nI 1) :: st) h) Q := G_unf rfl rfl
theorem g145_2 : G d 145 2 ls st h Q ↔ GN d 145 2 ls h (pII st fun x y r => br (x < y) (nx 30 ls r h) (nx 5 ls r h)) Q := G_unf rfl rfl
theorem g145_5 : G d 145 5 ls st h Q ↔ GN d 145 5 ls h (ldI ls 1 fun x => nx 6 ls (.int x :: st) h) Q := G_unf rfl rfl
theorem g145_6 : G d 145 6 ls st h Q ↔ GN d 145 6 ls h (nx 8 ls (.int (nI 30) :: st) h) Q := G_unf rfl rfl
theorem g145_8 : G d 145 8 ls st h Q ↔ GN d 145 8 ls h (pII st fun x y r => br (y < x) (nx 30 ls r h) (nx 11 ls r h)) Q := G_unf rfl rfl
theorem g145_11 : G d 145 11 ls st h Q ↔ GN d 145 11 ls h (ldR ls 0 fun a => nx 12 ls (.ref a :: st) h) Q := G_unf rfl rfl
theorem g145_12 : G d 145 12 ls st h Q ↔ GN d 145 12 ls h (pR st fun a r => ck (arr h a 8) (nx 15 ls (rv (hR h a 6) :: r) h)) Q := G_unf rfl rfl
theorem g145_15 : G d 145 15 ls st h Q ↔ GN d 145 15 ls h (pR st fun a r => ck (arr h a 6) (nx 18 ls (.int (hI h a 0) :: r) h)) Q := G_unf rfl rfl
theorem g145_18 : G d 145 18 ls st h Q ↔ GN d 145 18 ls h (ldI ls 1 fun x => nx 19 ls (.int x :: st) h) Q := G_unf rfl rfl
theorem g145_19 : G d 145 19 ls st h Q ↔ GN d 145 19 ls h (pII st fun x y r => nx 20 ls (.int (x + y) :: r) h) Q := G_unf rfl rfl
theorem g145_20 : G d 145 20 ls st h Q ↔ GN d 145 20 ls h (nx 23 ls (.int (nI 999) :: st) h) Q := G_unf rfl rfl
theorem g145_23 : G d 145 23 ls st h Q ↔ GN d 145 23 ls h (pII st fun x y r => br (y < x) (nx 30 ls r h) (nx 26 ls r h)) Q := G_unf rfl rfl
theorem g145_26 : G d 145 26 ls st h Q ↔ GN d 145 26 ls h (nx 27 ls (.int (nI 1) :: st) h) Q := G_unf rfl rfl
theorem g145_27 : G d 145 27 ls st h Q ↔ GN d 145 27 ls h (nx 31 ls st h) Q := G_unf rfl rfl
theorem g145_30 : G d 145 30 ls st h Q ↔ GN d 145 30 ls h (nx 31 ls (.int (nI 0) :: st) h) Q := G_unf rfl rfl
theorem g145_31 : G d 145 31 ls st h Q ↔ GN d 145 31 ls h (pIe st fun x => ck (x = 0 ∨ x = 1) (rtn (some (.int x)))) Q := G_unf rfl rfl
theorem g146_0 : G d 146 0 ls st h Q ↔ GN d 146 0 ls h (ldR ls 0 fun a => nx 1 ls (.ref a :: st) h) Q := G_unf rfl rfl
theorem g146_1 : G d 146 1 ls st h Q ↔ GN d 146 1 ls h (ldI ls 1 fun x => nx 2 ls (.int x :: st) h) Q := G_unf rfl rfl
theorem g146_2 : G d 146 2 ls st h Q ↔ GN d 146 2 ls h (pA 1 st fun as r => pR r fun a r => ck (r.length ≤ 4 ∧ arr h a 8) (cll 143 (.ref a :: as) r)) Q := G_unf rfl rfl
theorem g146_5 : G d 146 5 ls st h Q ↔ GN d 146 5 ls h (pI st fun x r => br (x = 0) (nx 74 ls r h) (nx 8 ls r h)) Q := G_unf rfl rfl
theorem g146_8 : G d 146 8 ls st h Q ↔ GN d 146 8 ls h (ldR ls 0 fun a => nx 9 ls (.ref a :: st) h) Q := G_unf rfl rfl
theorem g146_9 : G d 146 9 ls st h Q ↔ GN d 146 9 ls h (ldI ls 2 fun x => nx 10 ls (.int x :: st) h) Q := G_unf rfl rfl
theorem g146_10 : G d 146 10 ls st h Q ↔ GN d 146 10 ls h (pA 1 st fun as r => pR r fun a r => ck (r.length ≤ 4 ∧ arr h a 8) (cll 141 (.ref a :: as) r)) Q := G_unf rfl rfl
theorem g146_13 : G d 146 13 ls st h Q ↔ GN d 146 13 ls h (pI st fun x r => br (x = 0) (nx 74 ls r h) (nx 16 ls r h)) Q := G_unf rfl rfl
theorem g146_16 : G d 146 16 ls st h Q ↔ GN d 146 16 ls h (ldR ls 0 fun a => nx 17 ls (.ref a :: st) h) Q := G_unf rfl rfl
theorem g146_17 : G d 146 17 ls st h Q ↔ GN d 146 17 ls h (pR st fun a r => ck (arr h a 8) (nx 20 ls (rv (hR h a 6) :: r) h)) Q := G_unf rfl rfl
theorem g146_20 : G d 146 20 ls st h Q ↔ GN d 146 20 ls h (ldI ls 1 fun x => nx 21 ls (.int x :: st) h) Q := G_unf rfl rfl
theorem g146_21 : G d 146 21 ls st h Q ↔ GN d 146 21 ls h (ldI ls 2 fun x => nx 22 ls (.int x :: st) h) Q := G_unf rfl rfl
theorem g146_22 : G d 146 22 ls st h Q ↔ GN d 146 22 ls h (pA 2 st fun as r => pR r fun a r => ck (r.length ≤ 4 ∧ arr h a 6) (cll 89 (.ref a :: as) r)) Q := G_unf rfl rfl
theorem g146_25 : G d 146 25 ls st h Q ↔ GN d 146 25 ls h (pI st fun x r => br (x = 0) (nx 74 ls r h) (nx 28 ls r h)) Q := G_unf rfl rfl
theorem g146_28 : G d 146 28 ls st h Q ↔ GN d 146 28 ls h (ldI ls 3 fun x => nx 29 ls (.int x :: st) h) Q := G_unf rfl rfl
theorem g146_29 : G d 146 29 ls st h Q ↔ GN d 146 29 ls h (nx 30 ls (.int (nI 1) :: st) h) Q := G_unf rfl rfl
theorem g146_30 : G d 146 30 ls st h Q ↔ GN d 146 30 ls h (pII st fun x y r => br (x < y) (nx 74 ls r h) (nx 33 ls r h)) Q := G_unf rfl rfl
theorem g146_33 : G d 146 33 ls st h Q ↔ GN d 146 33 ls h (ldI ls 3 fun x => nx 34 ls (.int x :: st) h) Q := G_unf rfl rfl
theorem g146_34 : G d 146 34 ls st h Q ↔ GN d 146 34 ls h (nx 36 ls (.int (nI 99) :: st) h) Q := G_unf rfl rfl
theorem g146_36 : G d 146 36 ls st h Q ↔ GN d 146 36 ls h (pII st fun x y r => br (y < x) (nx 74 ls r h) (nx 39 ls r h)) Q := G_unf rfl rfl
theorem g146_39 : G d 146 39 ls st h Q ↔ GN d 146 39 ls h (ldR ls 0 fun a => nx 40 ls (.ref a :: st) h) Q := G_unf rfl rfl
theorem g146_40 : G d 146 40 ls st h Q ↔ GN d 146 40 ls h (pR st fun a r => ck (arr h a 8) (nx 43 ls (rv (hR h a 6) :: r) h)) Q := G_unf rfl rfl
theorem g146_43 : G d 146 43 ls st h Q ↔ GN d 146 43 ls h (pR st fun a r => ck (arr h a 6) (nx 46 ls (.int (hI h a 0) :: r) h)) Q := G_unf rfl rfl
theorem g146_46 : G d 146 46 ls st h Q ↔ GN d 146 46 ls h (ldI ls 3 fun x => nx 47 ls (.int x :: st) h) Q := G_unf rfl rfl
theorem g146_47 : G d 146 47 ls st h Q ↔ GN d 146 47 ls h (pII st fun x y r => nx 48 ls (.int (x + y) :: r) h) Q := G_unf rfl rfl
theorem g146_48 : G d 146 48 ls st h Q ↔ GN d 146 48 ls h (nx 49 ls (.int (nI 1) :: st) h) Q := G_unf rfl rfl
theorem g146_49 : G d 146 49 ls st h Q ↔ GN d 146 49 ls h (pII st fun x y r => nx 50 ls (.int (x - y) :: r) h) Q := G_unf rfl rfl
theorem g146_50 : G d 146 50 ls st h Q ↔ GN d 146 50 ls h (nx 53 ls (.int (nI 999) :: st) h) Q := G_unf rfl rfl
theorem g146_53 : G d 146 53 ls st h Q ↔ GN d 146 53 ls h (pII st fun x y r => br (y < x) (nx 74 ls r h) (nx 56 ls r h)) Q := G_unf rfl rfl
theorem g146_56 : G d 146 56 ls st h Q ↔ GN d 146 56 ls h (ldR ls 0 fun a => nx 57 ls (.ref a :: st) h) Q := G_unf rfl rfl
theorem g146_57 : G d 146 57 ls st h Q ↔ GN d 146 57 ls h (pR st fun a r => ck (arr h a 8) (nx 60 ls (rv (hR h a 2) :: r) h)) Q := G_unf rfl rfl
theorem g146_60 : G d 146 60 ls st h Q ↔ GN d 146 60 ls h (ldR ls 0 fun a => nx 61 ls (.ref a :: st) h) Q := G_unf rfl rfl
theorem g146_61 : G d 146 61 ls st h Q ↔ GN d 146 61 ls h (pR st fun a r => ck (arr h a 8) (nx 64 ls (rv (hR h a 6) :: r) h)) Q := G_unf rfl rfl
theorem g146_64 : G d 146 64 ls st h Q ↔ GN d 146 64 ls h (pA 1 st fun as r => pR r fun a r => ck (r.length ≤ 4 ∧ arr h a 1) (cll 17 (.ref a :: as) r)) Q := G_unf rfl rfl
theorem g146_67 : G d 146 67 ls st h Q ↔ GN d 146 67 ls h (pI st fun x r => br (x ≤ 0) (nx 74 ls r h) (nx 70 ls r h)) Q := G_unf rfl rfl
theorem g146_70 : G d 146 70 ls st h Q ↔ GN d 146 70 ls h (nx 71 ls (.int (nI 1) :: st) h) Q := G_unf rfl rfl
theorem g146_71 : G d 146 71 ls st h Q ↔ GN d 146 71 ls h (nx 75 ls st h) Q := G_unf rfl rfl
theorem g146_74 : G d 146 74 ls st h Q ↔ GN d 146 74 ls h (nx 75 ls (.int (nI 0) :: st) h) Q := G_unf rfl rfl
theorem g146_75 : G d 146 75 ls st h Q ↔ GN d 146 75 ls h (pIe st fun x => ck (x = 0 ∨ x = 1) (rtn (some (.int x)))) Q := G_unf rfl rfl
theorem g147_0 : G d 147 0 ls st h Q ↔ GN d 147 0 ls h (ldR ls 0 fun a => nx 1 ls (.ref a :: st) h) Q := G_unf rfl rfl
theorem g147_1 : G d 147 1 ls st h Q ↔ GN d 147 1 ls h (pR st fun a r => ck (arr h a 8) (nx 4 ls (rv (hR h a 7) :: r) h)) Q := G_unf rfl rfl
theorem g147_4 : G d 147 4 ls st h Q ↔ GN d 147 4 ls h (ldR ls 0 fun a => nx 5 ls (.ref a :: st) h) Q := G_unf rfl rfl
theorem g147_5 : G d 147 5 ls st h Q ↔ GN d 147 5 ls h (pR st fun a r => ck (arr h a 8) (nx 8 ls (rv (hR h a 6) :: r) h)) Q := G_unf rfl rfl
theorem g147_8 : G d 147 8 ls st h Q ↔ GN d 147 8 ls h (pA 1 st fun as r => pR r fun a r => ck (r.length ≤ 4 ∧ arr h a 6) (cll 85 (.ref a :: as) r)) Q := G_unf rfl rfl
theorem g147_11 : G d 147 11 ls st h Q ↔ GN d 147 11 ls h (ldR ls 0 fun a => nx 12 ls (.ref a :: st) h) Q := G_unf rfl rfl
theorem g147_12 : G d 147 12 ls st h Q ↔ GN d 147 12 ls h (pR st fun a r => ck (arr h a 8) (nx 15 ls (rv (hR h a 7) :: r) h)) Q := G_unf rfl rfl
theorem g147_15 : G d 147 15 ls st h Q ↔ GN d 147 15 ls h (pA 0 st fun as r => pR r fun a r => ck (r.length ≤ 4 ∧ arr h a 6) (cll 86 (.ref a :: as) r)) Q := G_unf rfl rfl
theorem g147_18 : G d 147 18 ls st h Q ↔ GN d 147 18 ls h (pE st (rtn none)) Q := G_unf rfl rfl
theorem g148_0 : G d 148 0 ls st h Q ↔ GN d 148 0 ls h (ldR ls 0 fun a => nx 1 ls (.ref a :: st) h) Q := G_unf rfl rfl
theorem g148_1 : G d 148 1 ls st h Q ↔ GN d 148 1 ls h (pA 0 st fun as r => pR r fun a r => ck (r.length ≤ 4 ∧ arr h a 8) (cll 147 (.ref a :: as) r)) Q := G_unf rfl rfl
theorem g148_4 : G d 148 4 ls st h Q ↔ GN d 148 4 ls h (nx 5 ls (.int (nI 0) :: st) h) Q := G_unf rfl rfl
theorem g148_5 : G d 148 5 ls st h Q ↔ GN d 148 5 ls h (pI st fun x r => ck (2 < ls.length) (nx 6 (st1 ls 2 (.int x)) r h)) Q := G_unf rfl rfl
theorem g148_6 : G d 148 6 ls st h Q ↔ GN d 148 6 ls h (ldI ls 2 fun x => nx 7 ls (.int x :: st) h) Q := G_unf rfl rfl
theorem g148_7 : G d 148 7 ls st h Q ↔ GN d 148 7 ls h (ldI ls 1 fun x => nx 8 ls (.int x :: st) h) Q := G_unf rfl rfl
theorem g148_8 : G d 148 8 ls st h Q ↔ GN d 148 8 ls h (pII st fun x y r => br (y ≤ x) (nx 28 ls r h) (nx 11 ls r h)) Q := G_unf rfl rfl
theorem g148_11 : G d 148 11 ls st h Q ↔ GN d 148 11 ls h (ldR ls 0 fun a => nx 12 ls (.ref a :: st) h) Q := G_unf rfl rfl
theorem g148_12 : G d 148 12 ls st h Q ↔ GN d 148 12 ls h (pR st fun a r => ck (arr h a 8) (nx 15 ls (rv (hR h a 2) :: r) h)) Q := G_unf rfl rfl
theorem g148_15 : G d 148 15 ls st h Q ↔ GN d 148 15 ls h (ldR ls 0 fun a => nx 16 ls (.ref a :: st) h) Q := G_unf rfl rfl
theorem g148_16 : G d 148 16 ls st h Q ↔ GN d 148 16 ls h (pR st fun a r => ck (arr h a 8) (nx 19 ls (rv (hR h a 7) :: r) h)) Q := G_unf rfl rfl
theorem g148_19 : G d 148 19 ls st h Q ↔ GN d 148 19 ls h (pA 1 st fun as r => pR r fun a r => ck (r.length ≤ 4 ∧ arr h a 1) (cll 12 (.ref a :: as) r)) Q := G_unf rfl rfl
theorem g148_22 : G d 148 22 ls st h Q ↔ GN d 148 22 ls h (ldI ls 2 fun x => nx 25 (st1 ls 2 (.int (x + (nI 1)))) st h) Q := G_unf rfl rfl
theorem g148_25 : G d 148 25 ls st h Q ↔ GN d 148 25 ls h (nx 6 ls st h) Q := G_unf rfl rfl
theorem g148_28 : G d 148 28 ls st h Q ↔ GN d 148 28 ls h (pE st (rtn none)) Q := G_unf rfl rfl
theorem g149_0 : G d 149 0 ls st h Q ↔ GN d 149 0 ls h (ldR ls 0 fun a => nx 1 ls (.ref a :: st) h) Q := G_unf rfl rfl
theorem g149_1 : G d 149 1 ls st h Q ↔ GN d 149 1 ls h (pR st fun a r => ck (arr h a 8) (nx 4 ls (rv (hR h a 2) :: r) h)) Q := G_unf rfl rfl
theorem g149_4 : G d 149 4 ls st h Q ↔ GN d 149 4 ls h (pR st fun a r => ck (arr h a 1) (nx 7 ls (rv (hR h a 0) :: r) h)) Q := G_unf rfl rfl
theorem g149_7 : G d 149 7 ls st h Q ↔ GN d 149 7 ls h (pR st fun a r => ck (arr h a 0) (nx 10 ls (.int (hI h a 10) :: r) h)) Q := G_unf rfl rfl
theorem g149_10 : G d 149 10 ls st h Q ↔ GN d 149 10 ls h (pI st fun x r => br (x = 0) (nx 26 ls r h) (nx 13 ls r h)) Q := G_unf rfl rfl
theorem g149_13 : G d 149 13 ls st h Q ↔ GN d 149 13 ls h (ldR ls 0 fun a => nx 14 ls (.ref a :: st) h) Q := G_unf rfl rfl
theorem g149_14 : G d 149 14 ls st h Q ↔ GN d 149 14 ls h (pR st fun a r => ck (arr h a 8) (nx 17 ls (rv (hR h a 2) :: r) h)) Q := G_unf rfl rfl
theorem g149_17 : G d 149 17 ls st h Q ↔ GN d 149 17 ls h (pR st fun a r => ck (arr h a 1) (nx 20 ls (rv (hR h a 0) :: r) h)) Q := G_unf rfl rfl
theorem g149_20 : G d 149 20 ls st h Q ↔ GN d 149 20 ls h (pR st fun a r => ck (arr h a 0) (nx 23 ls (.int (hI h a 3) :: r) h)) Q := G_unf rfl rfl
theorem g149_23 : G d 149 23 ls st h Q ↔ GN d 149 23 ls h (pI st fun x r => br (¬ x = 0) (nx 27 ls r h) (nx 26 ls r h)) Q := G_unf rfl rfl
theorem g149_26 : G d 149 26 ls st h Q ↔ GN d 149 26 ls h (pE st (rtn none)) Q := G_unf rfl rfl
theorem g149_27 : G d 149 27 ls st h Q ↔ GN d 149 27 ls h (ldR ls 0 fun a => nx 28 ls (.ref a :: st) h) Q := G_unf rfl rfl
theorem g149_28 : G d 149 28 ls st h Q ↔ GN d 149 28 ls h (ldR ls 0 fun a => nx 29 ls (.ref a :: st) h) Q := G_unf rfl rfl
theorem g149_29 : G d 149 29 ls st h Q ↔ GN d 149 29 ls h (pR st fun a r => ck (arr h a 8) (nx 32 ls (rv (hR h a 2) :: r) h)) Q := G_unf rfl rfl
theorem g149_32 : G d 149 32 ls st h Q ↔ GN d 149 32 ls h (pR st fun a r => ck (arr h a 1) (nx 35 ls (rv (hR h a 0) :: r) h)) Q := G_unf rfl rfl
theorem g149_35 : G d 149 35 ls st h Q ↔ GN d 149 35 ls h (pR st fun a r => ck (arr h a 0) (nx 38 ls (.int (hI h a 10) :: r) h)) Q := G_unf rfl rfl
theorem g149_38 : G d 149 38 ls st h Q ↔ GN d 149 38 ls h (pA 1 st fun as r => pR r fun a r => ck (r.length ≤ 4 ∧ arr h a 8) (cll 150 (.ref a :: as) r)) Q := G_unf rfl rfl
theorem g149_41 : G d 149 41 ls st h Q ↔ GN d 149 41 ls h (pI st fun x r => ck (1 < ls.length) (nx 42 (st1 ls 1 (.int x)) r h)) Q := G_unf rfl rfl
theorem g149_42 : G d 149 42 ls st h Q ↔ GN d 149 42 ls h (ldR ls 0 fun a => nx 43 ls (.ref a :: st) h) Q := G_unf rfl rfl
theorem g149_43 : G d 149 43 ls st h Q ↔ GN d 149 43 ls h (ldR ls 0 fun a => nx 44 ls (.ref a :: st) h) Q := G_unf rfl rfl
theorem g149_44 : G d 149 44 ls st h Q ↔ GN d 149 44 ls h (pR st fun a r => ck (arr h a 8) (nx 47 ls (rv (hR h a 2) :: r) h)) Q := G_unf rfl rfl
theorem g149_47 : G d 149 47 ls st h Q ↔ GN d 149 47 ls h (pR st fun a r => ck (arr h a 1) (nx 50 ls (rv (hR h a 0) :: r) h)) Q := G_unf rfl rfl
theorem g149_50 : G d 149 50 ls st h Q ↔ GN d 149 50 ls h (pR st fun a r => ck (arr h a 0) (nx 53 ls (.int (hI h a 3) :: r) h)) Q := G_unf rfl rfl
theorem g149_53 : G d 149 53 ls st h Q ↔ GN d 149 53 ls h (pA 1 st fun as r => pR r fun a r => ck (r.length ≤ 4 ∧ arr h a 8) (cll 150 (.ref a :: as) r)) Q := G_unf rfl rfl
theorem g149_56 : G d 149 56 ls st h Q ↔ GN d 149 56 ls h (pI st fun x r => ck (2 < ls.length) (nx 57 (st1 ls 2 (.int x)) r h)) Q := G_unf rfl rfl
theorem g149_57 : G d 149 57 ls st h Q ↔ GN d 149 57 ls h (ldR ls 0 fun a => nx 58 ls (.ref a :: st) h) Q := G_unf rfl rfl
theorem g149_58 : G d 149 58 ls st h Q ↔ GN d 149 58 ls h (nx 59 ls (.int (nI 2) :: st) h) Q := G_unf rfl rfl
theorem g149_59 : G d 149 59 ls st h Q ↔ GN d 149 59 ls h (pA 1 st fun as r => pR r fun a r => ck (r.length ≤ 4 ∧ arr h a 8) (cll 150 (.ref a :: as) r)) Q := G_unf rfl rfl
theorem g149_62 : G d 149 62 ls st h Q ↔ GN d 149 62 ls h (pI st fun x r => ck (3 < ls.length) (nx 63 (st1 ls 3 (.int x)) r h)) Q := G_unf rfl rfl
theorem g149_63 : G d 149 63 ls st h Q ↔ GN d 149 63 ls h (ldI ls 3 fun x => nx 64 ls (.int x :: st) h) Q := G_unf rfl rfl
theorem g149_64 : G d 149 64 ls st h Q ↔ GN d 149 64 ls h (nx 65 ls (.int (nI 1) :: st) h) Q := G_unf rfl rfl
theorem g149_65 : G d 149 65 ls st h Q ↔ GN d 149 65 ls h (pII st fun x y r => br (¬ x = y) (nx 94 ls r h) (nx 68 ls r h)) Q := G_unf rfl rfl
theorem g149_68 : G d 149 68 ls st h Q ↔ GN d 149 68 ls h (ldR ls 0 fun a => nx 69 ls (.ref a :: st) h) Q := G_unf rfl rfl
theorem g149_69 : G d 149 69 ls st h Q ↔ GN d 149 69 ls h (pR st fun a r => ck (arr h a 8) (nx 72 ls (rv (hR h a 6) :: r) h)) Q := G_unf rfl rfl
theorem g149_72 : G d 149 72 ls st h Q ↔ GN d 149 72 ls h (ldI ls 1 fun x => nx 73 ls (.int x :: st) h) Q := G_unf rfl rfl
theorem g149_73 : G d 149 73 ls st h Q ↔ GN d 149 73 ls h (ldI ls 2 fun x => nx 74 ls (.int x :: st) h) Q := G_unf rfl rfl
theorem g149_74 : G d 149 74 ls st h Q ↔ GN d 149 74 ls h (pA 2 st fun as r => pR r fun a r => ck (r.length ≤ 4 ∧ arr h a 6) (cll 89 (.ref a :: as) r)) Q := G_unf rfl rfl
theorem g149_77 : G d 149 77 ls st h Q ↔ GN d 149 77 ls h (pI st fun x r => br (x = 0) (nx 94 ls r h) (nx 80 ls r h)) Q := G_unf rfl rfl
theorem g149_80 : G d 149 80 ls st h Q ↔ GN d 149 80 ls h (ldR ls 0 fun a => nx 81 ls (.ref a :: st) h) Q := G_unf rfl rfl
theorem g149_81 : G d 149 81 ls st h Q ↔ GN d 149 81 ls h (pR st fun a r => ck (arr h a 8) (nx 84 ls (rv (hR h a 2) :: r) h)) Q := G_unf rfl rfl
theorem g149_84 : G d 149 84 ls st h Q ↔ GN d 149 84 ls h (ldR ls 0 fun a => nx 85 ls (.ref a :: st) h) Q := G_unf rfl rfl
theorem g149_85 : G d 149 85 ls st h Q ↔ GN d 149 85 ls h (pR st fun a r => ck (arr h a 8) (nx 88 ls (rv (hR h a 6) :: r) h)) Q := G_unf rfl rfl
theorem g149_88 : G d 149 88 ls st h Q ↔ GN d 149 88 ls h (ldI ls 1 fun x => nx 89 ls (.int x :: st) h) Q := G_unf rfl rfl
theorem g149_89 : G d 149 89 ls st h Q ↔ GN d 149 89 ls h (ldI ls 2 fun x => nx 90 ls (.int x :: st) h) Q := G_unf rfl rfl
theorem g149_90 : G d 149 90 ls st h Q ↔ GN d 149 90 ls h (pA 3 st fun as r => pR r fun a r => ck (r.length ≤ 4 ∧ arr h a 1) (cll 16 (.ref a :: as) r)) Q := G_unf rfl rfl
theorem g149_93 : G d 149 93 ls st h Q ↔ GN d 149 93 ls h (p1 st fun _ r => nx 94 ls r h) Q := G_unf rfl rfl
theorem g149_94 : G d 149 94 ls st h Q ↔ GN d 149 94 ls h (pE st (rtn none)) Q := G_unf rfl rfl
theorem g150_0 : G d 150 0 ls st h Q ↔ GN d 150 0 ls h (ldR ls 0 fun a => nx 1 ls (.ref a :: st) h) Q := G_unf rfl rfl
theorem g150_1 : G d 150 1 ls st h Q ↔ GN d 150 1 ls h (nx 4 ls (.int (nI 1103515245) :: st) h) Q := G_unf rfl rfl
theorem g150_4 : G d 150 4 ls st h Q ↔ GN d 150 4 ls h (ldR ls 0 fun a => nx 5 ls (.ref a :: st) h) Q := G_unf rfl rfl
theorem g150_5 : G d 150 5 ls st h Q ↔ GN d 150 5 ls h (pR st fun a r => ck (arr h a 8) (nx 8 ls (.int (hI h a 11) :: r) h)) Q := G_unf rfl rfl
theorem g150_8 : G d 150 8 ls st h Q ↔ GN d 150 8 ls h (pII st fun x y r => nx 9 ls (.int (x * y) :: r) h) Q := G_unf rfl rfl
theorem g150_9 : G d 150 9 ls st h Q ↔ GN d 150 9 ls h (nx 12 ls (.int (nI 12345) :: st) h) Q := G_unf rfl rfl
theorem g150_12 : G d 150 12 ls st h Q ↔ GN d 150 12 ls h (pII st fun x y r => nx 13 ls (.int (x + y) :: r) h) Q := G_unf rfl rfl
theorem g150_13 : G d 150 13 ls st h Q ↔ GN d 150 13 ls h (nx 16 ls (.int (nI 2147483647) :: st) h) Q := G_unf rfl rfl
theorem g150_16 : G d 150 16 ls st h Q ↔ GN d 150 16 ls h (pII st fun x y r => nx 17 ls (.int (x &&& y) :: r) h) Q := G_unf rfl rfl
theorem g150_17 : G d 150 17 ls st h Q ↔ GN d 150 17 ls h (pRI st fun a x r => ck (arr h a 8) (nx 20 ls r (sI h a 11 x))) Q := G_unf rfl rfl
theorem g150_20 : G d 150 20 ls st h Q ↔ GN d 150 20 ls h (ldI ls 1 fun x => nx 21 ls (.int x :: st) h) Q := G_unf rfl rfl
theorem g150_21 : G d 150 21 ls st h Q ↔ GN d 150 21 ls h (pI st fun x r => br (x ≤ 0) (nx 36 ls r h) (nx 24 ls r h)) Q := G_unf rfl rfl
theorem g150_24 : G d 150 24 ls st h Q ↔ GN d 150 24 ls h (ldR ls 0 fun a => nx 25 ls (.ref a :: st) h) Q := G_unf rfl rfl
theorem g150_25 : G d 150 25 ls st h Q ↔ GN d 150 25 ls h (pR st fun a r => ck (arr h a 8) (nx 28 ls (.int (hI h a 11) :: r) h)) Q := G_unf rfl rfl
theorem g150_28 : G d 150 28 ls st h Q ↔ GN d 150 28 ls h (nx 30 ls (.int (nI 64) :: st) h) Q := G_unf rfl rfl
theorem g150_30 : G d 150 30 ls st h Q ↔ GN d 150 30 ls h (pII st fun x y r => ck (¬ y = 0) (nx 31 ls (.int (x / y) :: r) h)) Q := G_unf rfl rfl
theorem g150_31 : G d 150 31 ls st h Q ↔ GN d 150 31 ls h (ldI ls 1 fun x => nx 32 ls (.int x :: st) h) Q := G_unf rfl rfl
theorem g150_32 : G d 150 32 ls st h Q ↔ GN d 150 32 ls h (pII st fun x y r => ck (¬ y = 0) (nx 33 ls (.int (x - x / y * y) :: r) h)) Q := G_unf rfl rfl
theorem g150_33 : G d 150 33 ls st h Q ↔ GN d 150 33 ls h (nx 37 ls st h) Q := G_unf rfl rfl
theorem g150_36 : G d 150 36 ls st h Q ↔ GN d 150 36 ls h (nx 37 ls (.int (nI 0) :: st) h) Q := G_unf rfl rfl
theorem g150_37 : G d 150 37 ls st h Q ↔ GN d 150 37 ls h (pIe st fun x => rtn (some (.int x))) Q := G_unf rfl rfl
theorem g151_0 : G d 151 0 ls st h Q ↔ GN d 151 0 ls h (ldI ls 0 fun x => nx 1 ls (.int x :: st) h) Q := G_unf rfl rfl
theorem g151_1 : G d 151 1 ls st h Q ↔ GN d 151 1 ls h (nx 2 ls (.int (nI 5) :: st) h) Q := G_unf rfl rfl
theorem g151_2 : G d 151 2 ls st h Q ↔ GN d 151 2 ls h (ldI ls 1 fun x => nx 3 ls (.int x :: st) h) Q := G_unf rfl rfl
theorem g151_3 : G d 151 3 ls st h Q ↔ GN d 151 3 ls h (pII st fun x y r => nx 4 ls (.int (x * y) :: r) h) Q := G_unf rfl rfl
theorem g151_4 : G d 151 4 ls st h Q ↔ GN d 151 4 ls h (pII st fun x y r => nx 5 ls (.int (x >>> (y &&& 31)) :: r) h) Q := G_unf rfl rfl
theorem g151_5 : G d 151 5 ls st h Q ↔ GN d 151 5 ls h (nx 7 ls (.int (nI 31) :: st) h) Q := G_unf rfl rfl
theorem g151_7 : G d 151 7 ls st h Q ↔ GN d 151 7 ls h (pII st fun x y r => nx 8 ls (.int (x &&& y) :: r) h) Q := G_unf rfl rfl
theorem g151_8 : G d 151 8 ls st h Q ↔ GN d 151 8 ls h (pIe st fun x => rtn (some (.int x))) Q := G_unf rfl rfl
theorem g152_0 : G d 152 0 ls st h Q ↔ GN d 152 0 ls h (nx 1 ls (.int (nI 0) :: st) h) Q := G_unf rfl rfl
theorem g152_1 : G d 152 1 ls st h Q ↔ GN d 152 1 ls h (pI st fun x r => ck (2 < ls.length) (nx 2 (st1 ls 2 (.int x)) r h)) Q := G_unf rfl rfl
theorem g152_2 : G d 152 2 ls st h Q ↔ GN d 152 2 ls h (nx 3 ls (.int (nI 0) :: st) h) Q := G_unf rfl rfl
theorem g152_3 : G d 152 3 ls st h Q ↔ GN d 152 3 ls h (pI st fun x r => ck (3 < ls.length) (nx 4 (st1 ls 3 (.int x)) r h)) Q := G_unf rfl rfl
theorem g152_4 : G d 152 4 ls st h Q ↔ GN d 152 4 ls h (ldI ls 3 fun x => nx 5 ls (.int x :: st) h) Q := G_unf rfl rfl
theorem g152_5 : G d 152 5 ls st h Q ↔ GN d 152 5 ls h (ldR ls 0 fun a => nx 6 ls (.ref a :: st) h) Q := G_unf rfl rfl
theorem g152_6 : G d 152 6 ls st h Q ↔ GN d 152 6 ls h (pR st fun a r => br (a = 1000000) (nx 7 ls (.int (nI 0) :: r) h) (br (a = 1000002) (nx 7 ls (.int (nI 208) :: r) h) (br (a = 1000003) (nx 7 ls (.int (nI (hS h).1) :: r) h) (ck (a < hN h ∧ 10 ≤ lay a) (nx 7 ls (.int (nI (hLn h a)) :: r) h))))) Q := G_unf rfl rfl
theorem g152_7 : G d 152 7 ls st h Q ↔ GN d 152 7 ls h (pII st fun x y r => br (y ≤ x) (nx 26 ls r h) (nx 10 ls r h)) Q := G_unf rfl rfl
theorem g152_10 : G d 152 10 ls st h Q ↔ GN d 152 10 ls h (ldI ls 2 fun x => nx 11 ls (.int x :: st) h) Q := G_unf rfl rfl
theorem g152_11 : G d 152 11 ls st h Q ↔ GN d 152 11 ls h (ldR ls 0 fun a => nx 12 ls (.ref a :: st) h) Q := G_unf rfl rfl
theorem g152_12 : G d 152 12 ls st h Q ↔ GN d 152 12 ls h (ldI ls 3 fun x => nx 13 ls (.int x :: st) h) Q := G_unf rfl rfl
theorem g152_13 : G d 152 13 ls st h Q ↔ GN d 152 13 ls h (pRI st fun a i r => br (a = 1000003) (ck (inb i (hS h).1) (nx 14 ls (.int ((hS h).2 i.toNatClampNeg) :: r) h)) (ck (arr h a 10 ∧ inb i (hLn h a)) (nx 14 ls (.int (hI h a i.toNatClampNeg) :: r) h))) Q := G_unf rfl rfl
theorem g152_14 : G d 152 14 ls st h Q ↔ GN d 152 14 ls h (ldI ls 1 fun x => nx 15 ls (.int x :: st) h) Q := G_unf rfl rfl
theorem g152_15 : G d 152 15 ls st h Q ↔ GN d 152 15 ls h (pII st fun x y r => nx 16 ls (.int (x >>> (y &&& 31)) :: r) h) Q := G_unf rfl rfl
theorem g152_16 : G d 152 16 ls st h Q ↔ GN d 152 16 ls h (nx 17 ls (.int (nI 1) :: st) h) Q := G_unf rfl rfl
theorem g152_17 : G d 152 17 ls st h Q ↔ GN d 152 17 ls h (pII st fun x y r => nx 18 ls (.int (x &&& y) :: r) h) Q := G_unf rfl rfl
theorem g152_18 : G d 152 18 ls st h Q ↔ GN d 152 18 ls h (pII st fun x y r => nx 19 ls (.int (x + y) :: r) h) Q := G_unf rfl rfl
theorem g152_19 : G d 152 19 ls st h Q ↔ GN d 152 19 ls h (pI st fun x r => ck (2 < ls.length) (nx 20 (st1 ls 2 (.int x)) r h)) Q := G_unf rfl rfl
theorem g152_20 : G d 152 20 ls st h Q ↔ GN d 152 20 ls h (ldI ls 3 fun x => nx 23 (st1 ls 3 (.int (x + (nI 1)))) st h) Q := G_unf rfl rfl
theorem g152_23 : G d 152 23 ls st h Q ↔ GN d 152 23 ls h (nx 4 ls st h) Q := G_unf rfl rfl
theorem g152_26 : G d 152 26 ls st h Q ↔ GN d 152 26 ls h (ldI ls 2 fun x => nx 27 ls (.int x :: st) h) Q := G_unf rfl rfl
theorem g152_27 : G d 152 27 ls st h Q ↔ GN d 152 27 ls h (pIe st fun x => rtn (some (.int x))) Q := G_unf rfl rfl
theorem g153_0 : G d 153 0 ls st h Q ↔ GN d 153 0 ls h (ldI ls 0 fun x => nx 1 ls (.int x :: st) h) Q := G_unf rfl rfl
theorem g153_1 : G d 153 1 ls st h Q ↔ GN d 153 1 ls h (nx 3 ls (.int (nI 12) :: st) h) Q := G_unf rfl rfl
theorem g153_3 : G d 153 3 ls st h Q ↔ GN d 153 3 ls h (pII st fun x y r => nx 4 ls (.int (x <<< (y &&& 31)) :: r) h) Q := G_unf rfl rfl
theorem g153_4 : G d 153 4 ls st h Q ↔ GN d 153 4 ls h (ldI ls 1 fun x => nx 5 ls (.int x :: st) h) Q := G_unf rfl rfl
theorem g153_5 : G d 153 5 ls st h Q ↔ GN d 153 5 ls h (nx 7 ls (.int (nI 8) :: st) h) Q := G_unf rfl rfl
theorem g153_7 : G d 153 7 ls st h Q ↔ GN d 153 7 ls h (pII st fun x y r => nx 8 ls (.int (x <<< (y &&& 31)) :: r) h) Q := G_unf rfl rfl
theorem g153_8 : G d 153 8 ls st h Q ↔ GN d 153 8 ls h (pII st fun x y r => nx 9 ls (.int (x ||| y) :: r) h) Q := G_unf rfl rfl
theorem g153_9 : G d 153 9 ls st h Q ↔ GN d 153 9 ls h (ldI ls 2 fun x => nx 10 ls (.int x :: st) h) Q := G_unf rfl rfl
theorem g153_10 : G d 153 10 ls st h Q ↔ GN d 153 10 ls h (nx 11 ls (.int (nI 4) :: st) h) Q := G_unf rfl rfl
theorem g153_11 : G d 153 11 ls st h Q ↔ GN d 153 11 ls h (pII st fun x y r => nx 12 ls (.int (x <<< (y &&& 31)) :: r) h) Q := G_unf rfl rfl
theorem g153_12 : G d 153 12 ls st h Q ↔ GN d 153 12 ls h (pII st fun x y r => nx 13 ls (.int (x ||| y) :: r) h) Q := G_unf rfl rfl
theorem g153_13 : G d 153 13 ls st h Q ↔ GN d 153 13 ls h (ldI ls 3 fun x => nx 14 ls (.int x :: st) h) Q := G_unf rfl rfl
theorem g153_14 : G d 153 14 ls st h Q ↔ GN d 153 14 ls h (pII st fun x y r => nx 15 ls (.int (x ||| y) :: r) h) Q := G_unf rfl rfl
theorem g153_15 : G d 153 15 ls st h Q ↔ GN d 153 15 ls h (pIe st fun x => rtn (some (.int x))) Q := G_unf rfl rfl
theorem g154_0 : G d 154 0 ls st h Q ↔ GN d 154 0 ls h (ldI ls 1 fun x => nx 1 ls (.int x :: st) h) Q := G_unf rfl rfl
theorem g154_1 : G d 154 1 ls st h Q ↔ GN d 154 1 ls h (pI st fun x r => br (x.toInt = 0) (nx 32 ls r h) (br (x.toInt = 1) (nx 37 ls r h) (br (x.toInt = 2) (nx 45 ls r h) (br (x.toInt = 3) (nx 52 ls r h) (nx 57 ls r h))))) Q := G_unf rfl rfl
theorem g154_32 : G d 154 32 ls st h Q ↔ GN d 154 32 ls h (ldI ls 0 fun x => nx 33 ls (.int x :: st) h) Q := G_unf rfl rfl
theorem g154_33 : G d 154 33 ls st h Q ↔ GN d 154 33 ls h (nx 35 ls (.int (nI 12) :: st) h) Q := G_unf rfl rfl
theorem g154_35 : G d 154 35 ls st h Q ↔ GN d 154 35 ls h (pII st fun x y r => nx 36 ls (.int (x >>> (y &&& 31)) :: r) h) Q := G_unf rfl rfl
theorem g154_36 : G d 154 36 ls st h Q ↔ GN d 154 36 ls h (pIe st fun x => rtn (some (.int x))) Q := G_unf rfl rfl
theorem g154_37 : G d 154 37 ls st h Q ↔ GN d 154 37 ls h (ldI ls 0 fun x => nx 38 ls (.int x :: st) h) Q := G_unf rfl rfl
theorem g154_38 : G d 154 38 ls st h Q ↔ GN d 154 38 ls h (nx 40 ls (.int (nI 8) :: st) h) Q := G_unf rfl rfl
theorem g154_40 : G d 154 40 ls st h Q ↔ GN d 154 40 ls h (pII st fun x y r => nx 41 ls (.int (x >>> (y &&& 31)) :: r) h) Q := G_unf rfl rfl
theorem g154_41 : G d 154 41 ls st h Q ↔ GN d 154 41 ls h (nx 43 ls (.int (nI 15) :: st) h) Q := G_unf rfl rfl
theorem g154_43 : G d 154 43 ls st h Q ↔ GN d 154 43 ls h (pII st fun x y r => nx 44 ls (.int (x &&& y) :: r) h) Q := G_unf rfl rfl
theorem g154_44 : G d 154 44 ls st h Q ↔ GN d 154 44 ls h (pIe st fun x => rtn (some (.int x))) Q := G_unf rfl rfl
theorem g154_45 : G d 154 45 ls st h Q ↔ GN d 154 45 ls h (ldI ls 0 fun x => nx 46 ls (.int x :: st) h) Q := G_unf rfl rfl
theorem g154_46 : G d 154 46 ls st h Q ↔ GN d 154 46 ls h (nx 47 ls (.int (nI 4) :: st) h) Q := G_unf rfl rfl
theorem g154_47 : G d 154 47 ls st h Q ↔ GN d 154 47 ls h (pII st fun x y r => nx 48 ls (.int (x >>> (y &&& 31)) :: r) h) Q := G_unf rfl rfl
theorem g154_48 : G d 154 48 ls st h Q ↔ GN d 154 48 ls h (nx 50 ls (.int (nI 15) :: st) h) Q := G_unf rfl rfl
theorem g154_50 : G d 154 50 ls st h Q ↔ GN d 154 50 ls h (pII st fun x y r => nx 51 ls (.int (x &&& y) :: r) h) Q := G_unf rfl rfl
theorem g154_51 : G d 154 51 ls st h Q ↔ GN d 154 51 ls h (pIe st fun x => rtn (some (.int x))) Q := G_unf rfl rfl
theorem g154_52 : G d 154 52 ls st h Q ↔ GN d 154 52 ls h (ldI ls 0 fun x => nx 53 ls (.int x :: st) h) Q := G_unf rfl rfl
theorem g154_53 : G d 154 53 ls st h Q ↔ GN d 154 53 ls h (nx 55 ls (.int (nI 15) :: st) h) Q := G_unf rfl rfl
theorem g154_55 : G d 154 55 ls st h Q ↔ GN d 154 55 ls h (pII st fun x y r => nx 56 ls (.int (x &&& y) :: r) h) Q := G_unf rfl rfl
theorem g154_56 : G d 154 56 ls st h Q ↔ GN d 154 56 ls h (pIe st fun x => rtn (some (.int x))) Q := G_unf rfl rfl
theorem g154_57 : G d 154 57 ls st h Q ↔ GN d 154 57 ls h (nx 58 ls (.int (-1) :: st) h) Q := G_unf rfl rfl
theorem g154_58 : G d 154 58 ls st h Q ↔ GN d 154 58 ls h (pIe st fun x => rtn (some (.int x))) Q := G_unf rfl rfl
theorem g273_0 : G d 273 0 ls st h Q ↔ GN d 273 0 ls h (ldI ls 0 fun x => nx 1 ls (.int x :: st) h) Q := G_unf rfl rfl
theorem g273_1 : G d 273 1 ls st h Q ↔ GN d 273 1 ls h (ldI ls 0 fun x => nx 2 ls (.int x :: st) h) Q := G_unf rfl rfl
theorem g273_2 : G d 273 2 ls st h Q ↔ GN d 273 2 ls h (nx 3 ls (.int (nI 1) :: st) h) Q := G_unf rfl rfl
theorem g273_3 : G d 273 3 ls st h Q ↔ GN d 273 3 ls h (pII st fun x y r => nx 4 ls (.int (x.toUInt32 >>> (y.toUInt32 &&& Int32.toUInt32 31)).toInt32 :: r) h) Q := G_unf rfl rfl
theorem g273_4 : G d 273 4 ls st h Q ↔ GN d 273 4 ls h (nx 7 ls (.int (nI 1431655765) :: st) h) Q := G_unf rfl rfl
theorem g273_7 : G d 273 7 ls st h Q ↔ GN d 273 7 ls h (pII st fun x y r => nx 8 ls (.int (x &&& y) :: r) h) Q := G_unf rfl rfl
theorem g273_8 : G d 273 8 ls st h Q ↔ GN d 273 8 ls h (pII st fun x y r => nx 9 ls (.int (x - y) :: r) h) Q := G_unf rfl rfl
theorem g273_9 : G d 273 9 ls st h Q ↔ GN d 273 9 ls h (pI st fun x r => ck (0 < ls.length) (nx 10 (st1 ls 0 (.int x)) r h)) Q := G_unf rfl rfl
theorem g273_10 : G d 273 10 ls st h Q ↔ GN d 273 10 ls h (ldI ls 0 fun x => nx 11 ls (.int x :: st) h) Q := G_unf rfl rfl
theorem g273_11 : G d 273 11 ls st h Q ↔ GN d 273 11 ls h (nx 14 ls (.int (nI 858993459) :: st) h) Q := G_unf rfl rfl
theorem g273_14 : G d 273 14 ls st h Q ↔ GN d 273 14 ls h (pII st fun x y r => nx 15 ls (.int (x &&& y) :: r) h) Q := G_unf rfl rfl
theorem g273_15 : G d 273 15 ls st h Q ↔ GN d 273 15 ls h (ldI ls 0 fun x => nx 16 ls (.int x :: st) h) Q := G_unf rfl rfl
theorem g273_16 : G d 273 16 ls st h Q ↔ GN d 273 16 ls h (nx 17 ls (.int (nI 2) :: st) h) Q := G_unf rfl rfl
theorem g273_17 : G d 273 17 ls st h Q ↔ GN d 273 17 ls h (pII st fun x y r => nx 18 ls (.int (x.toUInt32 >>> (y.toUInt32 &&& Int32.toUInt32 31)).toInt32 :: r) h) Q := G_unf rfl rfl
theorem g273_18 : G d 273 18 ls st h Q ↔ GN d 273 18 ls h (nx 21 ls (.int (nI 858993459) :: st) h) Q := G_unf rfl rfl
theorem g273_21 : G d 273 21 ls st h Q ↔ GN d 273 21 ls h (pII st fun x y r => nx 22 ls (.int (x &&& y) :: r) h) Q := G_unf rfl rfl
theorem g273_22 : G d 273 22 ls st h Q ↔ GN d 273 22 ls h (pII st fun x y r => nx 23 ls (.int (x + y) :: r) h) Q := G_unf rfl rfl
theorem g273_23 : G d 273 23 ls st h Q ↔ GN d 273 23 ls h (pI st fun x r => ck (0 < ls.length) (nx 24 (st1 ls 0 (.int x)) r h)) Q := G_unf rfl rfl
theorem g273_24 : G d 273 24 ls st h Q ↔ GN d 273 24 ls h (ldI ls 0 fun x => nx 25 ls (.int x :: st) h) Q := G_unf rfl rfl
theorem g273_25 : G d 273 25 ls st h Q ↔ GN d 273 25 ls h (ldI ls 0 fun x => nx 26 ls (.int x :: st) h) Q := G_unf rfl rfl
theorem g273_26 : G d 273 26 ls st h Q ↔ GN d 273 26 ls h (nx 27 ls (.int (nI 4) :: st) h) Q := G_unf rfl rfl
theorem g273_27 : G d 273 27 ls st h Q ↔ GN d 273 27 ls h (pII st fun x y r => nx 28 ls (.int (x.toUInt32 >>> (y.toUInt32 &&& Int32.toUInt32 31)).toInt32 :: r) h) Q := G_unf rfl rfl
theorem g273_28 : G d 273 28 ls st h Q ↔ GN d 273 28 ls h (pII st fun x y r => nx 29 ls (.int (x + y) :: r) h) Q := G_unf rfl rfl
theorem g273_29 : G d 273 29 ls st h Q ↔ GN d 273 29 ls h (nx 32 ls (.int (nI 252645135) :: st) h) Q := G_unf rfl rfl
theorem g273_32 : G d 273 32 ls st h Q ↔ GN d 273 32 ls h (pII st fun x y r => nx 33 ls (.int (x &&& y) :: r) h) Q := G_unf rfl rfl
theorem g273_33 : G d 273 33 ls st h Q ↔ GN d 273 33 ls h (pI st fun x r => ck (0 < ls.length) (nx 34 (st1 ls 0 (.int x)) r h)) Q := G_unf rfl rfl
theorem g273_34 : G d 273 34 ls st h Q ↔ GN d 273 34 ls h (ldI ls 0 fun x => nx 35 ls (.int x :: st) h) Q := G_unf rfl rfl
theorem g273_35 : G d 273 35 ls st h Q ↔ GN d 273 35 ls h (ldI ls 0 fun x => nx 36 ls (.int x :: st) h) Q := G_unf rfl rfl
theorem g273_36 : G d 273 36 ls st h Q ↔ GN d 273 36 ls h (nx 38 ls (.int (nI 8) :: st) h) Q := G_unf rfl rfl
theorem g273_38 : G d 273 38 ls st h Q ↔ GN d 273 38 ls h (pII st fun x y r => nx 39 ls (.int (x.toUInt32 >>> (y.toUInt32 &&& Int32.toUInt32 31)).toInt32 :: r) h) Q := G_unf rfl rfl
theorem g273_39 : G d 273 39 ls st h Q ↔ GN d 273 39 ls h (pII st fun x y r => nx 40 ls (.int (x + y) :: r) h) Q := G_unf rfl rfl
theorem g273_40 : G d 273 40 ls st h Q ↔ GN d 273 40 ls h (pI st fun x r => ck (0 < ls.length) (nx 41 (st1 ls 0 (.int x)) r h)) Q := G_unf rfl rfl
theorem g273_41 : G d 273 41 ls st h Q ↔ GN d 273 41 ls h (ldI ls 0 fun x => nx 42 ls (.int x :: st) h) Q := G_unf rfl rfl
theorem g273_42 : G d 273 42 ls st h Q ↔ GN d 273 42 ls h (ldI ls 0 fun x => nx 43 ls (.int x :: st) h) Q := G_unf rfl rfl
theorem g273_43 : G d 273 43 ls st h Q ↔ GN d 273 43 ls h (nx 45 ls (.int (nI 16) :: st) h) Q := G_unf rfl rfl
theorem g273_45 : G d 273 45 ls st h Q ↔ GN d 273 45 ls h (pII st fun x y r => nx 46 ls (.int (x.toUInt32 >>> (y.toUInt32 &&& Int32.toUInt32 31)).toInt32 :: r) h) Q := G_unf rfl rfl
theorem g273_46 : G d 273 46 ls st h Q ↔ GN d 273 46 ls h (pII st fun x y r => nx 47 ls (.int (x + y) :: r) h) Q := G_unf rfl rfl
theorem g273_47 : G d 273 47 ls st h Q ↔ GN d 273 47 ls h (pI st fun x r => ck (0 < ls.length) (nx 48 (st1 ls 0 (.int x)) r h)) Q := G_unf rfl rfl
theorem g273_48 : G d 273 48 ls st h Q ↔ GN d 273 48 ls h (ldI ls 0 fun x => nx 49 ls (.int x :: st) h) Q := G_unf rfl rfl
theorem g273_49 : G d 273 49 ls st h Q ↔ GN d 273 49 ls h (nx 51 ls (.int (nI 63) :: st) h) Q := G_unf rfl rfl
theorem g273_51 : G d 273 51 ls st h Q ↔ GN d 273 51 ls h (pII st fun x y r => nx 52 ls (.int (x &&& y) :: r) h) Q := G_unf rfl rfl
theorem g273_52 : G d 273 52 ls st h Q ↔ GN d 273 52 ls h (pIe st fun x => rtn (some (.int x))) Q := G_unf rfl rfl
theorem g274_0 : G d 274 0 ls st h Q ↔ GN d 274 0 ls h (ldJ ls 0 fun x => nx 1 ls (.long x :: st) h) Q := G_unf rfl rfl
theorem g274_1 : G d 274 1 ls st h Q ↔ GN d 274 1 ls h (ldJ ls 2 fun x => nx 2 ls (.long x :: st) h) Q := G_unf rfl rfl
theorem g274_2 : G d 274 2 ls st h Q ↔ GN d 274 2 ls h (pJJ st fun x y r => ck (¬ y = 0) (nx 3 ls (.long (x / y) :: r) h)) Q := G_unf rfl rfl
theorem g274_3 : G d 274 3 ls st h Q ↔ GN d 274 3 ls h (pJ st fun x r => ck (5 < ls.length) (nx 5 (st2 ls 4 (.long x)) r h)) Q := G_unf rfl rfl
theorem g274_5 : G d 274 5 ls st h Q ↔ GN d 274 5 ls h (ldJ ls 0 fun x => nx 6 ls (.long x :: st) h) Q := G_unf rfl rfl
theorem g274_6 : G d 274 6 ls st h Q ↔ GN d 274 6 ls h (ldJ ls 2 fun x => nx 7 ls (.long x :: st) h) Q := G_unf rfl rfl
theorem g274_7 : G d 274 7 ls st h Q ↔ GN d 274 7 ls h (pJJ st fun x y r => nx 8 ls (.long (x ^^^ y) :: r) h) Q := G_unf rfl rfl
theorem g274_8 : G d 274 8 ls st h Q ↔ GN d 274 8 ls h (nx 9 ls (.long (lN 0) :: st) h) Q := G_unf rfl rfl
theorem g274_9 : G d 274 9 ls st h Q ↔ GN d 274 9 ls h (pJJ st fun x y r => nx 10 ls (.int (lg_cmp x y) :: r) h) Q := G_unf rfl rfl
theorem g274_10 : G d 274 10 ls st h Q ↔ GN d 274 10 ls h (pI st fun x r => br (0 ≤ x) (nx 27 ls r h) (nx 13 ls r h)) Q := G_unf rfl rfl
theorem g274_13 : G d 274 13 ls st h Q ↔ GN d 274 13 ls h (ldJ ls 4 fun x => nx 15 ls (.long x :: st) h) Q := G_unf rfl rfl
theorem g274_15 : G d 274 15 ls st h Q ↔ GN d 274 15 ls h (ldJ ls 2 fun x => nx 16 ls (.long x :: st) h) Q := G_unf rfl rfl
theorem g274_16 : G d 274 16 ls st h Q ↔ GN d 274 16 ls h (pJJ st fun x y r => nx 17 ls (.long (x * y) :: r) h) Q := G_unf rfl rfl
theorem g274_17 : G d 274 17 ls st h Q ↔ GN d 274 17 ls h (ldJ ls 0 fun x => nx 18 ls (.long x :: st) h) Q := G_unf rfl rfl
theorem g274_18 : G d 274 18 ls st h Q ↔ GN d 274 18 ls h (pJJ st fun x y r => nx 19 ls (.int (lg_cmp x y) :: r) h) Q := G_unf rfl rfl
theorem g274_19 : G d 274 19 ls st h Q ↔ GN d 274 19 ls h (pI st fun x r => br (x = 0) (nx 27 ls r h) (nx 22 ls r h)) Q := G_unf rfl rfl
theorem g274_22 : G d 274 22 ls st h Q ↔ GN d 274 22 ls h (ldJ ls 4 fun x => nx 24 ls (.long x :: st) h) Q := G_unf rfl rfl
theorem g274_24 : G d 274 24 ls st h Q ↔ GN d 274 24 ls h (nx 25 ls (.long (lN 1) :: st) h) Q := G_unf rfl rfl
theorem g274_25 : G d 274 25 ls st h Q ↔ GN d 274 25 ls h (pJJ st fun x y r => nx 26 ls (.long (x - y) :: r) h) Q := G_unf rfl rfl
theorem g274_26 : G d 274 26 ls st h Q ↔ GN d 274 26 ls h (pJe st fun x => rtn (some (.long x))) Q := G_unf rfl rfl
theorem g274_27 : G d 274 27 ls st h Q ↔ GN d 274 27 ls h (ldJ ls 4 fun x => nx 29 ls (.long x :: st) h) Q := G_unf rfl rfl
theorem g274_29 : G d 274 29 ls st h Q ↔ GN d 274 29 ls h (pJe st fun x => rtn (some (.long x))) Q := G_unf rfl rfl
theorem g275_0 : G d 275 0 ls st h Q ↔ GN d 275 0 ls h (ldJ ls 0 fun x => nx 1 ls (.long x :: st) h) Q := G_unf rfl rfl
theorem g275_1 : G d 275 1 ls st h Q ↔ GN d 275 1 ls h (ldJ ls 2 fun x => nx 2 ls (.long x :: st) h) Q := G_unf rfl rfl
theorem g275_2 : G d 275 2 ls st h Q ↔ GN d 275 2 ls h (pJJ st fun x y r => ck (¬ y = 0) (nx 3 ls (.long (x - x / y * y) :: r) h)) Q := G_unf rfl rfl
theorem g275_3 : G d 275 3 ls st h Q ↔ GN d 275 3 ls h (pJ st fun x r => ck (5 < ls.length) (nx 5 (st2 ls 4 (.long x)) r h)) Q := G_unf rfl rfl
theorem g275_5 : G d 275 5 ls st h Q ↔ GN d 275 5 ls h (ldJ ls 0 fun x => nx 6 ls (.long x :: st) h) Q := G_unf rfl rfl
theorem g275_6 : G d 275 6 ls st h Q ↔ GN d 275 6 ls h (ldJ ls 2 fun x => nx 7 ls (.long x :: st) h) Q := G_unf rfl rfl
theorem g275_7 : G d 275 7 ls st h Q ↔ GN d 275 7 ls h (pJJ st fun x y r => nx 8 ls (.long (x ^^^ y) :: r) h) Q := G_unf rfl rfl
theorem g275_8 : G d 275 8 ls st h Q ↔ GN d 275 8 ls h (nx 9 ls (.long (lN 0) :: st) h) Q := G_unf rfl rfl
theorem g275_9 : G d 275 9 ls st h Q ↔ GN d 275 9 ls h (pJJ st fun x y r => nx 10 ls (.int (lg_cmp x y) :: r) h) Q := G_unf rfl rfl
theorem g275_10 : G d 275 10 ls st h Q ↔ GN d 275 10 ls h (pI st fun x r => br (0 ≤ x) (nx 25 ls r h) (nx 13 ls r h)) Q := G_unf rfl rfl
theorem g275_13 : G d 275 13 ls st h Q ↔ GN d 275 13 ls h (ldJ ls 4 fun x => nx 15 ls (.long x :: st) h) Q := G_unf rfl rfl
theorem g275_15 : G d 275 15 ls st h Q ↔ GN d 275 15 ls h (nx 16 ls (.long (lN 0) :: st) h) Q := G_unf rfl rfl
theorem g275_16 : G d 275 16 ls st h Q ↔ GN d 275 16 ls h (pJJ st fun x y r => nx 17 ls (.int (lg_cmp x y) :: r) h) Q := G_unf rfl rfl
theorem g275_17 : G d 275 17 ls st h Q ↔ GN d 275 17 ls h (pI st fun x r => br (x = 0) (nx 25 ls r h) (nx 20 ls r h)) Q := G_unf rfl rfl
theorem g275_20 : G d 275 20 ls st h Q ↔ GN d 275 20 ls h (ldJ ls 4 fun x => nx 22 ls (.long x :: st) h) Q := G_unf rfl rfl
theorem g275_22 : G d 275 22 ls st h Q ↔ GN d 275 22 ls h (ldJ ls 2 fun x => nx 23 ls (.long x :: st) h) Q := G_unf rfl rfl
theorem g275_23 : G d 275 23 ls st h Q ↔ GN d 275 23 ls h (pJJ st fun x y r => nx 24 ls (.long (x + y) :: r) h) Q := G_unf rfl rfl
theorem g275_24 : G d 275 24 ls st h Q ↔ GN d 275 24 ls h (pJe st fun x => rtn (some (.long x))) Q := G_unf rfl rfl
theorem g275_25 : G d 275 25 ls st h Q ↔ GN d 275 25 ls h (ldJ ls 4 fun x => nx 27 ls (.long x :: st) h) Q := G_unf rfl rfl
theorem g275_27 : G d 275 27 ls st h Q ↔ GN d 275 27 ls h (pJe st fun x => rtn (some (.long x))) Q := G_unf rfl rfl
theorem g276_0 : G d 276 0 ls st h Q ↔ GN d 276 0 ls h (ldI ls 0 fun x => nx 1 ls (.int x :: st) h) Q := G_unf rfl rfl
theorem g276_1 : G d 276 1 ls st h Q ↔ GN d 276 1 ls h (ldI ls 1 fun x => nx 2 ls (.int x :: st) h) Q := G_unf rfl rfl
theorem g276_2 : G d 276 2 ls st h Q ↔ GN d 276 2 ls h (pII st fun x y r => br (x < y) (nx 9 ls r h) (nx 5 ls r h)) Q := G_unf rfl rfl
theorem g276_5 : G d 276 5 ls st h Q ↔ GN d 276 5 ls h (ldI ls 0 fun x => nx 6 ls (.int x :: st) h) Q := G_unf rfl rfl
theorem g276_6 : G d 276 6 ls st h Q ↔ GN d 276 6 ls h (nx 10 ls st h) Q := G_unf rfl rfl
theorem g276_9 : G d 276 9 ls st h Q ↔ GN d 276 9 ls h (ldI ls 1 fun x => nx 10 ls (.int x :: st) h) Q := G_unf rfl rfl
theorem g276_10 : G d 276 10 ls st h Q ↔ GN d 276 10 ls h (pIe st fun x => rtn (some (.int x))) Q := G_unf rfl rfl
theorem g277_0 : G d 277 0 ls st h Q ↔ GN d 277 0 ls h (ldJ ls 0 fun x => nx 1 ls (.long x :: st) h) Q := G_unf rfl rfl
theorem g277_1 : G d 277 1 ls st h Q ↔ GN d 277 1 ls h (ldJ ls 2 fun x => nx 2 ls (.long x :: st) h) Q := G_unf rfl rfl
theorem g277_2 : G d 277 2 ls st h Q ↔ GN d 277 2 ls h (pJJ st fun x y r => nx 3 ls (.int (lg_cmp x y) :: r) h) Q := G_unf rfl rfl
theorem g277_3 : G d 277 3 ls st h Q ↔ GN d 277 3 ls h (pI st fun x r => br (x < 0) (nx 10 ls r h) (nx 6 ls r h)) Q := G_unf rfl rfl
theorem g277_6 : G d 277 6 ls st h Q ↔ GN d 277 6 ls h (ldJ ls 0 fun x => nx 7 ls (.long x :: st) h) Q := G_unf rfl rfl
theorem g277_7 : G d 277 7 ls st h Q ↔ GN d 277 7 ls h (nx 11 ls st h) Q := G_unf rfl rfl
theorem g277_10 : G d 277 10 ls st h Q ↔ GN d 277 10 ls h (ldJ ls 2 fun x => nx 11 ls (.long x :: st) h) Q := G_unf rfl rfl
theorem g277_11 : G d 277 11 ls st h Q ↔ GN d 277 11 ls h (pJe st fun x => rtn (some (.long x))) Q := G_unf rfl rfl
theorem g278_0 : G d 278 0 ls st h Q ↔ GN d 278 0 ls h (ldI ls 0 fun x => nx 1 ls (.int x :: st) h) Q := G_unf rfl rfl
theorem g278_1 : G d 278 1 ls st h Q ↔ GN d 278 1 ls h (ldI ls 1 fun x => nx 2 ls (.int x :: st) h) Q := G_unf rfl rfl
theorem g278_2 : G d 278 2 ls st h Q ↔ GN d 278 2 ls h (pII st fun x y r => br (y < x) (nx 9 ls r h) (nx 5 ls r h)) Q := G_unf rfl rfl
theorem g278_5 : G d 278 5 ls st h Q ↔ GN d 278 5 ls h (ldI ls 0 fun x => nx 6 ls (.int x :: st) h) Q := G_unf rfl rfl
theorem g278_6 : G d 278 6 ls st h Q ↔ GN d 278 6 ls h (nx 10 ls st h) Q := G_unf rfl rfl
theorem g278_9 : G d 278 9 ls st h Q ↔ GN d 278 9 ls h (ldI ls 1 fun x => nx 10 ls (.int x :: st) h) Q := G_unf rfl rfl
theorem g278_10 : G d 278 10 ls st h Q ↔ GN d 278 10 ls h (pIe st fun x => rtn (some (.int x))) Q := G_unf rfl rfl
theorem g279_0 : G d 279 0 ls st h Q ↔ GN d 279 0 ls h (ldJ ls 0 fun x => nx 1 ls (.long x :: st) h) Q := G_unf rfl rfl
theorem g279_1 : G d 279 1 ls st h Q ↔ GN d 279 1 ls h (ldJ ls 2 fun x => nx 2 ls (.long x :: st) h) Q := G_unf rfl rfl
theorem g279_2 : G d 279 2 ls st h Q ↔ GN d 279 2 ls h (pJJ st fun x y r => nx 3 ls (.int (lg_cmp x y) :: r) h) Q := G_unf rfl rfl
theorem g279_3 : G d 279 3 ls st h Q ↔ GN d 279 3 ls h (pI st fun x r => br (0 < x) (nx 10 ls r h) (nx 6 ls r h)) Q := G_unf rfl rfl
theorem g279_6 : G d 279 6 ls st h Q ↔ GN d 279 6 ls h (ldJ ls 0 fun x => nx 7 ls (.long x :: st) h) Q := G_unf rfl rfl
theorem g279_7 : G d 279 7 ls st h Q ↔ GN d 279 7 ls h (nx 11 ls st h) Q := G_unf rfl rfl
theorem g279_10 : G d 279 10 ls st h Q ↔ GN d 279 10 ls h (ldJ ls 2 fun x => nx 11 ls (.long x :: st) h) Q := G_unf rfl rfl
theorem g279_11 : G d 279 11 ls st h Q ↔ GN d 279 11 ls h (pJe st fun x => rtn (some (.long x))) Q := G_unf rfl rfl
theorem g280_0 : G d 280 0 ls st h Q ↔ GN d 280 0 ls h (ldR ls 0 fun a => nx 1 ls (.ref a :: st) h) Q := G_unf rfl rfl
theorem g280_1 : G d 280 1 ls st h Q ↔ GN d 280 1 ls h (pA 0 st fun as r => pR r fun a r => ck (r.length ≤ 4 ∧ a = 1000001 ∧ oiOf 281 = 13) (cll 281 (.ref a :: as) r)) Q := G_unf rfl rfl
theorem g280_4 : G d 280 4 ls st h Q ↔ GN d 280 4 ls h (pI st fun x r => br (x = 0) (nx 16 ls r h) (nx 7 ls r h)) Q := G_unf rfl rfl
theorem g280_7 : G d 280 7 ls st h Q ↔ GN d 280 7 ls h (ldR ls 0 fun a => nx 8 ls (.ref a :: st) h) Q := G_unf rfl rfl
theorem g280_8 : G d 280 8 ls st h Q ↔ GN d 280 8 ls h (pR st fun a r => ck (a = 1000001) (nx 11 ls (.ref 1000002 :: r) h)) Q := G_unf rfl rfl
theorem g280_11 : G d 280 11 ls st h Q ↔ GN d 280 11 ls h (ldI ls 1 fun x => nx 12 ls (.int x :: st) h) Q := G_unf rfl rfl
theorem g280_12 : G d 280 12 ls st h Q ↔ GN d 280 12 ls h (pA 2 st fun as r => ck (r.length ≤ 4) (cll 283 as r)) Q := G_unf rfl rfl
theorem g280_15 : G d 280 15 ls st h Q ↔ GN d 280 15 ls h (pIe st fun x => ck (0 ≤ x.toInt ∧ x.toInt < 65536) (rtn (some (.int x)))) Q := G_unf rfl rfl
theorem g280_16 : G d 280 16 ls st h Q ↔ GN d 280 16 ls h (ldR ls 0 fun a => nx 17 ls (.ref a :: st) h) Q := G_unf rfl rfl
theorem g280_17 : G d 280 17 ls st h Q ↔ GN d 280 17 ls h (pR st fun a r => ck (a = 1000001) (nx 20 ls (.ref 1000002 :: r) h)) Q := G_unf rfl rfl
theorem g280_20 : G d 280 20 ls st h Q ↔ GN d 280 20 ls h (ldI ls 1 fun x => nx 21 ls (.int x :: st) h) Q := G_unf rfl rfl
theorem g280_21 : G d 280 21 ls st h Q ↔ GN d 280 21 ls h (pA 2 st fun as r => ck (r.length ≤ 4) (cll 286 as r)) Q := G_unf rfl rfl
theorem g280_24 : G d 280 24 ls st h Q ↔ GN d 280 24 ls h (pIe st fun x => ck (0 ≤ x.toInt ∧ x.toInt < 65536) (rtn (some (.int x)))) Q := G_unf rfl rfl
theorem g281_0 : G d 281 0 ls st h Q ↔ GN d 281 0 ls h (nx 3 ls (.int 1 :: st) h) Q := G_unf rfl rfl
theorem g281_3 : G d 281 3 ls st h Q ↔ GN d 281 3 ls h (pI st fun x r => br (x = 0) (nx 17 ls r h) (nx 6 ls r h)) Q := G_unf rfl rfl
theorem g281_6 : G d 281 6 ls st h Q ↔ GN d 281 6 ls h (ldR ls 0 fun a => nx 7 ls (.ref a :: st) h) Q := G_unf rfl rfl
theorem g281_7 : G d 281 7 ls st h Q ↔ GN d 281 7 ls h (pR st fun a r => ck (a = 1000001) (nx 10 ls (.int 0 :: r) h)) Q := G_unf rfl rfl
theorem g281_10 : G d 281 10 ls st h Q ↔ GN d 281 10 ls h (pI st fun x r => br (¬ x = 0) (nx 17 ls r h) (nx 13 ls r h)) Q := G_unf rfl rfl
theorem g281_13 : G d 281 13 ls st h Q ↔ GN d 281 13 ls h (nx 14 ls (.int (nI 1) :: st) h) Q := G_unf rfl rfl
theorem g281_14 : G d 281 14 ls st h Q ↔ GN d 281 14 ls h (nx 18 ls st h) Q := G_unf rfl rfl
theorem g281_17 : G d 281 17 ls st h Q ↔ GN d 281 17 ls h (nx 18 ls (.int (nI 0) :: st) h) Q := G_unf rfl rfl
theorem g281_18 : G d 281 18 ls st h Q ↔ GN d 281 18 ls h (pIe st fun x => ck (x = 0 ∨ x = 1) (rtn (some (.int x)))) Q := G_unf rfl rfl
theorem g282_0 : G d 282 0 ls st h Q ↔ GN d 282 0 ls h (ldI ls 0 fun x => nx 1 ls (.int x :: st) h) Q := G_unf rfl rfl
theorem g282_1 : G d 282 1 ls st h Q ↔ GN d 282 1 ls h (ldI ls 1 fun x => nx 2 ls (.int x :: st) h) Q := G_unf rfl rfl
theorem g282_2 : G d 282 2 ls st h Q ↔ GN d 282 2 ls h (nx 5 ls (.float 0 :: st) h) Q := G_unf rfl rfl
theorem g282_5 : G d 282 5 ls st h Q ↔ GN d 282 5 ls h (pA 3 st fun as r => ck (r.length ≤ 4) (cll 290 as r)) Q := G_unf rfl rfl
theorem g282_8 : G d 282 8 ls st h Q ↔ GN d 282 8 ls h (p1 st fun _ r => nx 9 ls r h) Q := G_unf rfl rfl
theorem g282_9 : G d 282 9 ls st h Q ↔ GN d 282 9 ls h (pE st (rtn none)) Q := G_unf rfl rfl
theorem g283_0 : G d 283 0 ls st h Q ↔ GN d 283 0 ls h (ldI ls 1 fun x => nx 1 ls (.int x :: st) h) Q := G_unf rfl rfl
theorem g283_1 : G d 283 1 ls st h Q ↔ GN d 283 1 ls h (ldR ls 0 fun a => nx 2 ls (.ref a :: st) h) Q := G_unf rfl rfl
theorem g283_2 : G d 283 2 ls st h Q ↔ GN d 283 2 ls h (pR st fun a r => br (a = 1000000) (nx 3 ls (.int (nI 0) :: r) h) (br (a = 1000002) (nx 3 ls (.int (nI 208) :: r) h) (br (a = 1000003) (nx 3 ls (.int (nI (hS h).1) :: r) h) (ck (a < hN h ∧ 10 ≤ lay a) (nx 3 ls (.int (nI (hLn h a)) :: r) h))))) Q := G_unf rfl rfl
theorem g283_3 : G d 283 3 ls st h Q ↔ GN d 283 3 ls h (pA 2 st fun as r => ck (r.length ≤ 4) (cll 282 as r)) Q := G_unf rfl rfl
theorem g283_6 : G d 283 6 ls st h Q ↔ GN d 283 6 ls h (ldR ls 0 fun a => nx 7 ls (.ref a :: st) h) Q := G_unf rfl rfl
theorem g283_7 : G d 283 7 ls st h Q ↔ GN d 283 7 ls h (ldI ls 1 fun x => nx 8 ls (.int x :: st) h) Q := G_unf rfl rfl
theorem g283_8 : G d 283 8 ls st h Q ↔ GN d 283 8 ls h (pRI st fun a i r => br (a = 1000002) (ck (inb i 208) (nx 9 ls (.int (ownB i.toNatClampNeg) :: r) h)) (ck ((arr h a 11 ∨ arr h a 12) ∧ inb i (hLn h a)) (nx 9 ls (.int (hI h a i.toNatClampNeg) :: r) h))) Q := G_unf rfl rfl
theorem g283_9 : G d 283 9 ls st h Q ↔ GN d 283 9 ls h (nx 12 ls (.int (nI 255) :: st) h) Q := G_unf rfl rfl
theorem g283_12 : G d 283 12 ls st h Q ↔ GN d 283 12 ls h (pII st fun x y r => nx 13 ls (.int (x &&& y) :: r) h) Q := G_unf rfl rfl
theorem g283_13 : G d 283 13 ls st h Q ↔ GN d 283 13 ls h (pI st fun x r => nx 14 ls (.int (x.toUInt32 % 65536).toInt32 :: r) h) Q := G_unf rfl rfl
theorem g283_14 : G d 283 14 ls st h Q ↔ GN d 283 14 ls h (pIe st fun x => ck (0 ≤ x.toInt ∧ x.toInt < 65536) (rtn (some (.int x)))) Q := G_unf rfl rfl
theorem g284_3 : G d 284 3 ls st h Q ↔ GN d 284 3 ls h (pI st fun x r => br (¬ x = 0) (nx 28 ls r h) (nx 6 ls r h)) Q := G_unf rfl rfl
theorem g284_6 : G d 284 6 ls st h Q ↔ GN d 284 6 ls h (ldI ls 1 fun x => nx 7 ls (.int x :: st) h) Q := G_unf rfl rfl
theorem g284_7 : G d 284 7 ls st h Q ↔ GN d 284 7 ls h (pI st fun x r => br (x < 0) (nx 18 ls r h) (nx 10 ls r h)) Q := G_unf rfl rfl
theorem g284_10 : G d 284 10 ls st h Q ↔ GN d 284 10 ls h (ldI ls 1 fun x => nx 11 ls (.int x :: st) h) Q := G_unf rfl rfl
theorem g284_11 : G d 284 11 ls st h Q ↔ GN d 284 11 ls h (ldR ls 0 fun a => nx 12 ls (.ref a :: st) h) Q := G_unf rfl rfl
theorem g284_12 : G d 284 12 ls st h Q ↔ GN d 284 12 ls h (pA 1 st fun as r => ck (r.length ≤ 4) (cll 285 as r)) Q := G_unf rfl rfl
theorem g284_15 : G d 284 15 ls st h Q ↔ GN d 284 15 ls h (pII st fun x y r => br (x < y) (nx 28 ls r h) (nx 18 ls r h)) Q := G_unf rfl rfl
theorem g284_21 : G d 284 21 ls st h Q ↔ GN d 284 21 ls h (p1 st fun v r => nx 22 ls (v :: v :: r) h) Q := G_unf rfl rfl
theorem g284_28 : G d 284 28 ls st h Q ↔ GN d 284 28 ls h (ldI ls 1 fun x => nx 29 ls (.int x :: st) h) Q := G_unf rfl rfl
theorem g284_29 : G d 284 29 ls st h Q ↔ GN d 284 29 ls h (nx 30 ls (.int (nI 1) :: st) h) Q := G_unf rfl rfl
theorem g284_30 : G d 284 30 ls st h Q ↔ GN d 284 30 ls h (pII st fun x y r => nx 31 ls (.int (x <<< (y &&& 31)) :: r) h) Q := G_unf rfl rfl
theorem g284_31 : G d 284 31 ls st h Q ↔ GN d 284 31 ls h (pI st fun x r => ck (1 < ls.length) (nx 32 (st1 ls 1 (.int x)) r h)) Q := G_unf rfl rfl
theorem g284_32 : G d 284 32 ls st h Q ↔ GN d 284 32 ls h (ldR ls 0 fun a => nx 33 ls (.ref a :: st) h) Q := G_unf rfl rfl
theorem g284_33 : G d 284 33 ls st h Q ↔ GN d 284 33 ls h (ldI ls 1 fun x => nx 34 ls (.int x :: st) h) Q := G_unf rfl rfl
theorem g284_34 : G d 284 34 ls st h Q ↔ GN d 284 34 ls h (ldI ls 1 fun x => nx 37 (st1 ls 1 (.int (x + (nI 1)))) st h) Q := G_unf rfl rfl
theorem g284_37 : G d 284 37 ls st h Q ↔ GN d 284 37 ls h (pRI st fun a i r => br (a = 1000002) (ck (inb i 208) (nx 38 ls (.int (ownB i.toNatClampNeg) :: r) h)) (ck ((arr h a 11 ∨ arr h a 12) ∧ inb i (hLn h a)) (nx 38 ls (.int (hI h a i.toNatClampNeg) :: r) h))) Q := G_unf rfl rfl
theorem g284_38 : G d 284 38 ls st h Q ↔ GN d 284 38 ls h (nx 41 ls (.int (nI 255) :: st) h) Q := G_unf rfl rfl
theorem g284_41 : G d 284 41 ls st h Q ↔ GN d 284 41 ls h (pII st fun x y r => nx 42 ls (.int (x &&& y) :: r) h) Q := G_unf rfl rfl
theorem g284_45 : G d 284 45 ls st h Q ↔ GN d 284 45 ls h (pII st fun x y r => nx 46 ls (.int (x <<< (y &&& 31)) :: r) h) Q := G_unf rfl rfl
theorem g284_46 : G d 284 46 ls st h Q ↔ GN d 284 46 ls h (ldR ls 0 fun a => nx 47 ls (.ref a :: st) h) Q := G_unf rfl rfl
theorem g284_47 : G d 284 47 ls st h Q ↔ GN d 284 47 ls h (ldI ls 1 fun x => nx 48 ls (.int x :: st) h) Q := G_unf rfl rfl
theorem g284_48 : G d 284 48 ls st h Q ↔ GN d 284 48 ls h (pRI st fun a i r => br (a = 1000002) (ck (inb i 208) (nx 49 ls (.int (ownB i.toNatClampNeg) :: r) h)) (ck ((arr h a 11 ∨ arr h a 12) ∧ inb i (hLn h a)) (nx 49 ls (.int (hI h a i.toNatClampNeg) :: r) h))) Q := G_unf rfl rfl
theorem g284_49 : G d 284 49 ls st h Q ↔ GN d 284 49 ls h (nx 52 ls (.int (nI 255) :: st) h) Q := G_unf rfl rfl
theorem g284_52 : G d 284 52 ls st h Q ↔ GN d 284 52 ls h (pII st fun x y r => nx 53 ls (.int (x &&& y) :: r) h) Q := G_unf rfl rfl
theorem g284_56 : G d 284 56 ls st h Q ↔ GN d 284 56 ls h (pII st fun x y r => nx 57 ls (.int (x <<< (y &&& 31)) :: r) h) Q := G_unf rfl rfl
theorem g284_57 : G d 284 57 ls st h Q ↔ GN d 284 57 ls h (pII st fun x y r => nx 58 ls (.int (x ||| y) :: r) h) Q := G_unf rfl rfl
theorem g284_58 : G d 284 58 ls st h Q ↔ GN d 284 58 ls h (pI st fun x r => nx 59 ls (.int (x.toUInt32 % 65536).toInt32 :: r) h) Q := G_unf rfl rfl
theorem g284_59 : G d 284 59 ls st h Q ↔ GN d 284 59 ls h (pIe st fun x => ck (0 ≤ x.toInt ∧ x.toInt < 65536) (rtn (some (.int x)))) Q := G_unf rfl rfl
theorem g285_0 : G d 285 0 ls st h Q ↔ GN d 285 0 ls h (ldR ls 0 fun a => nx 1 ls (.ref a :: st) h) Q := G_unf rfl rfl
theorem g285_1 : G d 285 1 ls st h Q ↔ GN d 285 1 ls h (pR st fun a r => br (a = 1000000) (nx 2 ls (.int (nI 0) :: r) h) (br (a = 1000002) (nx 2 ls (.int (nI 208) :: r) h) (br (a = 1000003) (nx 2 ls (.int (nI (hS h).1) :: r) h) (ck (a < hN h ∧ 10 ≤ lay a) (nx 2 ls (.int (nI (hLn h a)) :: r) h))))) Q := G_unf rfl rfl
theorem g285_2 : G d 285 2 ls st h Q ↔ GN d 285 2 ls h (nx 3 ls (.int (nI 1) :: st) h) Q := G_unf rfl rfl
theorem g285_3 : G d 285 3 ls st h Q ↔ GN d 285 3 ls h (pII st fun x y r => nx 4 ls (.int (x >>> (y &&& 31)) :: r) h) Q := G_unf rfl rfl
theorem g285_4 : G d 285 4 ls st h Q ↔ GN d 285 4 ls h (pIe st fun x => rtn (some (.int x))) Q := G_unf rfl rfl
theorem g286_0 : G d 286 0 ls st h Q ↔ GN d 286 0 ls h (ldI ls 1 fun x => nx 1 ls (.int x :: st) h) Q := G_unf rfl rfl
theorem g286_1 : G d 286 1 ls st h Q ↔ GN d 286 1 ls h (ldR ls 0 fun a => nx 2 ls (.ref a :: st) h) Q := G_unf rfl rfl
theorem g286_2 : G d 286 2 ls st h Q ↔ GN d 286 2 ls h (pA 2 st fun as r => ck (r.length ≤ 4) (cll 287 as r)) Q := G_unf rfl rfl
theorem g286_5 : G d 286 5 ls st h Q ↔ GN d 286 5 ls h (ldR ls 0 fun a => nx 6 ls (.ref a :: st) h) Q := G_unf rfl rfl
theorem g286_6 : G d 286 6 ls st h Q ↔ GN d 286 6 ls h (ldI ls 1 fun x => nx 7 ls (.int x :: st) h) Q := G_unf rfl rfl
theorem g286_7 : G d 286 7 ls st h Q ↔ GN d 286 7 ls h (pA 2 st fun as r => ck (r.length ≤ 4) (cll 284 as r)) Q := G_unf rfl rfl
theorem g286_10 : G d 286 10 ls st h Q ↔ GN d 286 10 ls h (pIe st fun x => ck (0 ≤ x.toInt ∧ x.toInt < 65536) (rtn (some (.int x)))) Q := G_unf rfl rfl
theorem g287_0 : G d 287 0 ls st h Q ↔ GN d 287 0 ls h (ldI ls 0 fun x => nx 1 ls (.int x :: st) h) Q := G_unf rfl rfl
theorem g287_1 : G d 287 1 ls st h Q ↔ GN d 287 1 ls h (ldR ls 1 fun a => nx 2 ls (.ref a :: st) h) Q := G_unf rfl rfl
theorem g287_2 : G d 287 2 ls st h Q ↔ GN d 287 2 ls h (pA 1 st fun as r => ck (r.length ≤ 4) (cll 285 as r)) Q := G_unf rfl rfl
theorem g287_5 : G d 287 5 ls st h Q ↔ GN d 287 5 ls h (pA 2 st fun as r => ck (r.length ≤ 4) (cll 282 as r)) Q := G_unf rfl rfl
theorem g287_8 : G d 287 8 ls st h Q ↔ GN d 287 8 ls h (pE st (rtn none)) Q := G_unf rfl rfl
theorem g288_0 : G d 288 0 ls st h Q ↔ GN d 288 0 ls h (nx 1 ls (.int (nI 0) :: st) h) Q := G_unf rfl rfl
theorem g288_1 : G d 288 1 ls st h Q ↔ GN d 288 1 ls h (pI st fun x r => ck (2 < ls.length) (nx 2 (st1 ls 2 (.int x)) r h)) Q := G_unf rfl rfl
theorem g288_2 : G d 288 2 ls st h Q ↔ GN d 288 2 ls h (ldR ls 0 fun a => nx 3 ls (.ref a :: st) h) Q := G_unf rfl rfl
theorem g288_3 : G d 288 3 ls st h Q ↔ GN d 288 3 ls h (pR st fun a r => br (a = 1000000) (nx 4 ls (.int (nI 0) :: r) h) (br (a = 1000002) (nx 4 ls (.int (nI 208) :: r) h) (br (a = 1000003) (nx 4 ls (.int (nI (hS h).1) :: r) h) (ck (a < hN h ∧ 10 ≤ lay a) (nx 4 ls (.int (nI (hLn h a)) :: r) h))))) Q := G_unf rfl rfl
theorem g288_4 : G d 288 4 ls st h Q ↔ GN d 288 4 ls h (pI st fun x r => ck (3 < ls.length) (nx 5 (st1 ls 3 (.int x)) r h)) Q := G_unf rfl rfl
theorem g288_5 : G d 288 5 ls st h Q ↔ GN d 288 5 ls h (ldI ls 2 fun x => nx 6 ls (.int x :: st) h) Q := G_unf rfl rfl
theorem g288_6 : G d 288 6 ls st h Q ↔ GN d 288 6 ls h (ldI ls 3 fun x => nx 7 ls (.int x :: st) h) Q := G_unf rfl rfl
theorem g288_7 : G d 288 7 ls st h Q ↔ GN d 288 7 ls h (pII st fun x y r => br (y ≤ x) (nx 20 ls r h) (nx 10 ls r h)) Q := G_unf rfl rfl
theorem g288_10 : G d 288 10 ls st h Q ↔ GN d 288 10 ls h (ldR ls 0 fun a => nx 11 ls (.ref a :: st) h) Q := G_unf rfl rfl
theorem g288_11 : G d 288 11 ls st h Q ↔ GN d 288 11 ls h (ldI ls 2 fun x => nx 12 ls (.int x :: st) h) Q := G_unf rfl rfl
theorem g288_12 : G d 288 12 ls st h Q ↔ GN d 288 12 ls h (ldI ls 1 fun x => nx 13 ls (.int x :: st) h) Q := G_unf rfl rfl
theorem g288_13 : G d 288 13 ls st h Q ↔ GN d 288 13 ls h (pRII st fun a i x r => ck (arr h a 10 ∧ inb i (hLn h a)) (nx 14 ls r (sI h a i.toNatClampNeg x))) Q := G_unf rfl rfl
theorem g288_14 : G d 288 14 ls st h Q ↔ GN d 288 14 ls h (ldI ls 2 fun x => nx 17 (st1 ls 2 (.int (x + (nI 1)))) st h) Q := G_unf rfl rfl
theorem g288_17 : G d 288 17 ls st h Q ↔ GN d 288 17 ls h (nx 5 ls st h) Q := G_unf rfl rfl
theorem g288_20 : G d 288 20 ls st h Q ↔ GN d 288 20 ls h (pE st (rtn none)) Q := G_unf rfl rfl
theorem g289_0 : G d 289 0 ls st h Q ↔ GN d 289 0 ls h (ldI ls 1 fun x => nx 1 ls (.int x :: st) h) Q := G_unf rfl rfl
theorem g289_1 : G d 289 1 ls st h Q ↔ GN d 289 1 ls h (ldR ls 0 fun a => nx 2 ls (.ref a :: st) h) Q := G_unf rfl rfl
theorem g289_2 : G d 289 2 ls st h Q ↔ GN d 289 2 ls h (pR st fun a r => br (a = 1000000) (nx 3 ls (.int (nI 0) :: r) h) (br (a = 1000002) (nx 3 ls (.int (nI 208) :: r) h) (br (a = 1000003) (nx 3 ls (.int (nI (hS h).1) :: r) h) (ck (a < hN h ∧ 10 ≤ lay a) (nx 3 ls (.int (nI (hLn h a)) :: r) h))))) Q := G_unf rfl rfl
theorem g289_3 : G d 289 3 ls st h Q ↔ GN d 289 3 ls h (pII st fun x y r => br (¬ x = y) (nx 14 ls r h) (nx 6 ls r h)) Q := G_unf rfl rfl
theorem g289_6 : G d 289 6 ls st h Q ↔ GN d 289 6 ls h (ldR ls 0 fun a => nx 7 ls (.ref a :: st) h) Q := G_unf rfl rfl
theorem g289_13 : G d 289 13 ls st h Q ↔ GN d 289 13 ls h (pRe st fun x => rtn (some (.ref x))) Q := G_unf rfl rfl
theorem g289_14 : G d 289 14 ls st h Q ↔ GN d 289 14 ls h (ldI ls 1 fun x => nx 15 ls (.int x :: st) h) Q := G_unf rfl rfl
theorem g289_15 : G d 289 15 ls st h Q ↔ GN d 289 15 ls h (pI st fun z r => ck (0 ≤ z.toInt ∧ z.toInt ≤ 1000000 ∧ lay (hN h) = 10) (nx 17 ls (.ref (hN h) :: r) (alc h z.toNatClampNeg z.toNatClampNeg))) Q := G_unf rfl rfl
theorem g289_17 : G d 289 17 ls st h Q ↔ GN d 289 17 ls h (pR st fun a r => ck (2 < ls.length) (nx 18 (st1 ls 2 (.ref a)) r h)) Q := G_unf rfl rfl
theorem g289_18 : G d 289 18 ls st h Q ↔ GN d 289 18 ls h (ldR ls 0 fun a => nx 19 ls (.ref a :: st) h) Q := G_unf rfl rfl
theorem g289_19 : G d 289 19 ls st h Q ↔ GN d 289 19 ls h (nx 20 ls (.int (nI 0) :: st) h) Q := G_unf rfl rfl
theorem g289_20 : G d 289 20 ls st h Q ↔ GN d 289 20 ls h (ldR ls 2 fun a => nx 21 ls (.ref a :: st) h) Q := G_unf rfl rfl
theorem g289_21 : G d 289 21 ls st h Q ↔ GN d 289 21 ls h (nx 22 ls (.int (nI 0) :: st) h) Q := G_unf rfl rfl
theorem g289_22 : G d 289 22 ls st h Q ↔ GN d 289 22 ls h (ldR ls 0 fun a => nx 23 ls (.ref a :: st) h) Q := G_unf rfl rfl
theorem g289_23 : G d 289 23 ls st h Q ↔ GN d 289 23 ls h (pR st fun a r => br (a = 1000000) (nx 24 ls (.int (nI 0) :: r) h) (br (a = 1000002) (nx 24 ls (.int (nI 208) :: r) h) (br (a = 1000003) (nx 24 ls (.int (nI (hS h).1) :: r) h) (ck (a < hN h ∧ 10 ≤ lay a) (nx 24 ls (.int (nI (hLn h a)) :: r) h))))) Q := G_unf rfl rfl
theorem g289_24 : G d 289 24 ls st h Q ↔ GN d 289 24 ls h (ldI ls 1 fun x => nx 25 ls (.int x :: st) h) Q := G_unf rfl rfl
theorem g289_25 : G d 289 25 ls st h Q ↔ GN d 289 25 ls h (pA 2 st fun as r => ck (r.length ≤ 4) (cll 278 as r)) Q := G_unf rfl rfl
theorem g289_28 : G d 289 28 ls st h Q ↔ GN d 289 28 ls h (pCopy st fun a0 sp a dp z r => ck (r.length ≤ 4 ∧ arr h a0 10 ∧ arr h a 10 ∧ (0 ≤ sp.toInt ∧ 0 ≤ dp.toInt ∧ 0 ≤ z.toInt) ∧ sp.toInt + z.toInt ≤ hLn h a0 ∧ dp.toInt + z.toInt ≤ hLn h a) (nx 31 ls r (sA h a (va_cpy (hI h a0) (hI h a) sp.toNatClampNeg dp.toNatClampNeg z.toNatClampNeg)))) Q := G_unf rfl rfl
theorem g289_31 : G d 289 31 ls st h Q ↔ GN d 289 31 ls h (ldR ls 2 fun a => nx 32 ls (.ref a :: st) h) Q := G_unf rfl rfl
theorem g289_32 : G d 289 32 ls st h Q ↔ GN d 289 32 ls h (pRe st fun x => rtn (some (.ref x))) Q := G_unf rfl rfl
theorem g290_0 : G d 290 0 ls st h Q ↔ GN d 290 0 ls h (ldI ls 0 fun x => nx 1 ls (.int x :: st) h) Q := G_unf rfl rfl
theorem g290_1 : G d 290 1 ls st h Q ↔ GN d 290 1 ls h (pI st fun x r => br (x < 0) (nx 9 ls r h) (nx 4 ls r h)) Q := G_unf rfl rfl
theorem g290_4 : G d 290 4 ls st h Q ↔ GN d 290 4 ls h (ldI ls 0 fun x => nx 5 ls (.int x :: st) h) Q := G_unf rfl rfl
theorem g290_5 : G d 290 5 ls st h Q ↔ GN d 290 5 ls h (ldI ls 1 fun x => nx 6 ls (.int x :: st) h) Q := G_unf rfl rfl
theorem g290_6 : G d 290 6 ls st h Q ↔ GN d 290 6 ls h (pII st fun x y r => br (x < y) (nx 16 ls r h) (nx 9 ls r h)) Q := G_unf rfl rfl
theorem g290_9 : G d 290 9 ls st h Q ↔ GN d 290 9 ls h (ldR ls 2 fun a => nx 10 ls (.ref a :: st) h) Q := G_unf rfl rfl
theorem g290_10 : G d 290 10 ls st h Q ↔ GN d 290 10 ls h (ldI ls 0 fun x => nx 11 ls (.int x :: st) h) Q := G_unf rfl rfl
theorem g290_11 : G d 290 11 ls st h Q ↔ GN d 290 11 ls h (ldI ls 1 fun x => nx 12 ls (.int x :: st) h) Q := G_unf rfl rfl
theorem g290_16 : G d 290 16 ls st h Q ↔ GN d 290 16 ls h (ldI ls 0 fun x => nx 17 ls (.int x :: st) h) Q := G_unf rfl rfl
theorem g290_17 : G d 290 17 ls st h Q ↔ GN d 290 17 ls h (pIe st fun x => rtn (some (.int x))) Q := G_unf rfl rfl
end GI
