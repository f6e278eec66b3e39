section GI
variable {d : Nat} {ls st : List Value} {h : AH} {Q : Option Value → AH → Prop}
theorem g0_0 : G d 0 0 ls st h Q ↔ GN d 0 0 ls h (ldR ls 0 fun a => nx 1 ls (.ref a :: st) h) Q := G_unf rfl rfl
theorem g0_1 : G d 0 1 ls st h Q ↔ GN d 0 1 ls h (pR st fun _ r => ck (r.length ≤ 4) (nx 4 ls r h)) Q := G_unf rfl rfl
theorem g0_4 : G d 0 4 ls st h Q ↔ GN d 0 4 ls h (ldR ls 0 fun a => nx 5 ls (.ref a :: st) h) Q := G_unf rfl rfl
theorem g0_5 : G d 0 5 ls st h Q ↔ GN d 0 5 ls h (nx 7 ls (.int (nI 12) :: st) h) Q := G_unf rfl rfl
theorem g0_7 : G d 0 7 ls st h Q ↔ GN d 0 7 ls h (pI st fun z r => ck (0 ≤ z.toInt ∧ z.toInt ≤ 1000000 ∧ lay (hN h) = 10) (nx 9 ls (.ref (hN h) :: r) (alc h z.toNatClampNeg z.toNatClampNeg))) Q := G_unf rfl rfl
theorem g0_9 : G d 0 9 ls st h Q ↔ GN d 0 9 ls h (pRR st fun a x r => ck (arr h a 0) (nx 12 ls r (sR h a 0 (some x)))) Q := G_unf rfl rfl
theorem g0_12 : G d 0 12 ls st h Q ↔ GN d 0 12 ls h (ldR ls 0 fun a => nx 13 ls (.ref a :: st) h) Q := G_unf rfl rfl
theorem g0_13 : G d 0 13 ls st h Q ↔ GN d 0 13 ls h (nx 15 ls (.int (nI 12) :: st) h) Q := G_unf rfl rfl
theorem g0_15 : G d 0 15 ls st h Q ↔ GN d 0 15 ls h (pI st fun z r => ck (0 ≤ z.toInt ∧ z.toInt ≤ 1000000 ∧ lay (hN h) = 10) (nx 17 ls (.ref (hN h) :: r) (alc h z.toNatClampNeg z.toNatClampNeg))) Q := G_unf rfl rfl
theorem g0_17 : G d 0 17 ls st h Q ↔ GN d 0 17 ls h (pRR st fun a x r => ck (arr h a 0) (nx 20 ls r (sR h a 1 (some x)))) Q := G_unf rfl rfl
theorem g0_20 : G d 0 20 ls st h Q ↔ GN d 0 20 ls h (ldR ls 0 fun a => nx 21 ls (.ref a :: st) h) Q := G_unf rfl rfl
theorem g0_21 : G d 0 21 ls st h Q ↔ GN d 0 21 ls h (nx 23 ls (.int (nI 12) :: st) h) Q := G_unf rfl rfl
theorem g0_23 : G d 0 23 ls st h Q ↔ GN d 0 23 ls h (pI st fun z r => ck (0 ≤ z.toInt ∧ z.toInt ≤ 1000000 ∧ lay (hN h) = 10) (nx 25 ls (.ref (hN h) :: r) (alc h z.toNatClampNeg z.toNatClampNeg))) Q := G_unf rfl rfl
theorem g0_25 : G d 0 25 ls st h Q ↔ GN d 0 25 ls h (pRR st fun a x r => ck (arr h a 0) (nx 28 ls r (sR h a 2 (some x)))) Q := G_unf rfl rfl
theorem g0_28 : G d 0 28 ls st h Q ↔ GN d 0 28 ls h (ldR ls 0 fun a => nx 29 ls (.ref a :: st) h) Q := G_unf rfl rfl
theorem g0_29 : G d 0 29 ls st h Q ↔ GN d 0 29 ls h (nx 31 ls (.int (nI 16) :: st) h) Q := G_unf rfl rfl
theorem g0_31 : G d 0 31 ls st h Q ↔ GN d 0 31 ls h (pI st fun z r => ck (0 ≤ z.toInt ∧ z.toInt ≤ 1000000 ∧ lay (hN h) = 10) (nx 33 ls (.ref (hN h) :: r) (alc h z.toNatClampNeg z.toNatClampNeg))) Q := G_unf rfl rfl
theorem g0_33 : G d 0 33 ls st h Q ↔ GN d 0 33 ls h (pRR st fun a x r => ck (arr h a 0) (nx 36 ls r (sR h a 4 (some x)))) Q := G_unf rfl rfl
theorem g0_36 : G d 0 36 ls st h Q ↔ GN d 0 36 ls h (ldR ls 0 fun a => nx 37 ls (.ref a :: st) h) Q := G_unf rfl rfl
theorem g0_37 : G d 0 37 ls st h Q ↔ GN d 0 37 ls h (nx 39 ls (.int (nI 16) :: st) h) Q := G_unf rfl rfl
theorem g0_39 : G d 0 39 ls st h Q ↔ GN d 0 39 ls h (pI st fun z r => ck (0 ≤ z.toInt ∧ z.toInt ≤ 1000000 ∧ lay (hN h) = 10) (nx 41 ls (.ref (hN h) :: r) (alc h z.toNatClampNeg z.toNatClampNeg))) Q := G_unf rfl rfl
theorem g0_41 : G d 0 41 ls st h Q ↔ GN d 0 41 ls h (pRR st fun a x r => ck (arr h a 0) (nx 44 ls r (sR h a 5 (some x)))) Q := G_unf rfl rfl
theorem g0_44 : G d 0 44 ls st h Q ↔ GN d 0 44 ls h (ldR ls 0 fun a => nx 45 ls (.ref a :: st) h) Q := G_unf rfl rfl
theorem g0_45 : G d 0 45 ls st h Q ↔ GN d 0 45 ls h (nx 47 ls (.int (nI 8) :: st) h) Q := G_unf rfl rfl
theorem g0_47 : G d 0 47 ls st h Q ↔ GN d 0 47 ls h (pI st fun z r => ck (0 ≤ z.toInt ∧ z.toInt ≤ 1000000 ∧ lay (hN h) = 10) (nx 49 ls (.ref (hN h) :: r) (alc h z.toNatClampNeg z.toNatClampNeg))) Q := G_unf rfl rfl
theorem g0_49 : G d 0 49 ls st h Q ↔ GN d 0 49 ls h (pRR st fun a x r => ck (arr h a 0) (nx 52 ls r (sR h a 7 (some x)))) Q := G_unf rfl rfl
theorem g0_52 : G d 0 52 ls st h Q ↔ GN d 0 52 ls h (ldR ls 0 fun a => nx 53 ls (.ref a :: st) h) Q := G_unf rfl rfl
theorem g0_53 : G d 0 53 ls st h Q ↔ GN d 0 53 ls h (nx 55 ls (.int (nI 8) :: st) h) Q := G_unf rfl rfl
theorem g0_55 : G d 0 55 ls st h Q ↔ GN d 0 55 ls h (pI st fun z r => ck (0 ≤ z.toInt ∧ z.toInt ≤ 1000000 ∧ lay (hN h) = 10) (nx 57 ls (.ref (hN h) :: r) (alc h z.toNatClampNeg z.toNatClampNeg))) Q := G_unf rfl rfl
theorem g0_57 : G d 0 57 ls st h Q ↔ GN d 0 57 ls h (pRR st fun a x r => ck (arr h a 0) (nx 60 ls r (sR h a 8 (some x)))) Q := G_unf rfl rfl
theorem g0_60 : G d 0 60 ls st h Q ↔ GN d 0 60 ls h (ldR ls 0 fun a => nx 61 ls (.ref a :: st) h) Q := G_unf rfl rfl
theorem g0_61 : G d 0 61 ls st h Q ↔ GN d 0 61 ls h (nx 63 ls (.int (nI 8) :: st) h) Q := G_unf rfl rfl
theorem g0_63 : G d 0 63 ls st h Q ↔ GN d 0 63 ls h (pI st fun z r => ck (0 ≤ z.toInt ∧ z.toInt ≤ 1000000 ∧ lay (hN h) = 10) (nx 65 ls (.ref (hN h) :: r) (alc h z.toNatClampNeg z.toNatClampNeg))) Q := G_unf rfl rfl
theorem g0_65 : G d 0 65 ls st h Q ↔ GN d 0 65 ls h (pRR st fun a x r => ck (arr h a 0) (nx 68 ls r (sR h a 9 (some x)))) Q := G_unf rfl rfl
theorem g0_68 : G d 0 68 ls st h Q ↔ GN d 0 68 ls h (ldR ls 0 fun a => nx 69 ls (.ref a :: st) h) Q := G_unf rfl rfl
theorem g0_69 : G d 0 69 ls st h Q ↔ GN d 0 69 ls h (nx 71 ls (.int (nI 16) :: st) h) Q := G_unf rfl rfl
theorem g0_71 : G d 0 71 ls st h Q ↔ GN d 0 71 ls h (pI st fun z r => ck (0 ≤ z.toInt ∧ z.toInt ≤ 1000000 ∧ lay (hN h) = 10) (nx 73 ls (.ref (hN h) :: r) (alc h z.toNatClampNeg z.toNatClampNeg))) Q := G_unf rfl rfl
theorem g0_73 : G d 0 73 ls st h Q ↔ GN d 0 73 ls h (pRR st fun a x r => ck (arr h a 0) (nx 76 ls r (sR h a 11 (some x)))) Q := G_unf rfl rfl
theorem g0_76 : G d 0 76 ls st h Q ↔ GN d 0 76 ls h (ldR ls 0 fun a => nx 77 ls (.ref a :: st) h) Q := G_unf rfl rfl
theorem g0_77 : G d 0 77 ls st h Q ↔ GN d 0 77 ls h (nx 79 ls (.int (nI 16) :: st) h) Q := G_unf rfl rfl
theorem g0_79 : G d 0 79 ls st h Q ↔ GN d 0 79 ls h (pI st fun z r => ck (0 ≤ z.toInt ∧ z.toInt ≤ 1000000 ∧ lay (hN h) = 10) (nx 81 ls (.ref (hN h) :: r) (alc h z.toNatClampNeg z.toNatClampNeg))) Q := G_unf rfl rfl
theorem g0_81 : G d 0 81 ls st h Q ↔ GN d 0 81 ls h (pRR st fun a x r => ck (arr h a 0) (nx 84 ls r (sR h a 12 (some x)))) Q := G_unf rfl rfl
theorem g0_84 : G d 0 84 ls st h Q ↔ GN d 0 84 ls h (ldR ls 0 fun a => nx 85 ls (.ref a :: st) h) Q := G_unf rfl rfl
theorem g0_85 : G d 0 85 ls st h Q ↔ GN d 0 85 ls h (nx 87 ls (.int (nI 16) :: st) h) Q := G_unf rfl rfl
theorem g0_87 : G d 0 87 ls st h Q ↔ GN d 0 87 ls h (pI st fun z r => ck (0 ≤ z.toInt ∧ z.toInt ≤ 1000000 ∧ lay (hN h) = 10) (nx 89 ls (.ref (hN h) :: r) (alc h z.toNatClampNeg z.toNatClampNeg))) Q := G_unf rfl rfl
theorem g0_89 : G d 0 89 ls st h Q ↔ GN d 0 89 ls h (pRR st fun a x r => ck (arr h a 0) (nx 92 ls r (sR h a 13 (some x)))) Q := G_unf rfl rfl
theorem g0_92 : G d 0 92 ls st h Q ↔ GN d 0 92 ls h (ldR ls 0 fun a => nx 93 ls (.ref a :: st) h) Q := G_unf rfl rfl
theorem g0_93 : G d 0 93 ls st h Q ↔ GN d 0 93 ls h (nx 95 ls (.int (nI 96) :: st) h) Q := G_unf rfl rfl
theorem g0_95 : G d 0 95 ls st h Q ↔ GN d 0 95 ls h (pI st fun z r => ck (0 ≤ z.toInt ∧ z.toInt ≤ 1000000 ∧ lay (hN h) = 10) (nx 97 ls (.ref (hN h) :: r) (alc h z.toNatClampNeg z.toNatClampNeg))) Q := G_unf rfl rfl
theorem g0_97 : G d 0 97 ls st h Q ↔ GN d 0 97 ls h (pRR st fun a x r => ck (arr h a 0) (nx 100 ls r (sR h a 15 (some x)))) Q := G_unf rfl rfl
theorem g0_100 : G d 0 100 ls st h Q ↔ GN d 0 100 ls h (ldR ls 0 fun a => nx 101 ls (.ref a :: st) h) Q := G_unf rfl rfl
theorem g0_101 : G d 0 101 ls st h Q ↔ GN d 0 101 ls h (nx 103 ls (.int (nI 20) :: st) h) Q := G_unf rfl rfl
theorem g0_103 : G d 0 103 ls st h Q ↔ GN d 0 103 ls h (pRI st fun a x r => ck (arr h a 0) (nx 106 ls r (sI h a 17 x))) Q := G_unf rfl rfl
theorem g0_106 : G d 0 106 ls st h Q ↔ GN d 0 106 ls h (ldR ls 0 fun a => nx 107 ls (.ref a :: st) h) Q := G_unf rfl rfl
theorem g0_107 : G d 0 107 ls st h Q ↔ GN d 0 107 ls h (nx 110 ls (.ref 1000000 :: st) h) Q := G_unf rfl rfl
theorem g0_110 : G d 0 110 ls st h Q ↔ GN d 0 110 ls h (pRR st fun a x r => ck (arr h a 0) (nx 113 ls r (sR h a 18 (some x)))) Q := G_unf rfl rfl
theorem g0_113 : G d 0 113 ls st h Q ↔ GN d 0 113 ls h (ldR ls 0 fun a => nx 114 ls (.ref a :: st) h) Q := G_unf rfl rfl
theorem g0_114 : G d 0 114 ls st h Q ↔ GN d 0 114 ls h (nx 117 ls (.ref 1000000 :: st) h) Q := G_unf rfl rfl
theorem g0_117 : G d 0 117 ls st h Q ↔ GN d 0 117 ls h (pRR st fun a x r => ck (arr h a 0) (nx 120 ls r (sR h a 19 (some x)))) Q := G_unf rfl rfl
theorem g0_120 : G d 0 120 ls st h Q ↔ GN d 0 120 ls h (pE st (rtn none)) Q := G_unf rfl rfl
theorem g1_0 : G d 1 0 ls st h Q ↔ GN d 1 0 ls h (ldR ls 0 fun a => nx 1 ls (.ref a :: st) h) Q := G_unf rfl rfl
theorem g1_1 : G d 1 1 ls st h Q ↔ GN d 1 1 ls h (nx 2 ls (.int (nI 0) :: st) h) Q := G_unf rfl rfl
theorem g1_2 : G d 1 2 ls st h Q ↔ GN d 1 2 ls h (pRI st fun a x r => ck (arr h a 0) (nx 5 ls r (sI h a 3 x))) Q := G_unf rfl rfl
theorem g1_5 : G d 1 5 ls st h Q ↔ GN d 1 5 ls h (ldR ls 0 fun a => nx 6 ls (.ref a :: st) h) Q := G_unf rfl rfl
theorem g1_6 : G d 1 6 ls st h Q ↔ GN d 1 6 ls h (nx 7 ls (.int (nI 0) :: st) h) Q := G_unf rfl rfl
theorem g1_7 : G d 1 7 ls st h Q ↔ GN d 1 7 ls h (pRI st fun a x r => ck (arr h a 0) (nx 10 ls r (sI h a 6 x))) Q := G_unf rfl rfl
theorem g1_10 : G d 1 10 ls st h Q ↔ GN d 1 10 ls h (ldR ls 0 fun a => nx 11 ls (.ref a :: st) h) Q := G_unf rfl rfl
theorem g1_11 : G d 1 11 ls st h Q ↔ GN d 1 11 ls h (nx 12 ls (.int (nI 0) :: st) h) Q := G_unf rfl rfl
theorem g1_12 : G d 1 12 ls st h Q ↔ GN d 1 12 ls h (pRI st fun a x r => ck (arr h a 0) (nx 15 ls r (sI h a 10 x))) Q := G_unf rfl rfl
theorem g1_15 : G d 1 15 ls st h Q ↔ GN d 1 15 ls h (ldR ls 0 fun a => nx 16 ls (.ref a :: st) h) Q := G_unf rfl rfl
theorem g1_16 : G d 1 16 ls st h Q ↔ GN d 1 16 ls h (nx 17 ls (.int (nI 0) :: st) h) Q := G_unf rfl rfl
theorem g1_17 : G d 1 17 ls st h Q ↔ GN d 1 17 ls h (pRI st fun a x r => ck (arr h a 0) (nx 20 ls r (sI h a 14 x))) Q := G_unf rfl rfl
theorem g1_20 : G d 1 20 ls st h Q ↔ GN d 1 20 ls h (ldR ls 0 fun a => nx 21 ls (.ref a :: st) h) Q := G_unf rfl rfl
theorem g1_21 : G d 1 21 ls st h Q ↔ GN d 1 21 ls h (pR st fun a r => ck (arr h a 0) (nx 24 ls (rv (hR h a 15) :: r) h)) Q := G_unf rfl rfl
theorem g1_24 : G d 1 24 ls st h Q ↔ GN d 1 24 ls h (nx 25 ls (.int (-1) :: st) h) Q := G_unf rfl rfl
theorem g1_25 : G d 1 25 ls st h Q ↔ GN d 1 25 ls h (pA 2 st fun as r => ck (r.length ≤ 4) (cll 288 as r)) Q := G_unf rfl rfl
theorem g1_28 : G d 1 28 ls st h Q ↔ GN d 1 28 ls h (ldR ls 0 fun a => nx 29 ls (.ref a :: st) h) Q := G_unf rfl rfl
theorem g1_29 : G d 1 29 ls st h Q ↔ GN d 1 29 ls h (nx 30 ls (.int (nI 0) :: st) h) Q := G_unf rfl rfl
theorem g1_30 : G d 1 30 ls st h Q ↔ GN d 1 30 ls h (pRI st fun a x r => ck (arr h a 0) (nx 33 ls r (sI h a 16 x))) Q := G_unf rfl rfl
theorem g1_33 : G d 1 33 ls st h Q ↔ GN d 1 33 ls h (ldR ls 0 fun a => nx 34 ls (.ref a :: st) h) Q := G_unf rfl rfl
theorem g1_34 : G d 1 34 ls st h Q ↔ GN d 1 34 ls h (nx 36 ls (.int (nI 20) :: st) h) Q := G_unf rfl rfl
theorem g1_36 : G d 1 36 ls st h Q ↔ GN d 1 36 ls h (pRI st fun a x r => ck (arr h a 0) (nx 39 ls r (sI h a 17 x))) Q := G_unf rfl rfl
theorem g1_39 : G d 1 39 ls st h Q ↔ GN d 1 39 ls h (ldR ls 0 fun a => nx 40 ls (.ref a :: st) h) Q := G_unf rfl rfl
theorem g1_40 : G d 1 40 ls st h Q ↔ GN d 1 40 ls h (nx 43 ls (.ref 1000000 :: st) h) Q := G_unf rfl rfl
theorem g1_43 : G d 1 43 ls st h Q ↔ GN d 1 43 ls h (pRR st fun a x r => ck (arr h a 0) (nx 46 ls r (sR h a 18 (some x)))) Q := G_unf rfl rfl
theorem g1_46 : G d 1 46 ls st h Q ↔ GN d 1 46 ls h (ldR ls 0 fun a => nx 47 ls (.ref a :: st) h) Q := G_unf rfl rfl
theorem g1_47 : G d 1 47 ls st h Q ↔ GN d 1 47 ls h (nx 50 ls (.ref 1000000 :: st) h) Q := G_unf rfl rfl
theorem g1_50 : G d 1 50 ls st h Q ↔ GN d 1 50 ls h (pRR st fun a x r => ck (arr h a 0) (nx 53 ls r (sR h a 19 (some x)))) Q := G_unf rfl rfl
theorem g1_53 : G d 1 53 ls st h Q ↔ GN d 1 53 ls h (pE st (rtn none)) Q := G_unf rfl rfl
theorem g2_0 : G d 2 0 ls st h Q ↔ GN d 2 0 ls h (nx 1 ls (.int (nI 1) :: st) h) Q := G_unf rfl rfl
theorem g2_1 : G d 2 1 ls st h Q ↔ GN d 2 1 ls h (ldR ls 0 fun a => nx 2 ls (.ref a :: st) h) Q := G_unf rfl rfl
theorem g2_2 : G d 2 2 ls st h Q ↔ GN d 2 2 ls h (pR st fun a r => ck (arr h a 0) (nx 5 ls (.int (hI h a 3) :: r) h)) Q := G_unf rfl rfl
theorem g2_5 : G d 2 5 ls st h Q ↔ GN d 2 5 ls h (pII st fun x y r => nx 6 ls (.int (x <<< (y &&& 31)) :: r) h) Q := G_unf rfl rfl
theorem g2_6 : G d 2 6 ls st h Q ↔ GN d 2 6 ls h (nx 7 ls (.int (nI 1) :: st) h) Q := G_unf rfl rfl
theorem g2_7 : G d 2 7 ls st h Q ↔ GN d 2 7 ls h (pII st fun x y r => nx 8 ls (.int (x - y) :: r) h) Q := G_unf rfl rfl
theorem g2_8 : G d 2 8 ls st h Q ↔ GN d 2 8 ls h (pIe st fun x => rtn (some (.int x))) Q := G_unf rfl rfl
theorem g3_0 : G d 3 0 ls st h Q ↔ GN d 3 0 ls h (nx 1 ls (.int (nI 0) :: st) h) Q := G_unf rfl rfl
theorem g3_1 : G d 3 1 ls st h Q ↔ GN d 3 1 ls h (pI st fun x r => ck (2 < ls.length) (nx 2 (st1 ls 2 (.int x)) r h)) Q := G_unf rfl rfl
theorem g3_2 : G d 3 2 ls st h Q ↔ GN d 3 2 ls h (nx 3 ls (.int (nI 0) :: st) h) Q := G_unf rfl rfl
theorem g3_3 : G d 3 3 ls st h Q ↔ GN d 3 3 ls h (pI st fun x r => ck (3 < ls.length) (nx 4 (st1 ls 3 (.int x)) r h)) Q := G_unf rfl rfl
theorem g3_4 : G d 3 4 ls st h Q ↔ GN d 3 4 ls h (ldI ls 3 fun x => nx 5 ls (.int x :: st) h) Q := G_unf rfl rfl
theorem g3_5 : G d 3 5 ls st h Q ↔ GN d 3 5 ls h (ldR ls 0 fun a => nx 6 ls (.ref a :: st) h) Q := G_unf rfl rfl
theorem g3_6 : G d 3 6 ls st h Q ↔ GN d 3 6 ls h (pR st fun a r => ck (arr h a 0) (nx 9 ls (.int (hI h a 3) :: r) h)) Q := G_unf rfl rfl
theorem g3_9 : G d 3 9 ls st h Q ↔ GN d 3 9 ls h (pII st fun x y r => br (y ≤ x) (nx 34 ls r h) (nx 12 ls r h)) Q := G_unf rfl rfl
theorem g3_12 : G d 3 12 ls st h Q ↔ GN d 3 12 ls h (ldR ls 0 fun a => nx 13 ls (.ref a :: st) h) Q := G_unf rfl rfl
theorem g3_13 : G d 3 13 ls st h Q ↔ GN d 3 13 ls h (pR st fun a r => ck (arr h a 0) (nx 16 ls (rv (hR h a 1) :: r) h)) Q := G_unf rfl rfl
theorem g3_16 : G d 3 16 ls st h Q ↔ GN d 3 16 ls h (ldI ls 3 fun x => nx 17 ls (.int x :: st) h) Q := G_unf rfl rfl
theorem g3_17 : G d 3 17 ls st h Q ↔ GN d 3 17 ls h (pRI st fun a i r => br (a = 1000003) (ck (inb i (hS h).1) (nx 18 ls (.int ((hS h).2 i.toNatClampNeg) :: r) h)) (ck (arr h a 10 ∧ inb i (hLn h a)) (nx 18 ls (.int (hI h a i.toNatClampNeg) :: r) h))) Q := G_unf rfl rfl
theorem g3_18 : G d 3 18 ls st h Q ↔ GN d 3 18 ls h (ldI ls 1 fun x => nx 19 ls (.int x :: st) h) Q := G_unf rfl rfl
theorem g3_19 : G d 3 19 ls st h Q ↔ GN d 3 19 ls h (pII st fun x y r => br (y < x) (nx 28 ls r h) (nx 22 ls r h)) Q := G_unf rfl rfl
theorem g3_22 : G d 3 22 ls st h Q ↔ GN d 3 22 ls h (ldI ls 2 fun x => nx 23 ls (.int x :: st) h) Q := G_unf rfl rfl
theorem g3_23 : G d 3 23 ls st h Q ↔ GN d 3 23 ls h (nx 24 ls (.int (nI 1) :: st) h) Q := G_unf rfl rfl
theorem g3_24 : G d 3 24 ls st h Q ↔ GN d 3 24 ls h (ldI ls 3 fun x => nx 25 ls (.int x :: st) h) Q := G_unf rfl rfl
theorem g3_25 : G d 3 25 ls st h Q ↔ GN d 3 25 ls h (pII st fun x y r => nx 26 ls (.int (x <<< (y &&& 31)) :: r) h) Q := G_unf rfl rfl
theorem g3_26 : G d 3 26 ls st h Q ↔ GN d 3 26 ls h (pII st fun x y r => nx 27 ls (.int (x ||| y) :: r) h) Q := G_unf rfl rfl
theorem g3_27 : G d 3 27 ls st h Q ↔ GN d 3 27 ls h (pI st fun x r => ck (2 < ls.length) (nx 28 (st1 ls 2 (.int x)) r h)) Q := G_unf rfl rfl
theorem g3_28 : G d 3 28 ls st h Q ↔ GN d 3 28 ls h (ldI ls 3 fun x => nx 31 (st1 ls 3 (.int (x + (nI 1)))) st h) Q := G_unf rfl rfl
theorem g3_31 : G d 3 31 ls st h Q ↔ GN d 3 31 ls h (nx 4 ls st h) Q := G_unf rfl rfl
theorem g3_34 : G d 3 34 ls st h Q ↔ GN d 3 34 ls h (ldI ls 2 fun x => nx 35 ls (.int x :: st) h) Q := G_unf rfl rfl
theorem g3_35 : G d 3 35 ls st h Q ↔ GN d 3 35 ls h (pIe st fun x => rtn (some (.int x))) Q := G_unf rfl rfl
theorem g4_0 : G d 4 0 ls st h Q ↔ GN d 4 0 ls h (nx 1 ls (.int (nI 0) :: st) h) Q := G_unf rfl rfl
theorem g4_1 : G d 4 1 ls st h Q ↔ GN d 4 1 ls h (pI st fun x r => ck (2 < ls.length) (nx 2 (st1 ls 2 (.int x)) r h)) Q := G_unf rfl rfl
theorem g4_2 : G d 4 2 ls st h Q ↔ GN d 4 2 ls h (nx 3 ls (.int (nI 0) :: st) h) Q := G_unf rfl rfl
theorem g4_3 : G d 4 3 ls st h Q ↔ GN d 4 3 ls h (pI st fun x r => ck (3 < ls.length) (nx 4 (st1 ls 3 (.int x)) r h)) Q := G_unf rfl rfl
theorem g4_4 : G d 4 4 ls st h Q ↔ GN d 4 4 ls h (ldI ls 3 fun x => nx 5 ls (.int x :: st) h) Q := G_unf rfl rfl
theorem g4_5 : G d 4 5 ls st h Q ↔ GN d 4 5 ls h (ldR ls 0 fun a => nx 6 ls (.ref a :: st) h) Q := G_unf rfl rfl
theorem g4_6 : G d 4 6 ls st h Q ↔ GN d 4 6 ls h (pR st fun a r => ck (arr h a 0) (nx 9 ls (.int (hI h a 3) :: r) h)) Q := G_unf rfl rfl
theorem g4_9 : G d 4 9 ls st h Q ↔ GN d 4 9 ls h (pII st fun x y r => br (y ≤ x) (nx 36 ls r h) (nx 12 ls r h)) Q := G_unf rfl rfl
theorem g4_12 : G d 4 12 ls st h Q ↔ GN d 4 12 ls h (ldI ls 1 fun x => nx 13 ls (.int x :: st) h) Q := G_unf rfl rfl
theorem g4_13 : G d 4 13 ls st h Q ↔ GN d 4 13 ls h (ldI ls 3 fun x => nx 14 ls (.int x :: st) h) Q := G_unf rfl rfl
theorem g4_14 : G d 4 14 ls st h Q ↔ GN d 4 14 ls h (pII st fun x y r => nx 15 ls (.int (x >>> (y &&& 31)) :: r) h) Q := G_unf rfl rfl
theorem g4_15 : G d 4 15 ls st h Q ↔ GN d 4 15 ls h (nx 16 ls (.int (nI 1) :: st) h) Q := G_unf rfl rfl
theorem g4_16 : G d 4 16 ls st h Q ↔ GN d 4 16 ls h (pII st fun x y r => nx 17 ls (.int (x &&& y) :: r) h) Q := G_unf rfl rfl
theorem g4_17 : G d 4 17 ls st h Q ↔ GN d 4 17 ls h (nx 18 ls (.int (nI 1) :: st) h) Q := G_unf rfl rfl
theorem g4_18 : G d 4 18 ls st h Q ↔ GN d 4 18 ls h (pII st fun x y r => br (¬ x = y) (nx 30 ls r h) (nx 21 ls r h)) Q := G_unf rfl rfl
theorem g4_21 : G d 4 21 ls st h Q ↔ GN d 4 21 ls h (ldI ls 2 fun x => nx 22 ls (.int x :: st) h) Q := G_unf rfl rfl
theorem g4_22 : G d 4 22 ls st h Q ↔ GN d 4 22 ls h (ldR ls 0 fun a => nx 23 ls (.ref a :: st) h) Q := G_unf rfl rfl
theorem g4_23 : G d 4 23 ls st h Q ↔ GN d 4 23 ls h (pR st fun a r => ck (arr h a 0) (nx 26 ls (rv (hR h a 2) :: r) h)) Q := G_unf rfl rfl
theorem g4_26 : G d 4 26 ls st h Q ↔ GN d 4 26 ls h (ldI ls 3 fun x => nx 27 ls (.int x :: st) h) Q := G_unf rfl rfl
theorem g4_27 : G d 4 27 ls st h Q ↔ GN d 4 27 ls h (pRI st fun a i r => br (a = 1000003) (ck (inb i (hS h).1) (nx 28 ls (.int ((hS h).2 i.toNatClampNeg) :: r) h)) (ck (arr h a 10 ∧ inb i (hLn h a)) (nx 28 ls (.int (hI h a i.toNatClampNeg) :: r) h))) Q := G_unf rfl rfl
theorem g4_28 : G d 4 28 ls st h Q ↔ GN d 4 28 ls h (pII st fun x y r => nx 29 ls (.int (x + y) :: r) h) Q := G_unf rfl rfl
theorem g4_29 : G d 4 29 ls st h Q ↔ GN d 4 29 ls h (pI st fun x r => ck (2 < ls.length) (nx 30 (st1 ls 2 (.int x)) r h)) Q := G_unf rfl rfl
theorem g4_30 : G d 4 30 ls st h Q ↔ GN d 4 30 ls h (ldI ls 3 fun x => nx 33 (st1 ls 3 (.int (x + (nI 1)))) st h) Q := G_unf rfl rfl
theorem g4_33 : G d 4 33 ls st h Q ↔ GN d 4 33 ls h (nx 4 ls st h) Q := G_unf rfl rfl
theorem g4_36 : G d 4 36 ls st h Q ↔ GN d 4 36 ls h (ldI ls 2 fun x => nx 37 ls (.int x :: st) h) Q := G_unf rfl rfl
theorem g4_37 : G d 4 37 ls st h Q ↔ GN d 4 37 ls h (pIe st fun x => rtn (some (.int x))) Q := G_unf rfl rfl
theorem g5_0 : G d 5 0 ls st h Q ↔ GN d 5 0 ls h (nx 1 ls (.int (nI 0) :: st) h) Q := G_unf rfl rfl
theorem g5_1 : G d 5 1 ls st h Q ↔ GN d 5 1 ls h (pI st fun x r => ck (2 < ls.length) (nx 2 (st1 ls 2 (.int x)) r h)) Q := G_unf rfl rfl
theorem g5_2 : G d 5 2 ls st h Q ↔ GN d 5 2 ls h (nx 3 ls (.int (nI 0) :: st) h) Q := G_unf rfl rfl
theorem g5_3 : G d 5 3 ls st h Q ↔ GN d 5 3 ls h (pI st fun x r => ck (3 < ls.length) (nx 4 (st1 ls 3 (.int x)) r h)) Q := G_unf rfl rfl
theorem g5_4 : G d 5 4 ls st h Q ↔ GN d 5 4 ls h (ldI ls 3 fun x => nx 5 ls (.int x :: st) h) Q := G_unf rfl rfl
theorem g5_5 : G d 5 5 ls st h Q ↔ GN d 5 5 ls h (ldR ls 0 fun a => nx 6 ls (.ref a :: st) h) Q := G_unf rfl rfl
theorem g5_6 : G d 5 6 ls st h Q ↔ GN d 5 6 ls h (pR st fun a r => ck (arr h a 0) (nx 9 ls (.int (hI h a 6) :: r) h)) Q := G_unf rfl rfl
theorem g5_9 : G d 5 9 ls st h Q ↔ GN d 5 9 ls h (pII st fun x y r => br (y ≤ x) (nx 31 ls r h) (nx 12 ls r h)) Q := G_unf rfl rfl
theorem g5_12 : G d 5 12 ls st h Q ↔ GN d 5 12 ls h (ldR ls 0 fun a => nx 13 ls (.ref a :: st) h) Q := G_unf rfl rfl
theorem g5_13 : G d 5 13 ls st h Q ↔ GN d 5 13 ls h (pR st fun a r => ck (arr h a 0) (nx 16 ls (rv (hR h a 4) :: r) h)) Q := G_unf rfl rfl
theorem g5_16 : G d 5 16 ls st h Q ↔ GN d 5 16 ls h (ldI ls 3 fun x => nx 17 ls (.int x :: st) h) Q := G_unf rfl rfl
theorem g5_17 : G d 5 17 ls st h Q ↔ GN d 5 17 ls h (pRI st fun a i r => br (a = 1000003) (ck (inb i (hS h).1) (nx 18 ls (.int ((hS h).2 i.toNatClampNeg) :: r) h)) (ck (arr h a 10 ∧ inb i (hLn h a)) (nx 18 ls (.int (hI h a i.toNatClampNeg) :: r) h))) Q := G_unf rfl rfl
theorem g5_18 : G d 5 18 ls st h Q ↔ GN d 5 18 ls h (ldI ls 1 fun x => nx 19 ls (.int x :: st) h) Q := G_unf rfl rfl
theorem g5_19 : G d 5 19 ls st h Q ↔ GN d 5 19 ls h (pII st fun x y r => br (¬ x = y) (nx 25 ls r h) (nx 22 ls r h)) Q := G_unf rfl rfl
theorem g5_22 : G d 5 22 ls st h Q ↔ GN d 5 22 ls h (ldI ls 2 fun x => nx 25 (st1 ls 2 (.int (x + (nI 1)))) st h) Q := G_unf rfl rfl
theorem g5_25 : G d 5 25 ls st h Q ↔ GN d 5 25 ls h (ldI ls 3 fun x => nx 28 (st1 ls 3 (.int (x + (nI 1)))) st h) Q := G_unf rfl rfl
theorem g5_28 : G d 5 28 ls st h Q ↔ GN d 5 28 ls h (nx 4 ls st h) Q := G_unf rfl rfl
theorem g5_31 : G d 5 31 ls st h Q ↔ GN d 5 31 ls h (ldI ls 2 fun x => nx 32 ls (.int x :: st) h) Q := G_unf rfl rfl
theorem g5_32 : G d 5 32 ls st h Q ↔ GN d 5 32 ls h (pIe st fun x => rtn (some (.int x))) Q := G_unf rfl rfl
theorem g6_0 : G d 6 0 ls st h Q ↔ GN d 6 0 ls h (nx 1 ls (.int (nI 0) :: st) h) Q := G_unf rfl rfl
theorem g6_1 : G d 6 1 ls st h Q ↔ GN d 6 1 ls h (pI st fun x r => ck (2 < ls.length) (nx 2 (st1 ls 2 (.int x)) r h)) Q := G_unf rfl rfl
theorem g6_2 : G d 6 2 ls st h Q ↔ GN d 6 2 ls h (nx 3 ls (.int (nI 0) :: st) h) Q := G_unf rfl rfl
theorem g6_3 : G d 6 3 ls st h Q ↔ GN d 6 3 ls h (pI st fun x r => ck (3 < ls.length) (nx 4 (st1 ls 3 (.int x)) r h)) Q := G_unf rfl rfl
theorem g6_4 : G d 6 4 ls st h Q ↔ GN d 6 4 ls h (ldI ls 3 fun x => nx 5 ls (.int x :: st) h) Q := G_unf rfl rfl
theorem g6_5 : G d 6 5 ls st h Q ↔ GN d 6 5 ls h (ldR ls 0 fun a => nx 6 ls (.ref a :: st) h) Q := G_unf rfl rfl
theorem g6_6 : G d 6 6 ls st h Q ↔ GN d 6 6 ls h (pR st fun a r => ck (arr h a 0) (nx 9 ls (.int (hI h a 6) :: r) h)) Q := G_unf rfl rfl
theorem g6_9 : G d 6 9 ls st h Q ↔ GN d 6 9 ls h (pII st fun x y r => br (y ≤ x) (nx 43 ls r h) (nx 12 ls r h)) Q := G_unf rfl rfl
theorem g6_12 : G d 6 12 ls st h Q ↔ GN d 6 12 ls h (ldR ls 0 fun a => nx 13 ls (.ref a :: st) h) Q := G_unf rfl rfl
theorem g6_13 : G d 6 13 ls st h Q ↔ GN d 6 13 ls h (pR st fun a r => ck (arr h a 0) (nx 16 ls (rv (hR h a 5) :: r) h)) Q := G_unf rfl rfl
theorem g6_16 : G d 6 16 ls st h Q ↔ GN d 6 16 ls h (ldI ls 3 fun x => nx 17 ls (.int x :: st) h) Q := G_unf rfl rfl
theorem g6_17 : G d 6 17 ls st h Q ↔ GN d 6 17 ls h (pRI st fun a i r => br (a = 1000003) (ck (inb i (hS h).1) (nx 18 ls (.int ((hS h).2 i.toNatClampNeg) :: r) h)) (ck (arr h a 10 ∧ inb i (hLn h a)) (nx 18 ls (.int (hI h a i.toNatClampNeg) :: r) h))) Q := G_unf rfl rfl
theorem g6_18 : G d 6 18 ls st h Q ↔ GN d 6 18 ls h (ldI ls 1 fun x => nx 19 ls (.int x :: st) h) Q := G_unf rfl rfl
theorem g6_19 : G d 6 19 ls st h Q ↔ GN d 6 19 ls h (pII st fun x y r => nx 20 ls (.int (x >>> (y &&& 31)) :: r) h) Q := G_unf rfl rfl
theorem g6_20 : G d 6 20 ls st h Q ↔ GN d 6 20 ls h (nx 21 ls (.int (nI 1) :: st) h) Q := G_unf rfl rfl
theorem g6_21 : G d 6 21 ls st h Q ↔ GN d 6 21 ls h (pII st fun x y r => nx 22 ls (.int (x &&& y) :: r) h) Q := G_unf rfl rfl
theorem g6_22 : G d 6 22 ls st h Q ↔ GN d 6 22 ls h (nx 23 ls (.int (nI 1) :: st) h) Q := G_unf rfl rfl
theorem g6_23 : G d 6 23 ls st h Q ↔ GN d 6 23 ls h (pII st fun x y r => br (¬ x = y) (nx 37 ls r h) (nx 26 ls r h)) Q := G_unf rfl rfl
theorem g6_26 : G d 6 26 ls st h Q ↔ GN d 6 26 ls h (ldI ls 2 fun x => nx 27 ls (.int x :: st) h) Q := G_unf rfl rfl
theorem g6_27 : G d 6 27 ls st h Q ↔ GN d 6 27 ls h (nx 28 ls (.int (nI 1) :: st) h) Q := G_unf rfl rfl
theorem g6_28 : G d 6 28 ls st h Q ↔ GN d 6 28 ls h (ldR ls 0 fun a => nx 29 ls (.ref a :: st) h) Q := G_unf rfl rfl
theorem g6_29 : G d 6 29 ls st h Q ↔ GN d 6 29 ls h (pR st fun a r => ck (arr h a 0) (nx 32 ls (rv (hR h a 4) :: r) h)) Q := G_unf rfl rfl
theorem g6_32 : G d 6 32 ls st h Q ↔ GN d 6 32 ls h (ldI ls 3 fun x => nx 33 ls (.int x :: st) h) Q := G_unf rfl rfl
theorem g6_33 : G d 6 33 ls st h Q ↔ GN d 6 33 ls h (pRI st fun a i r => br (a = 1000003) (ck (inb i (hS h).1) (nx 34 ls (.int ((hS h).2 i.toNatClampNeg) :: r) h)) (ck (arr h a 10 ∧ inb i (hLn h a)) (nx 34 ls (.int (hI h a i.toNatClampNeg) :: r) h))) Q := G_unf rfl rfl
theorem g6_34 : G d 6 34 ls st h Q ↔ GN d 6 34 ls h (pII st fun x y r => nx 35 ls (.int (x <<< (y &&& 31)) :: r) h) Q := G_unf rfl rfl
theorem g6_35 : G d 6 35 ls st h Q ↔ GN d 6 35 ls h (pII st fun x y r => nx 36 ls (.int (x ||| y) :: r) h) Q := G_unf rfl rfl
theorem g6_36 : G d 6 36 ls st h Q ↔ GN d 6 36 ls h (pI st fun x r => ck (2 < ls.length) (nx 37 (st1 ls 2 (.int x)) r h)) Q := G_unf rfl rfl
theorem g6_37 : G d 6 37 ls st h Q ↔ GN d 6 37 ls h (ldI ls 3 fun x => nx 40 (st1 ls 3 (.int (x + (nI 1)))) st h) Q := G_unf rfl rfl
theorem g6_40 : G d 6 40 ls st h Q ↔ GN d 6 40 ls h (nx 4 ls st h) Q := G_unf rfl rfl
theorem g6_43 : G d 6 43 ls st h Q ↔ GN d 6 43 ls h (ldI ls 2 fun x => nx 44 ls (.int x :: st) h) Q := G_unf rfl rfl
theorem g6_44 : G d 6 44 ls st h Q ↔ GN d 6 44 ls h (pIe st fun x => rtn (some (.int x))) Q := G_unf rfl rfl
theorem g7_0 : G d 7 0 ls st h Q ↔ GN d 7 0 ls h (ldR ls 0 fun a => nx 1 ls (.ref a :: st) h) Q := G_unf rfl rfl
theorem g7_1 : G d 7 1 ls st h Q ↔ GN d 7 1 ls h (pR st fun a r => ck (arr h a 0) (nx 4 ls (rv (hR h a 5) :: r) h)) Q := G_unf rfl rfl
theorem g7_4 : G d 7 4 ls st h Q ↔ GN d 7 4 ls h (ldI ls 1 fun x => nx 5 ls (.int x :: st) h) Q := G_unf rfl rfl
theorem g7_5 : G d 7 5 ls st h Q ↔ GN d 7 5 ls h (pRI st fun a i r => br (a = 1000003) (ck (inb i (hS h).1) (nx 6 ls (.int ((hS h).2 i.toNatClampNeg) :: r) h)) (ck (arr h a 10 ∧ inb i (hLn h a)) (nx 6 ls (.int (hI h a i.toNatClampNeg) :: r) h))) Q := G_unf rfl rfl
theorem g7_6 : G d 7 6 ls st h Q ↔ GN d 7 6 ls h (pI st fun x r => ck (3 < ls.length) (nx 7 (st1 ls 3 (.int x)) r h)) Q := G_unf rfl rfl
theorem g7_7 : G d 7 7 ls st h Q ↔ GN d 7 7 ls h (ldI ls 2 fun x => nx 8 ls (.int x :: st) h) Q := G_unf rfl rfl
theorem g7_8 : G d 7 8 ls st h Q ↔ GN d 7 8 ls h (ldI ls 3 fun x => nx 9 ls (.int x :: st) h) Q := G_unf rfl rfl
theorem g7_9 : G d 7 9 ls st h Q ↔ GN d 7 9 ls h (pII st fun x y r => nx 10 ls (.int (x &&& y) :: r) h) Q := G_unf rfl rfl
theorem g7_10 : G d 7 10 ls st h Q ↔ GN d 7 10 ls h (ldI ls 3 fun x => nx 11 ls (.int x :: st) h) Q := G_unf rfl rfl
theorem g7_11 : G d 7 11 ls st h Q ↔ GN d 7 11 ls h (pII st fun x y r => br (¬ x = y) (nx 31 ls r h) (nx 14 ls r h)) Q := G_unf rfl rfl
theorem g7_14 : G d 7 14 ls st h Q ↔ GN d 7 14 ls h (ldI ls 2 fun x => nx 15 ls (.int x :: st) h) Q := G_unf rfl rfl
theorem g7_15 : G d 7 15 ls st h Q ↔ GN d 7 15 ls h (ldR ls 0 fun a => nx 16 ls (.ref a :: st) h) Q := G_unf rfl rfl
theorem g7_16 : G d 7 16 ls st h Q ↔ GN d 7 16 ls h (pR st fun a r => ck (arr h a 0) (nx 19 ls (rv (hR h a 4) :: r) h)) Q := G_unf rfl rfl
theorem g7_19 : G d 7 19 ls st h Q ↔ GN d 7 19 ls h (ldI ls 1 fun x => nx 20 ls (.int x :: st) h) Q := G_unf rfl rfl
theorem g7_20 : G d 7 20 ls st h Q ↔ GN d 7 20 ls h (pRI st fun a i r => br (a = 1000003) (ck (inb i (hS h).1) (nx 21 ls (.int ((hS h).2 i.toNatClampNeg) :: r) h)) (ck (arr h a 10 ∧ inb i (hLn h a)) (nx 21 ls (.int (hI h a i.toNatClampNeg) :: r) h))) Q := G_unf rfl rfl
theorem g7_21 : G d 7 21 ls st h Q ↔ GN d 7 21 ls h (pII st fun x y r => nx 22 ls (.int (x >>> (y &&& 31)) :: r) h) Q := G_unf rfl rfl
theorem g7_22 : G d 7 22 ls st h Q ↔ GN d 7 22 ls h (nx 23 ls (.int (nI 1) :: st) h) Q := G_unf rfl rfl
theorem g7_23 : G d 7 23 ls st h Q ↔ GN d 7 23 ls h (pII st fun x y r => nx 24 ls (.int (x &&& y) :: r) h) Q := G_unf rfl rfl
theorem g7_24 : G d 7 24 ls st h Q ↔ GN d 7 24 ls h (pI st fun x r => br (¬ x = 0) (nx 31 ls r h) (nx 27 ls r h)) Q := G_unf rfl rfl
theorem g7_27 : G d 7 27 ls st h Q ↔ GN d 7 27 ls h (nx 28 ls (.int (nI 1) :: st) h) Q := G_unf rfl rfl
theorem g7_28 : G d 7 28 ls st h Q ↔ GN d 7 28 ls h (nx 32 ls st h) Q := G_unf rfl rfl
theorem g7_31 : G d 7 31 ls st h Q ↔ GN d 7 31 ls h (nx 32 ls (.int (nI 0) :: st) h) Q := G_unf rfl rfl
theorem g7_32 : G d 7 32 ls st h Q ↔ GN d 7 32 ls h (pIe st fun x => ck (x = 0 ∨ x = 1) (rtn (some (.int x)))) Q := G_unf rfl rfl
theorem g8_0 : G d 8 0 ls st h Q ↔ GN d 8 0 ls h (nx 1 ls (.int (nI 0) :: st) h) Q := G_unf rfl rfl
theorem g8_1 : G d 8 1 ls st h Q ↔ GN d 8 1 ls h (pI st fun x r => ck (2 < ls.length) (nx 2 (st1 ls 2 (.int x)) r h)) Q := G_unf rfl rfl
theorem g8_2 : G d 8 2 ls st h Q ↔ GN d 8 2 ls h (ldI ls 2 fun x => nx 3 ls (.int x :: st) h) Q := G_unf rfl rfl
theorem g8_3 : G d 8 3 ls st h Q ↔ GN d 8 3 ls h (ldR ls 0 fun a => nx 4 ls (.ref a :: st) h) Q := G_unf rfl rfl
theorem g8_4 : G d 8 4 ls st h Q ↔ GN d 8 4 ls h (pR st fun a r => ck (arr h a 0) (nx 7 ls (.int (hI h a 6) :: r) h)) Q := G_unf rfl rfl
theorem g8_7 : G d 8 7 ls st h Q ↔ GN d 8 7 ls h (pII st fun x y r => br (y ≤ x) (nx 27 ls r h) (nx 10 ls r h)) Q := G_unf rfl rfl
theorem g8_10 : G d 8 10 ls st h Q ↔ GN d 8 10 ls h (ldR ls 0 fun a => nx 11 ls (.ref a :: st) h) Q := G_unf rfl rfl
theorem g8_11 : G d 8 11 ls st h Q ↔ GN d 8 11 ls h (ldI ls 2 fun x => nx 12 ls (.int x :: st) h) Q := G_unf rfl rfl
theorem g8_12 : G d 8 12 ls st h Q ↔ GN d 8 12 ls h (ldI ls 1 fun x => nx 13 ls (.int x :: st) h) Q := G_unf rfl rfl
theorem g8_13 : G d 8 13 ls st h Q ↔ GN d 8 13 ls h (pA 2 st fun as r => pR r fun a r => ck (r.length ≤ 4 ∧ arr h a 0) (cll 7 (.ref a :: as) r)) Q := G_unf rfl rfl
theorem g8_16 : G d 8 16 ls st h Q ↔ GN d 8 16 ls h (pI st fun x r => br (x = 0) (nx 21 ls r h) (nx 19 ls r h)) Q := G_unf rfl rfl
theorem g8_19 : G d 8 19 ls st h Q ↔ GN d 8 19 ls h (nx 20 ls (.int (nI 0) :: st) h) Q := G_unf rfl rfl
theorem g8_20 : G d 8 20 ls st h Q ↔ GN d 8 20 ls h (pIe st fun x => ck (x = 0 ∨ x = 1) (rtn (some (.int x)))) Q := G_unf rfl rfl
theorem g8_21 : G d 8 21 ls st h Q ↔ GN d 8 21 ls h (ldI ls 2 fun x => nx 24 (st1 ls 2 (.int (x + (nI 1)))) st h) Q := G_unf rfl rfl
theorem g8_24 : G d 8 24 ls st h Q ↔ GN d 8 24 ls h (nx 2 ls st h) Q := G_unf rfl rfl
theorem g8_27 : G d 8 27 ls st h Q ↔ GN d 8 27 ls h (nx 28 ls (.int (nI 1) :: st) h) Q := G_unf rfl rfl
theorem g8_28 : G d 8 28 ls st h Q ↔ GN d 8 28 ls h (pIe st fun x => ck (x = 0 ∨ x = 1) (rtn (some (.int x)))) Q := G_unf rfl rfl
theorem g9_0 : G d 9 0 ls st h Q ↔ GN d 9 0 ls h (ldI ls 1 fun x => nx 1 ls (.int x :: st) h) Q := G_unf rfl rfl
theorem g9_1 : G d 9 1 ls st h Q ↔ GN d 9 1 ls h (pI st fun x r => ck (2 < ls.length) (nx 2 (st1 ls 2 (.int x)) r h)) Q := G_unf rfl rfl
theorem g9_2 : G d 9 2 ls st h Q ↔ GN d 9 2 ls h (nx 3 ls (.int (nI 0) :: st) h) Q := G_unf rfl rfl
theorem g9_3 : G d 9 3 ls st h Q ↔ GN d 9 3 ls h (pI st fun x r => ck (3 < ls.length) (nx 4 (st1 ls 3 (.int x)) r h)) Q := G_unf rfl rfl
theorem g9_4 : G d 9 4 ls st h Q ↔ GN d 9 4 ls h (ldI ls 3 fun x => nx 5 ls (.int x :: st) h) Q := G_unf rfl rfl
theorem g9_5 : G d 9 5 ls st h Q ↔ GN d 9 5 ls h (nx 7 ls (.int (nI 12) :: st) h) Q := G_unf rfl rfl
theorem g9_7 : G d 9 7 ls st h Q ↔ GN d 9 7 ls h (pII st fun x y r => br (y ≤ x) (nx 68 ls r h) (nx 10 ls r h)) Q := G_unf rfl rfl
theorem g9_10 : G d 9 10 ls st h Q ↔ GN d 9 10 ls h (ldI ls 2 fun x => nx 11 ls (.int x :: st) h) Q := G_unf rfl rfl
theorem g9_11 : G d 9 11 ls st h Q ↔ GN d 9 11 ls h (pI st fun x r => ck (4 < ls.length) (nx 13 (st1 ls 4 (.int x)) r h)) Q := G_unf rfl rfl
theorem g9_13 : G d 9 13 ls st h Q ↔ GN d 9 13 ls h (nx 14 ls (.int (nI 0) :: st) h) Q := G_unf rfl rfl
theorem g9_14 : G d 9 14 ls st h Q ↔ GN d 9 14 ls h (pI st fun x r => ck (5 < ls.length) (nx 16 (st1 ls 5 (.int x)) r h)) Q := G_unf rfl rfl
theorem g9_16 : G d 9 16 ls st h Q ↔ GN d 9 16 ls h (ldI ls 5 fun x => nx 18 ls (.int x :: st) h) Q := G_unf rfl rfl
theorem g9_18 : G d 9 18 ls st h Q ↔ GN d 9 18 ls h (ldR ls 0 fun a => nx 19 ls (.ref a :: st) h) Q := G_unf rfl rfl
theorem g9_19 : G d 9 19 ls st h Q ↔ GN d 9 19 ls h (pR st fun a r => ck (arr h a 0) (nx 22 ls (.int (hI h a 6) :: r) h)) Q := G_unf rfl rfl
theorem g9_22 : G d 9 22 ls st h Q ↔ GN d 9 22 ls h (pII st fun x y r => br (y ≤ x) (nx 53 ls r h) (nx 25 ls r h)) Q := G_unf rfl rfl
theorem g9_25 : G d 9 25 ls st h Q ↔ GN d 9 25 ls h (ldR ls 0 fun a => nx 26 ls (.ref a :: st) h) Q := G_unf rfl rfl
theorem g9_26 : G d 9 26 ls st h Q ↔ GN d 9 26 ls h (ldI ls 5 fun x => nx 28 ls (.int x :: st) h) Q := G_unf rfl rfl
theorem g9_28 : G d 9 28 ls st h Q ↔ GN d 9 28 ls h (ldI ls 2 fun x => nx 29 ls (.int x :: st) h) Q := G_unf rfl rfl
theorem g9_29 : G d 9 29 ls st h Q ↔ GN d 9 29 ls h (pA 2 st fun as r => pR r fun a r => ck (r.length ≤ 4 ∧ arr h a 0) (cll 7 (.ref a :: as) r)) Q := G_unf rfl rfl
theorem g9_32 : G d 9 32 ls st h Q ↔ GN d 9 32 ls h (pI st fun x r => br (x = 0) (nx 47 ls r h) (nx 35 ls r h)) Q := G_unf rfl rfl
theorem g9_35 : G d 9 35 ls st h Q ↔ GN d 9 35 ls h (ldI ls 2 fun x => nx 36 ls (.int x :: st) h) Q := G_unf rfl rfl
theorem g9_36 : G d 9 36 ls st h Q ↔ GN d 9 36 ls h (nx 37 ls (.int (nI 1) :: st) h) Q := G_unf rfl rfl
theorem g9_37 : G d 9 37 ls st h Q ↔ GN d 9 37 ls h (ldR ls 0 fun a => nx 38 ls (.ref a :: st) h) Q := G_unf rfl rfl
theorem g9_38 : G d 9 38 ls st h Q ↔ GN d 9 38 ls h (pR st fun a r => ck (arr h a 0) (nx 41 ls (rv (hR h a 4) :: r) h)) Q := G_unf rfl rfl
theorem g9_41 : G d 9 41 ls st h Q ↔ GN d 9 41 ls h (ldI ls 5 fun x => nx 43 ls (.int x :: st) h) Q := G_unf rfl rfl
theorem g9_43 : G d 9 43 ls st h Q ↔ GN d 9 43 ls h (pRI st fun a i r => br (a = 1000003) (ck (inb i (hS h).1) (nx 44 ls (.int ((hS h).2 i.toNatClampNeg) :: r) h)) (ck (arr h a 10 ∧ inb i (hLn h a)) (nx 44 ls (.int (hI h a i.toNatClampNeg) :: r) h))) Q := G_unf rfl rfl
theorem g9_44 : G d 9 44 ls st h Q ↔ GN d 9 44 ls h (pII st fun x y r => nx 45 ls (.int (x <<< (y &&& 31)) :: r) h) Q := G_unf rfl rfl
theorem g9_45 : G d 9 45 ls st h Q ↔ GN d 9 45 ls h (pII st fun x y r => nx 46 ls (.int (x ||| y) :: r) h) Q := G_unf rfl rfl
theorem g9_46 : G d 9 46 ls st h Q ↔ GN d 9 46 ls h (pI st fun x r => ck (2 < ls.length) (nx 47 (st1 ls 2 (.int x)) r h)) Q := G_unf rfl rfl
theorem g9_47 : G d 9 47 ls st h Q ↔ GN d 9 47 ls h (ldI ls 5 fun x => nx 50 (st1 ls 5 (.int (x + (nI 1)))) st h) Q := G_unf rfl rfl
theorem g9_50 : G d 9 50 ls st h Q ↔ GN d 9 50 ls h (nx 16 ls st h) Q := G_unf rfl rfl
theorem g9_53 : G d 9 53 ls st h Q ↔ GN d 9 53 ls h (ldI ls 2 fun x => nx 54 ls (.int x :: st) h) Q := G_unf rfl rfl
theorem g9_54 : G d 9 54 ls st h Q ↔ GN d 9 54 ls h (ldI ls 4 fun x => nx 56 ls (.int x :: st) h) Q := G_unf rfl rfl
theorem g9_56 : G d 9 56 ls st h Q ↔ GN d 9 56 ls h (pII st fun x y r => br (¬ x = y) (nx 62 ls r h) (nx 59 ls r h)) Q := G_unf rfl rfl
theorem g9_59 : G d 9 59 ls st h Q ↔ GN d 9 59 ls h (nx 68 ls st h) Q := G_unf rfl rfl
theorem g9_62 : G d 9 62 ls st h Q ↔ GN d 9 62 ls h (ldI ls 3 fun x => nx 65 (st1 ls 3 (.int (x + (nI 1)))) st h) Q := G_unf rfl rfl
theorem g9_65 : G d 9 65 ls st h Q ↔ GN d 9 65 ls h (nx 4 ls st h) Q := G_unf rfl rfl
theorem g9_68 : G d 9 68 ls st h Q ↔ GN d 9 68 ls h (ldI ls 2 fun x => nx 69 ls (.int x :: st) h) Q := G_unf rfl rfl
theorem g9_69 : G d 9 69 ls st h Q ↔ GN d 9 69 ls h (pIe st fun x => rtn (some (.int x))) Q := G_unf rfl rfl
theorem g10_0 : G d 10 0 ls st h Q ↔ GN d 10 0 ls h (ldR ls 0 fun a => nx 1 ls (.ref a :: st) h) Q := G_unf rfl rfl
theorem g10_1 : G d 10 1 ls st h Q ↔ GN d 10 1 ls h (pR st fun _ r => ck (r.length ≤ 4) (nx 4 ls r h)) Q := G_unf rfl rfl
theorem g10_4 : G d 10 4 ls st h Q ↔ GN d 10 4 ls h (ldR ls 0 fun a => nx 5 ls (.ref a :: st) h) Q := G_unf rfl rfl
theorem g10_5 : G d 10 5 ls st h Q ↔ GN d 10 5 ls h (ck (lay (hN h) = 0) (nx 8 ls (.ref (hN h) :: st) (alc h 0 20))) Q := G_unf rfl rfl
theorem g10_8 : G d 10 8 ls st h Q ↔ GN d 10 8 ls h (p1 st fun v r => nx 9 ls (v :: v :: r) h) Q := G_unf rfl rfl
theorem g10_9 : G d 10 9 ls st h Q ↔ GN d 10 9 ls h (pA 0 st fun as r => pR r fun a r => ck (r.length ≤ 4 ∧ arr h a 0) (cll 0 (.ref a :: as) r)) Q := G_unf rfl rfl
theorem g10_12 : G d 10 12 ls st h Q ↔ GN d 10 12 ls h (pRR st fun a x r => ck (arr h a 1) (nx 15 ls r (sR h a 0 (some x)))) Q := G_unf rfl rfl
theorem g10_15 : G d 10 15 ls st h Q ↔ GN d 10 15 ls h (ldR ls 0 fun a => nx 16 ls (.ref a :: st) h) Q := G_unf rfl rfl
theorem g10_16 : G d 10 16 ls st h Q ↔ GN d 10 16 ls h (ck (lay (hN h) = 7) (nx 19 ls (.ref (hN h) :: st) (alc h 0 10))) Q := G_unf rfl rfl
theorem g10_19 : G d 10 19 ls st h Q ↔ GN d 10 19 ls h (p1 st fun v r => nx 20 ls (v :: v :: r) h) Q := G_unf rfl rfl
theorem g10_20 : G d 10 20 ls st h Q ↔ GN d 10 20 ls h (pA 0 st fun as r => pR r fun a r => ck (r.length ≤ 4 ∧ arr h a 7) (cll 98 (.ref a :: as) r)) Q := G_unf rfl rfl
theorem g10_23 : G d 10 23 ls st h Q ↔ GN d 10 23 ls h (pRR st fun a x r => ck (arr h a 1) (nx 26 ls r (sR h a 1 (some x)))) Q := G_unf rfl rfl
theorem g10_26 : G d 10 26 ls st h Q ↔ GN d 10 26 ls h (pE st (rtn none)) Q := G_unf rfl rfl
theorem g11_0 : G d 11 0 ls st h Q ↔ GN d 11 0 ls h (ldR ls 1 fun a => nx 1 ls (.ref a :: st) h) Q := G_unf rfl rfl
theorem g11_1 : G d 11 1 ls st h Q ↔ GN d 11 1 ls h (pA 0 st fun as r => pR r fun a r => ck (r.length ≤ 4 ∧ arr h a 6) (cll 84 (.ref a :: as) r)) Q := G_unf rfl rfl
theorem g11_4 : G d 11 4 ls st h Q ↔ GN d 11 4 ls h (ldR ls 0 fun a => nx 5 ls (.ref a :: st) h) Q := G_unf rfl rfl
theorem g11_5 : G d 11 5 ls st h Q ↔ GN d 11 5 ls h (pR st fun a r => ck (arr h a 1) (nx 8 ls (rv (hR h a 0) :: r) h)) Q := G_unf rfl rfl
theorem g11_8 : G d 11 8 ls st h Q ↔ GN d 11 8 ls h (pR st fun a r => ck (arr h a 0) (nx 11 ls (rv (hR h a 15) :: r) h)) Q := G_unf rfl rfl
theorem g11_11 : G d 11 11 ls st h Q ↔ GN d 11 11 ls h (nx 12 ls (.int (nI 0) :: st) h) Q := G_unf rfl rfl
theorem g11_12 : G d 11 12 ls st h Q ↔ GN d 11 12 ls h (ldR ls 1 fun a => nx 13 ls (.ref a :: st) h) Q := G_unf rfl rfl
theorem g11_13 : G d 11 13 ls st h Q ↔ GN d 11 13 ls h (pR st fun a r => ck (arr h a 6) (nx 16 ls (rv (hR h a 3) :: r) h)) Q := G_unf rfl rfl
theorem g11_16 : G d 11 16 ls st h Q ↔ GN d 11 16 ls h (nx 17 ls (.int (nI 0) :: st) h) Q := G_unf rfl rfl
theorem g11_17 : G d 11 17 ls st h Q ↔ GN d 11 17 ls h (nx 19 ls (.int (nI 96) :: st) h) Q := G_unf rfl rfl
theorem g11_19 : G d 11 19 ls st h Q ↔ GN d 11 19 ls h (pCopy st fun a0 sp a dp z r => ck (r.length ≤ 4 ∧ arr h a0 10 ∧ arr h a 10 ∧ (0 ≤ sp.toInt ∧ 0 ≤ dp.toInt ∧ 0 ≤ z.toInt) ∧ sp.toInt + z.toInt ≤ hLn h a0 ∧ dp.toInt + z.toInt ≤ hLn h a) (nx 22 ls r (sA h a (va_cpy (hI h a0) (hI h a) sp.toNatClampNeg dp.toNatClampNeg z.toNatClampNeg)))) Q := G_unf rfl rfl
theorem g11_22 : G d 11 22 ls st h Q ↔ GN d 11 22 ls h (nx 23 ls (.int (nI 0) :: st) h) Q := G_unf rfl rfl
theorem g11_23 : G d 11 23 ls st h Q ↔ GN d 11 23 ls h (pI st fun x r => ck (2 < ls.length) (nx 24 (st1 ls 2 (.int x)) r h)) Q := G_unf rfl rfl
theorem g11_24 : G d 11 24 ls st h Q ↔ GN d 11 24 ls h (ldI ls 2 fun x => nx 25 ls (.int x :: st) h) Q := G_unf rfl rfl
theorem g11_25 : G d 11 25 ls st h Q ↔ GN d 11 25 ls h (ldR ls 0 fun a => nx 26 ls (.ref a :: st) h) Q := G_unf rfl rfl
theorem g11_26 : G d 11 26 ls st h Q ↔ GN d 11 26 ls h (pR st fun a r => ck (arr h a 1) (nx 29 ls (rv (hR h a 0) :: r) h)) Q := G_unf rfl rfl
theorem g11_29 : G d 11 29 ls st h Q ↔ GN d 11 29 ls h (pR st fun a r => ck (arr h a 0) (nx 32 ls (.int (hI h a 10) :: r) h)) Q := G_unf rfl rfl
theorem g11_32 : G d 11 32 ls st h Q ↔ GN d 11 32 ls h (pII st fun x y r => br (y ≤ x) (nx 56 ls r h) (nx 35 ls r h)) Q := G_unf rfl rfl
theorem g11_35 : G d 11 35 ls st h Q ↔ GN d 11 35 ls h (ldR ls 1 fun a => nx 36 ls (.ref a :: st) h) Q := G_unf rfl rfl
theorem g11_36 : G d 11 36 ls st h Q ↔ GN d 11 36 ls h (pR st fun a r => ck (arr h a 6) (nx 39 ls (rv (hR h a 2) :: r) h)) Q := G_unf rfl rfl
theorem g11_39 : G d 11 39 ls st h Q ↔ GN d 11 39 ls h (ldI ls 2 fun x => nx 40 ls (.int x :: st) h) Q := G_unf rfl rfl
theorem g11_40 : G d 11 40 ls st h Q ↔ GN d 11 40 ls h (ldR ls 0 fun a => nx 41 ls (.ref a :: st) h) Q := G_unf rfl rfl
theorem g11_41 : G d 11 41 ls st h Q ↔ GN d 11 41 ls h (pR st fun a r => ck (arr h a 1) (nx 44 ls (rv (hR h a 0) :: r) h)) Q := G_unf rfl rfl
theorem g11_44 : G d 11 44 ls st h Q ↔ GN d 11 44 ls h (pR st fun a r => ck (arr h a 0) (nx 47 ls (rv (hR h a 9) :: r) h)) Q := G_unf rfl rfl
theorem g11_47 : G d 11 47 ls st h Q ↔ GN d 11 47 ls h (ldI ls 2 fun x => nx 48 ls (.int x :: st) h) Q := G_unf rfl rfl
theorem g11_48 : G d 11 48 ls st h Q ↔ GN d 11 48 ls h (pRI st fun a i r => br (a = 1000003) (ck (inb i (hS h).1) (nx 49 ls (.int ((hS h).2 i.toNatClampNeg) :: r) h)) (ck (arr h a 10 ∧ inb i (hLn h a)) (nx 49 ls (.int (hI h a i.toNatClampNeg) :: r) h))) Q := G_unf rfl rfl
theorem g11_49 : G d 11 49 ls st h Q ↔ GN d 11 49 ls h (pRII st fun a i x r => ck (arr h a 10 ∧ inb i (hLn h a)) (nx 50 ls r (sI h a i.toNatClampNeg x))) Q := G_unf rfl rfl
theorem g11_50 : G d 11 50 ls st h Q ↔ GN d 11 50 ls h (ldI ls 2 fun x => nx 53 (st1 ls 2 (.int (x + (nI 1)))) st h) Q := G_unf rfl rfl
theorem g11_53 : G d 11 53 ls st h Q ↔ GN d 11 53 ls h (nx 24 ls st h) Q := G_unf rfl rfl
theorem g11_56 : G d 11 56 ls st h Q ↔ GN d 11 56 ls h (ldR ls 1 fun a => nx 57 ls (.ref a :: st) h) Q := G_unf rfl rfl
theorem g11_57 : G d 11 57 ls st h Q ↔ GN d 11 57 ls h (nx 58 ls (.int (-1) :: st) h) Q := G_unf rfl rfl
theorem g11_58 : G d 11 58 ls st h Q ↔ GN d 11 58 ls h (pRI st fun a x r => ck (arr h a 6) (nx 61 ls r (sI h a 0 x))) Q := G_unf rfl rfl
theorem g11_61 : G d 11 61 ls st h Q ↔ GN d 11 61 ls h (ldR ls 0 fun a => nx 62 ls (.ref a :: st) h) Q := G_unf rfl rfl
theorem g11_62 : G d 11 62 ls st h Q ↔ GN d 11 62 ls h (ldR ls 1 fun a => nx 63 ls (.ref a :: st) h) Q := G_unf rfl rfl
theorem g11_63 : G d 11 63 ls st h Q ↔ GN d 11 63 ls h (pA 1 st fun as r => pR r fun a r => ck (r.length ≤ 4 ∧ arr h a 1) (cll 12 (.ref a :: as) r)) Q := G_unf rfl rfl
theorem g11_66 : G d 11 66 ls st h Q ↔ GN d 11 66 ls h (pE st (rtn none)) Q := G_unf rfl rfl
theorem g12_0 : G d 12 0 ls st h Q ↔ GN d 12 0 ls h (ldR ls 1 fun a => nx 1 ls (.ref a :: st) h) Q := G_unf rfl rfl
theorem g12_1 : G d 12 1 ls st h Q ↔ GN d 12 1 ls h (p1 st fun v r => nx 2 ls (v :: v :: r) h) Q := G_unf rfl rfl
theorem g12_2 : G d 12 2 ls st h Q ↔ GN d 12 2 ls h (pR st fun a r => ck (arr h a 6) (nx 5 ls (.int (hI h a 0) :: r) h)) Q := G_unf rfl rfl
theorem g12_5 : G d 12 5 ls st h Q ↔ GN d 12 5 ls h (nx 6 ls (.int (nI 1) :: st) h) Q := G_unf rfl rfl
theorem g12_6 : G d 12 6 ls st h Q ↔ GN d 12 6 ls h (pII st fun x y r => nx 7 ls (.int (x + y) :: r) h) Q := G_unf rfl rfl
theorem g12_7 : G d 12 7 ls st h Q ↔ GN d 12 7 ls h (pRI st fun a x r => ck (arr h a 6) (nx 10 ls r (sI h a 0 x))) Q := G_unf rfl rfl
theorem g12_10 : G d 12 10 ls st h Q ↔ GN d 12 10 ls h (ldR ls 1 fun a => nx 11 ls (.ref a :: st) h) Q := G_unf rfl rfl
theorem g12_11 : G d 12 11 ls st h Q ↔ GN d 12 11 ls h (pA 0 st fun as r => pR r fun a r => ck (r.length ≤ 4 ∧ arr h a 6) (cll 90 (.ref a :: as) r)) Q := G_unf rfl rfl
theorem g12_14 : G d 12 14 ls st h Q ↔ GN d 12 14 ls h (ldR ls 0 fun a => nx 15 ls (.ref a :: st) h) Q := G_unf rfl rfl
theorem g12_15 : G d 12 15 ls st h Q ↔ GN d 12 15 ls h (pR st fun a r => ck (arr h a 1) (nx 18 ls (rv (hR h a 0) :: r) h)) Q := G_unf rfl rfl
theorem g12_18 : G d 12 18 ls st h Q ↔ GN d 12 18 ls h (ldR ls 1 fun a => nx 19 ls (.ref a :: st) h) Q := G_unf rfl rfl
theorem g12_19 : G d 12 19 ls st h Q ↔ GN d 12 19 ls h (pR st fun a r => ck (arr h a 6) (nx 22 ls (.int (hI h a 0) :: r) h)) Q := G_unf rfl rfl
theorem g12_22 : G d 12 22 ls st h Q ↔ GN d 12 22 ls h (pA 1 st fun as r => pR r fun a r => ck (r.length ≤ 4 ∧ arr h a 0) (cll 3 (.ref a :: as) r)) Q := G_unf rfl rfl
theorem g12_25 : G d 12 25 ls st h Q ↔ GN d 12 25 ls h (pI st fun x r => ck (2 < ls.length) (nx 26 (st1 ls 2 (.int x)) r h)) Q := G_unf rfl rfl
theorem g12_26 : G d 12 26 ls st h Q ↔ GN d 12 26 ls h (nx 27 ls (.int (nI 0) :: st) h) Q := G_unf rfl rfl
theorem g12_27 : G d 12 27 ls st h Q ↔ GN d 12 27 ls h (pI st fun x r => ck (3 < ls.length) (nx 28 (st1 ls 3 (.int x)) r h)) Q := G_unf rfl rfl
theorem g12_28 : G d 12 28 ls st h Q ↔ GN d 12 28 ls h (ldI ls 3 fun x => nx 29 ls (.int x :: st) h) Q := G_unf rfl rfl
theorem g12_29 : G d 12 29 ls st h Q ↔ GN d 12 29 ls h (ldR ls 0 fun a => nx 30 ls (.ref a :: st) h) Q := G_unf rfl rfl
theorem g12_30 : G d 12 30 ls st h Q ↔ GN d 12 30 ls h (pR st fun a r => ck (arr h a 1) (nx 33 ls (rv (hR h a 0) :: r) h)) Q := G_unf rfl rfl
theorem g12_33 : G d 12 33 ls st h Q ↔ GN d 12 33 ls h (pR st fun a r => ck (arr h a 0) (nx 36 ls (.int (hI h a 10) :: r) h)) Q := G_unf rfl rfl
theorem g12_36 : G d 12 36 ls st h Q ↔ GN d 12 36 ls h (pII st fun x y r => br (y ≤ x) (nx 64 ls r h) (nx 39 ls r h)) Q := G_unf rfl rfl
theorem g12_39 : G d 12 39 ls st h Q ↔ GN d 12 39 ls h (ldR ls 1 fun a => nx 40 ls (.ref a :: st) h) Q := G_unf rfl rfl
theorem g12_40 : G d 12 40 ls st h Q ↔ GN d 12 40 ls h (pR st fun a r => ck (arr h a 6) (nx 43 ls (rv (hR h a 1) :: r) h)) Q := G_unf rfl rfl
theorem g12_43 : G d 12 43 ls st h Q ↔ GN d 12 43 ls h (ldI ls 3 fun x => nx 44 ls (.int x :: st) h) Q := G_unf rfl rfl
theorem g12_44 : G d 12 44 ls st h Q ↔ GN d 12 44 ls h (p11 st fun v w r => nx 45 ls (v :: w :: v :: w :: r) h) Q := G_unf rfl rfl
theorem g12_45 : G d 12 45 ls st h Q ↔ GN d 12 45 ls h (pRI st fun a i r => br (a = 1000003) (ck (inb i (hS h).1) (nx 46 ls (.int ((hS h).2 i.toNatClampNeg) :: r) h)) (ck (arr h a 10 ∧ inb i (hLn h a)) (nx 46 ls (.int (hI h a i.toNatClampNeg) :: r) h))) Q := G_unf rfl rfl
theorem g12_46 : G d 12 46 ls st h Q ↔ GN d 12 46 ls h (ldI ls 2 fun x => nx 47 ls (.int x :: st) h) Q := G_unf rfl rfl
theorem g12_47 : G d 12 47 ls st h Q ↔ GN d 12 47 ls h (ldR ls 1 fun a => nx 48 ls (.ref a :: st) h) Q := G_unf rfl rfl
theorem g12_48 : G d 12 48 ls st h Q ↔ GN d 12 48 ls h (pR st fun a r => ck (arr h a 6) (nx 51 ls (rv (hR h a 4) :: r) h)) Q := G_unf rfl rfl
theorem g12_51 : G d 12 51 ls st h Q ↔ GN d 12 51 ls h (ldI ls 3 fun x => nx 52 ls (.int x :: st) h) Q := G_unf rfl rfl
theorem g12_52 : G d 12 52 ls st h Q ↔ GN d 12 52 ls h (pRI st fun a i r => br (a = 1000003) (ck (inb i (hS h).1) (nx 53 ls (.int ((hS h).2 i.toNatClampNeg) :: r) h)) (ck (arr h a 10 ∧ inb i (hLn h a)) (nx 53 ls (.int (hI h a i.toNatClampNeg) :: r) h))) Q := G_unf rfl rfl
theorem g12_53 : G d 12 53 ls st h Q ↔ GN d 12 53 ls h (nx 54 ls (.int (-1) :: st) h) Q := G_unf rfl rfl
theorem g12_54 : G d 12 54 ls st h Q ↔ GN d 12 54 ls h (pII st fun x y r => nx 55 ls (.int (x ^^^ y) :: r) h) Q := G_unf rfl rfl
theorem g12_55 : G d 12 55 ls st h Q ↔ GN d 12 55 ls h (pII st fun x y r => nx 56 ls (.int (x &&& y) :: r) h) Q := G_unf rfl rfl
theorem g12_56 : G d 12 56 ls st h Q ↔ GN d 12 56 ls h (pII st fun x y r => nx 57 ls (.int (x ||| y) :: r) h) Q := G_unf rfl rfl
theorem g12_57 : G d 12 57 ls st h Q ↔ GN d 12 57 ls h (pRII st fun a i x r => ck (arr h a 10 ∧ inb i (hLn h a)) (nx 58 ls r (sI h a i.toNatClampNeg x))) Q := G_unf rfl rfl
theorem g12_58 : G d 12 58 ls st h Q ↔ GN d 12 58 ls h (ldI ls 3 fun x => nx 61 (st1 ls 3 (.int (x + (nI 1)))) st h) Q := G_unf rfl rfl
theorem g12_61 : G d 12 61 ls st h Q ↔ GN d 12 61 ls h (nx 28 ls st h) Q := G_unf rfl rfl
theorem g12_64 : G d 12 64 ls st h Q ↔ GN d 12 64 ls h (nx 65 ls (.int (nI 0) :: st) h) Q := G_unf rfl rfl
theorem g12_65 : G d 12 65 ls st h Q ↔ GN d 12 65 ls h (pI st fun x r => ck (3 < ls.length) (nx 66 (st1 ls 3 (.int x)) r h)) Q := G_unf rfl rfl
theorem g12_66 : G d 12 66 ls st h Q ↔ GN d 12 66 ls h (ldI ls 3 fun x => nx 67 ls (.int x :: st) h) Q := G_unf rfl rfl
theorem g12_67 : G d 12 67 ls st h Q ↔ GN d 12 67 ls h (ldR ls 0 fun a => nx 68 ls (.ref a :: st) h) Q := G_unf rfl rfl
theorem g12_68 : G d 12 68 ls st h Q ↔ GN d 12 68 ls h (pR st fun a r => ck (arr h a 1) (nx 71 ls (rv (hR h a 0) :: r) h)) Q := G_unf rfl rfl
theorem g12_71 : G d 12 71 ls st h Q ↔ GN d 12 71 ls h (pR st fun a r => ck (arr h a 0) (nx 74 ls (.int (hI h a 10) :: r) h)) Q := G_unf rfl rfl
theorem g12_74 : G d 12 74 ls st h Q ↔ GN d 12 74 ls h (pII st fun x y r => br (y ≤ x) (nx 89 ls r h) (nx 77 ls r h)) Q := G_unf rfl rfl
theorem g12_77 : G d 12 77 ls st h Q ↔ GN d 12 77 ls h (ldR ls 0 fun a => nx 78 ls (.ref a :: st) h) Q := G_unf rfl rfl
theorem g12_78 : G d 12 78 ls st h Q ↔ GN d 12 78 ls h (ldR ls 1 fun a => nx 79 ls (.ref a :: st) h) Q := G_unf rfl rfl
theorem g12_79 : G d 12 79 ls st h Q ↔ GN d 12 79 ls h (ldI ls 3 fun x => nx 80 ls (.int x :: st) h) Q := G_unf rfl rfl
theorem g12_80 : G d 12 80 ls st h Q ↔ GN d 12 80 ls h (pA 2 st fun as r => pR r fun a r => ck (r.length ≤ 4 ∧ arr h a 1) (cll 15 (.ref a :: as) r)) Q := G_unf rfl rfl
theorem g12_83 : G d 12 83 ls st h Q ↔ GN d 12 83 ls h (ldI ls 3 fun x => nx 86 (st1 ls 3 (.int (x + (nI 1)))) st h) Q := G_unf rfl rfl
theorem g12_86 : G d 12 86 ls st h Q ↔ GN d 12 86 ls h (nx 66 ls st h) Q := G_unf rfl rfl
theorem g12_89 : G d 12 89 ls st h Q ↔ GN d 12 89 ls h (ldR ls 1 fun a => nx 90 ls (.ref a :: st) h) Q := G_unf rfl rfl
theorem g12_90 : G d 12 90 ls st h Q ↔ GN d 12 90 ls h (pR st fun a r => ck (arr h a 6) (nx 93 ls (.int (hI h a 0) :: r) h)) Q := G_unf rfl rfl
theorem g12_93 : G d 12 93 ls st h Q ↔ GN d 12 93 ls h (nx 95 ls (.int (nI 7) :: st) h) Q := G_unf rfl rfl
theorem g12_95 : G d 12 95 ls st h Q ↔ GN d 12 95 ls h (pII st fun x y r => ck (¬ y = 0) (nx 96 ls (.int (x - x / y * y) :: r) h)) Q := G_unf rfl rfl
theorem g12_96 : G d 12 96 ls st h Q ↔ GN d 12 96 ls h (pI st fun x r => ck (3 < ls.length) (nx 97 (st1 ls 3 (.int x)) r h)) Q := G_unf rfl rfl
theorem g12_97 : G d 12 97 ls st h Q ↔ GN d 12 97 ls h (nx 98 ls (.int (nI 0) :: st) h) Q := G_unf rfl rfl
theorem g12_98 : G d 12 98 ls st h Q ↔ GN d 12 98 ls h (pI st fun x r => ck (4 < ls.length) (nx 100 (st1 ls 4 (.int x)) r h)) Q := G_unf rfl rfl
theorem g12_100 : G d 12 100 ls st h Q ↔ GN d 12 100 ls h (ldI ls 4 fun x => nx 102 ls (.int x :: st) h) Q := G_unf rfl rfl
theorem g12_102 : G d 12 102 ls st h Q ↔ GN d 12 102 ls h (ldR ls 0 fun a => nx 103 ls (.ref a :: st) h) Q := G_unf rfl rfl
theorem g12_103 : G d 12 103 ls st h Q ↔ GN d 12 103 ls h (pR st fun a r => ck (arr h a 1) (nx 106 ls (rv (hR h a 0) :: r) h)) Q := G_unf rfl rfl
theorem g12_106 : G d 12 106 ls st h Q ↔ GN d 12 106 ls h (pR st fun a r => ck (arr h a 0) (nx 109 ls (.int (hI h a 14) :: r) h)) Q := G_unf rfl rfl
theorem g12_109 : G d 12 109 ls st h Q ↔ GN d 12 109 ls h (pII st fun x y r => br (y ≤ x) (nx 157 ls r h) (nx 112 ls r h)) Q := G_unf rfl rfl
theorem g12_112 : G d 12 112 ls st h Q ↔ GN d 12 112 ls h (ldR ls 0 fun a => nx 113 ls (.ref a :: st) h) Q := G_unf rfl rfl
theorem g12_113 : G d 12 113 ls st h Q ↔ GN d 12 113 ls h (pR st fun a r => ck (arr h a 1) (nx 116 ls (rv (hR h a 0) :: r) h)) Q := G_unf rfl rfl
theorem g12_116 : G d 12 116 ls st h Q ↔ GN d 12 116 ls h (pR st fun a r => ck (arr h a 0) (nx 119 ls (rv (hR h a 13) :: r) h)) Q := G_unf rfl rfl
theorem g12_119 : G d 12 119 ls st h Q ↔ GN d 12 119 ls h (ldI ls 4 fun x => nx 121 ls (.int x :: st) h) Q := G_unf rfl rfl
theorem g12_121 : G d 12 121 ls st h Q ↔ GN d 12 121 ls h (pRI st fun a i r => br (a = 1000003) (ck (inb i (hS h).1) (nx 122 ls (.int ((hS h).2 i.toNatClampNeg) :: r) h)) (ck (arr h a 10 ∧ inb i (hLn h a)) (nx 122 ls (.int (hI h a i.toNatClampNeg) :: r) h))) Q := G_unf rfl rfl
theorem g12_122 : G d 12 122 ls st h Q ↔ GN d 12 122 ls h (ldI ls 3 fun x => nx 123 ls (.int x :: st) h) Q := G_unf rfl rfl
theorem g12_123 : G d 12 123 ls st h Q ↔ GN d 12 123 ls h (pII st fun x y r => br (¬ x = y) (nx 151 ls r h) (nx 126 ls r h)) Q := G_unf rfl rfl
theorem g12_126 : G d 12 126 ls st h Q ↔ GN d 12 126 ls h (ldR ls 0 fun a => nx 127 ls (.ref a :: st) h) Q := G_unf rfl rfl
theorem g12_127 : G d 12 127 ls st h Q ↔ GN d 12 127 ls h (ldR ls 1 fun a => nx 128 ls (.ref a :: st) h) Q := G_unf rfl rfl
theorem g12_128 : G d 12 128 ls st h Q ↔ GN d 12 128 ls h (ldR ls 0 fun a => nx 129 ls (.ref a :: st) h) Q := G_unf rfl rfl
theorem g12_129 : G d 12 129 ls st h Q ↔ GN d 12 129 ls h (pR st fun a r => ck (arr h a 1) (nx 132 ls (rv (hR h a 0) :: r) h)) Q := G_unf rfl rfl
end GI
