theorem lkL_0 : (mTs.getD 0 []).length = 3 := rfl
theorem lkA_0 : (mTs.getD 0 []).all (lkOk 0) = true := all_pieces _ _ (Nat.le_refl _) (fun j => match j with
  | 0 => lk_0_0
  | j + 1 => by
    rw [List.drop_eq_nil_of_le (by rw [lkL_0]; omega)]
    rfl)
theorem lkL_1 : (mTs.getD 1 []).length = 22 := rfl
theorem lkA_1 : (mTs.getD 1 []).all (lkOk 1) = true := all_pieces _ _ (Nat.le_refl _) (fun j => match j with
  | 0 => lk_1_0
  | 1 => lk_1_1
  | j + 2 => by
    rw [List.drop_eq_nil_of_le (by rw [lkL_1]; omega)]
    rfl)
theorem lkL_2 : (mTs.getD 2 []).length = 4 := rfl
theorem lkA_2 : (mTs.getD 2 []).all (lkOk 2) = true := all_pieces _ _ (Nat.le_refl _) (fun j => match j with
  | 0 => lk_2_0
  | j + 1 => by
    rw [List.drop_eq_nil_of_le (by rw [lkL_2]; omega)]
    rfl)
theorem lkL_3 : (mTs.getD 3 []).length = 10 := rfl
theorem lkA_3 : (mTs.getD 3 []).all (lkOk 3) = true := all_pieces _ _ (Nat.le_refl _) (fun j => match j with
  | 0 => lk_3_0
  | j + 1 => by
    rw [List.drop_eq_nil_of_le (by rw [lkL_3]; omega)]
    rfl)
theorem lkL_4 : (mTs.getD 4 []).length = 19 := rfl
theorem lkA_4 : (mTs.getD 4 []).all (lkOk 4) = true := all_pieces _ _ (Nat.le_refl _) (fun j => match j with
  | 0 => lk_4_0
  | j + 1 => by
    rw [List.drop_eq_nil_of_le (by rw [lkL_4]; omega)]
    rfl)
theorem lkL_5 : (mTs.getD 5 []).length = 37 := rfl
theorem lkA_5 : (mTs.getD 5 []).all (lkOk 5) = true := all_pieces _ _ (Nat.le_refl _) (fun j => match j with
  | 0 => lk_5_0
  | 1 => lk_5_1
  | j + 2 => by
    rw [List.drop_eq_nil_of_le (by rw [lkL_5]; omega)]
    rfl)
theorem lkL_6 : (mTs.getD 6 []).length = 10 := rfl
theorem lkA_6 : (mTs.getD 6 []).all (lkOk 6) = true := all_pieces _ _ (Nat.le_refl _) (fun j => match j with
  | 0 => lk_6_0
  | j + 1 => by
    rw [List.drop_eq_nil_of_le (by rw [lkL_6]; omega)]
    rfl)
theorem lkL_7 : (mTs.getD 7 []).length = 9 := rfl
theorem lkA_7 : (mTs.getD 7 []).all (lkOk 7) = true := all_pieces _ _ (Nat.le_refl _) (fun j => match j with
  | 0 => lk_7_0
  | j + 1 => by
    rw [List.drop_eq_nil_of_le (by rw [lkL_7]; omega)]
    rfl)
theorem lkL_8 : (mTs.getD 8 []).length = 61 := rfl
theorem lkA_8 : (mTs.getD 8 []).all (lkOk 8) = true := all_pieces _ _ (Nat.le_refl _) (fun j => match j with
  | 0 => lk_8_0
  | 1 => lk_8_1
  | 2 => lk_8_2
  | 3 => lk_8_3
  | j + 4 => by
    rw [List.drop_eq_nil_of_le (by rw [lkL_8]; omega)]
    rfl)
theorem lkL_9 : (mTs.getD 9 []).length = 84 := rfl
theorem lkA_9 : (mTs.getD 9 []).all (lkOk 9) = true := all_pieces _ _ (Nat.le_refl _) (fun j => match j with
  | 0 => lk_9_0
  | 1 => lk_9_1
  | 2 => lk_9_2
  | 3 => lk_9_3
  | 4 => lk_9_4
  | j + 5 => by
    rw [List.drop_eq_nil_of_le (by rw [lkL_9]; omega)]
    rfl)
theorem lkL_10 : (mTs.getD 10 []).length = 70 := rfl
theorem lkA_10 : (mTs.getD 10 []).all (lkOk 10) = true := all_pieces _ _ (Nat.le_refl _) (fun j => match j with
  | 0 => lk_10_0
  | 1 => lk_10_1
  | 2 => lk_10_2
  | 3 => lk_10_3
  | j + 4 => by
    rw [List.drop_eq_nil_of_le (by rw [lkL_10]; omega)]
    rfl)
theorem lkL_11 : (mTs.getD 11 []).length = 0 := rfl
theorem lkA_11 : (mTs.getD 11 []).all (lkOk 11) = true := all_pieces _ _ (Nat.le_refl _) (fun j => match j with

  | j + 0 => by
    rw [List.drop_eq_nil_of_le (by rw [lkL_11]; omega)]
    rfl)
theorem lkL_12 : (mTs.getD 12 []).length = 0 := rfl
theorem lkA_12 : (mTs.getD 12 []).all (lkOk 12) = true := all_pieces _ _ (Nat.le_refl _) (fun j => match j with

  | j + 0 => by
    rw [List.drop_eq_nil_of_le (by rw [lkL_12]; omega)]
    rfl)
theorem lkL_13 : (mTs.getD 13 []).length = 4 := rfl
theorem lkA_13 : (mTs.getD 13 []).all (lkOk 13) = true := all_pieces _ _ (Nat.le_refl _) (fun j => match j with
  | 0 => lk_13_0
  | j + 1 => by
    rw [List.drop_eq_nil_of_le (by rw [lkL_13]; omega)]
    rfl)
theorem lkL_14 : (mTs.getD 14 []).length = 1 := rfl
theorem lkA_14 : (mTs.getD 14 []).all (lkOk 14) = true := all_pieces _ _ (Nat.le_refl _) (fun j => match j with
  | 0 => lk_14_0
  | j + 1 => by
    rw [List.drop_eq_nil_of_le (by rw [lkL_14]; omega)]
    rfl)
theorem lkL_15 : (mTs.getD 15 []).length = 4 := rfl
theorem lkA_15 : (mTs.getD 15 []).all (lkOk 15) = true := all_pieces _ _ (Nat.le_refl _) (fun j => match j with
  | 0 => lk_15_0
  | j + 1 => by
    rw [List.drop_eq_nil_of_le (by rw [lkL_15]; omega)]
    rfl)
theorem lkL_16 : (mTs.getD 16 []).length = 2 := rfl
theorem lkA_16 : (mTs.getD 16 []).all (lkOk 16) = true := all_pieces _ _ (Nat.le_refl _) (fun j => match j with
  | 0 => lk_16_0
  | j + 1 => by
    rw [List.drop_eq_nil_of_le (by rw [lkL_16]; omega)]
    rfl)
theorem lkL_17 : (mTs.getD 17 []).length = 0 := rfl
theorem lkA_17 : (mTs.getD 17 []).all (lkOk 17) = true := all_pieces _ _ (Nat.le_refl _) (fun j => match j with

  | j + 0 => by
    rw [List.drop_eq_nil_of_le (by rw [lkL_17]; omega)]
    rfl)
theorem lk_at {o : Nat} (h : o < 18) : (mTs.getD o []).all (lkOk o) = true := by
  match o, h with
  | 0, _ => exact lkA_0
  | 1, _ => exact lkA_1
  | 2, _ => exact lkA_2
  | 3, _ => exact lkA_3
  | 4, _ => exact lkA_4
  | 5, _ => exact lkA_5
  | 6, _ => exact lkA_6
  | 7, _ => exact lkA_7
  | 8, _ => exact lkA_8
  | 9, _ => exact lkA_9
  | 10, _ => exact lkA_10
  | 11, _ => exact lkA_11
  | 12, _ => exact lkA_12
  | 13, _ => exact lkA_13
  | 14, _ => exact lkA_14
  | 15, _ => exact lkA_15
  | 16, _ => exact lkA_16
  | 17, _ => exact lkA_17
  | n + 18, h => exact absurd h (by omega)
theorem fkL_0 : (fTs.getD 0 []).length = 20 := rfl
theorem fkA_0 : (fTs.getD 0 []).all (fkOk 0) = true := all_pieces _ _ (Nat.le_refl _) (fun j => match j with
  | 0 => fk_0_0
  | j + 1 => by
    rw [List.drop_eq_nil_of_le (by rw [fkL_0]; omega)]
    rfl)
theorem fkL_1 : (fTs.getD 1 []).length = 30 := rfl
theorem fkA_1 : (fTs.getD 1 []).all (fkOk 1) = true := all_pieces _ _ (Nat.le_refl _) (fun j => match j with
  | 0 => fk_1_0
  | 1 => fk_1_1
  | j + 2 => by
    rw [List.drop_eq_nil_of_le (by rw [fkL_1]; omega)]
    rfl)
theorem fkL_2 : (fTs.getD 2 []).length = 3 := rfl
theorem fkA_2 : (fTs.getD 2 []).all (fkOk 2) = true := all_pieces _ _ (Nat.le_refl _) (fun j => match j with
  | 0 => fk_2_0
  | j + 1 => by
    rw [List.drop_eq_nil_of_le (by rw [fkL_2]; omega)]
    rfl)
theorem fkL_3 : (fTs.getD 3 []).length = 9 := rfl
theorem fkA_3 : (fTs.getD 3 []).all (fkOk 3) = true := all_pieces _ _ (Nat.le_refl _) (fun j => match j with
  | 0 => fk_3_0
  | j + 1 => by
    rw [List.drop_eq_nil_of_le (by rw [fkL_3]; omega)]
    rfl)
theorem fkL_4 : (fTs.getD 4 []).length = 23 := rfl
theorem fkA_4 : (fTs.getD 4 []).all (fkOk 4) = true := all_pieces _ _ (Nat.le_refl _) (fun j => match j with
  | 0 => fk_4_0
  | 1 => fk_4_1
  | j + 2 => by
    rw [List.drop_eq_nil_of_le (by rw [fkL_4]; omega)]
    rfl)
theorem fkL_5 : (fTs.getD 5 []).length = 36 := rfl
theorem fkA_5 : (fTs.getD 5 []).all (fkOk 5) = true := all_pieces _ _ (Nat.le_refl _) (fun j => match j with
  | 0 => fk_5_0
  | 1 => fk_5_1
  | j + 2 => by
    rw [List.drop_eq_nil_of_le (by rw [fkL_5]; omega)]
    rfl)
theorem fkL_6 : (fTs.getD 6 []).length = 9 := rfl
theorem fkA_6 : (fTs.getD 6 []).all (fkOk 6) = true := all_pieces _ _ (Nat.le_refl _) (fun j => match j with
  | 0 => fk_6_0
  | j + 1 => by
    rw [List.drop_eq_nil_of_le (by rw [fkL_6]; omega)]
    rfl)
theorem fkL_7 : (fTs.getD 7 []).length = 10 := rfl
theorem fkA_7 : (fTs.getD 7 []).all (fkOk 7) = true := all_pieces _ _ (Nat.le_refl _) (fun j => match j with
  | 0 => fk_7_0
  | j + 1 => by
    rw [List.drop_eq_nil_of_le (by rw [fkL_7]; omega)]
    rfl)
theorem fkL_8 : (fTs.getD 8 []).length = 46 := rfl
theorem fkA_8 : (fTs.getD 8 []).all (fkOk 8) = true := all_pieces _ _ (Nat.le_refl _) (fun j => match j with
  | 0 => fk_8_0
  | 1 => fk_8_1
  | 2 => fk_8_2
  | j + 3 => by
    rw [List.drop_eq_nil_of_le (by rw [fkL_8]; omega)]
    rfl)
theorem fkL_9 : (fTs.getD 9 []).length = 79 := rfl
theorem fkA_9 : (fTs.getD 9 []).all (fkOk 9) = true := all_pieces _ _ (Nat.le_refl _) (fun j => match j with
  | 0 => fk_9_0
  | 1 => fk_9_1
  | 2 => fk_9_2
  | 3 => fk_9_3
  | j + 4 => by
    rw [List.drop_eq_nil_of_le (by rw [fkL_9]; omega)]
    rfl)
theorem fkL_10 : (fTs.getD 10 []).length = 0 := rfl
theorem fkA_10 : (fTs.getD 10 []).all (fkOk 10) = true := all_pieces _ _ (Nat.le_refl _) (fun j => match j with

  | j + 0 => by
    rw [List.drop_eq_nil_of_le (by rw [fkL_10]; omega)]
    rfl)
theorem fkL_11 : (fTs.getD 11 []).length = 0 := rfl
theorem fkA_11 : (fTs.getD 11 []).all (fkOk 11) = true := all_pieces _ _ (Nat.le_refl _) (fun j => match j with

  | j + 0 => by
    rw [List.drop_eq_nil_of_le (by rw [fkL_11]; omega)]
    rfl)
theorem fkL_12 : (fTs.getD 12 []).length = 0 := rfl
theorem fkA_12 : (fTs.getD 12 []).all (fkOk 12) = true := all_pieces _ _ (Nat.le_refl _) (fun j => match j with

  | j + 0 => by
    rw [List.drop_eq_nil_of_le (by rw [fkL_12]; omega)]
    rfl)
theorem fkL_13 : (fTs.getD 13 []).length = 0 := rfl
theorem fkA_13 : (fTs.getD 13 []).all (fkOk 13) = true := all_pieces _ _ (Nat.le_refl _) (fun j => match j with

  | j + 0 => by
    rw [List.drop_eq_nil_of_le (by rw [fkL_13]; omega)]
    rfl)
theorem fkL_14 : (fTs.getD 14 []).length = 0 := rfl
theorem fkA_14 : (fTs.getD 14 []).all (fkOk 14) = true := all_pieces _ _ (Nat.le_refl _) (fun j => match j with

  | j + 0 => by
    rw [List.drop_eq_nil_of_le (by rw [fkL_14]; omega)]
    rfl)
theorem fkL_15 : (fTs.getD 15 []).length = 0 := rfl
theorem fkA_15 : (fTs.getD 15 []).all (fkOk 15) = true := all_pieces _ _ (Nat.le_refl _) (fun j => match j with

  | j + 0 => by
    rw [List.drop_eq_nil_of_le (by rw [fkL_15]; omega)]
    rfl)
theorem fkL_16 : (fTs.getD 16 []).length = 0 := rfl
theorem fkA_16 : (fTs.getD 16 []).all (fkOk 16) = true := all_pieces _ _ (Nat.le_refl _) (fun j => match j with

  | j + 0 => by
    rw [List.drop_eq_nil_of_le (by rw [fkL_16]; omega)]
    rfl)
theorem fkL_17 : (fTs.getD 17 []).length = 0 := rfl
theorem fkA_17 : (fTs.getD 17 []).all (fkOk 17) = true := all_pieces _ _ (Nat.le_refl _) (fun j => match j with

  | j + 0 => by
    rw [List.drop_eq_nil_of_le (by rw [fkL_17]; omega)]
    rfl)
theorem fk_at {o : Nat} (h : o < 18) : (fTs.getD o []).all (fkOk o) = true := by
  match o, h with
  | 0, _ => exact fkA_0
  | 1, _ => exact fkA_1
  | 2, _ => exact fkA_2
  | 3, _ => exact fkA_3
  | 4, _ => exact fkA_4
  | 5, _ => exact fkA_5
  | 6, _ => exact fkA_6
  | 7, _ => exact fkA_7
  | 8, _ => exact fkA_8
  | 9, _ => exact fkA_9
  | 10, _ => exact fkA_10
  | 11, _ => exact fkA_11
  | 12, _ => exact fkA_12
  | 13, _ => exact fkA_13
  | 14, _ => exact fkA_14
  | 15, _ => exact fkA_15
  | 16, _ => exact fkA_16
  | 17, _ => exact fkA_17
  | n + 18, h => exact absurd h (by omega)
theorem mt_at {m : Nat} (h : m < 291) : mtOk m = true := by
  have hd : ∀ q, q < 30 → (List.range 10).all (fun k => decide (291 ≤ 10 * q + k) || mtOk (10 * q + k)) = true := by
    intro q hq
    match q, hq with
    | 0, _ => exact mt_0
    | 1, _ => exact mt_1
    | 2, _ => exact mt_2
    | 3, _ => exact mt_3
    | 4, _ => exact mt_4
    | 5, _ => exact mt_5
    | 6, _ => exact mt_6
    | 7, _ => exact mt_7
    | 8, _ => exact mt_8
    | 9, _ => exact mt_9
    | 10, _ => exact mt_10
    | 11, _ => exact mt_11
    | 12, _ => exact mt_12
    | 13, _ => exact mt_13
    | 14, _ => exact mt_14
    | 15, _ => exact mt_15
    | 16, _ => exact mt_16
    | 17, _ => exact mt_17
    | 18, _ => exact mt_18
    | 19, _ => exact mt_19
    | 20, _ => exact mt_20
    | 21, _ => exact mt_21
    | 22, _ => exact mt_22
    | 23, _ => exact mt_23
    | 24, _ => exact mt_24
    | 25, _ => exact mt_25
    | 26, _ => exact mt_26
    | 27, _ => exact mt_27
    | 28, _ => exact mt_28
    | 29, _ => exact mt_29
    | n + 30, h => exact absurd h (by omega)
  have h1 := List.all_eq_true.mp (hd (m / 10) (by omega)) (m % 10) (List.mem_range.mpr (Nat.mod_lt _ (by omega)))
  rw [show 10 * (m / 10) + m % 10 = m by omega] at h1
  have h2 : ¬ 291 ≤ m := by omega
  simpa [h2] using h1
