/-! the methods -/
theorem chk_0 : chkM (methZ 0) (bZ 0) (yZ 0).name 204 = true := by decide +kernel
theorem mok_0 : MOK 0 := by
  obtain ⟨h1, h2, h3⟩ := chkM_ok chk_0 (fun n h => (nn h : cdZ0 n = none))
  exact ⟨by decide +kernel, rfl, inT (i := 26) (by decide +kernel) rfl, h1, h2, h3, Nat.le_of_ble_eq_true rfl, ⟨by decide +kernel, by decide +kernel⟩, inT (i := 1) (by decide +kernel) rfl, rfl, Nat.lt_of_succ_le (Nat.le_of_ble_eq_true rfl)⟩
theorem chk_1 : chkM (methZ 1) (bZ 1) (yZ 1).name 16 = true := by decide +kernel
theorem mok_1 : MOK 1 := by
  obtain ⟨h1, h2, h3⟩ := chkM_ok chk_1 (fun n h => (nn h : cdZ1 n = none))
  exact ⟨by decide +kernel, rfl, inT (i := 34) (by decide +kernel) rfl, h1, h2, h3, Nat.le_of_ble_eq_true rfl, ⟨by decide +kernel, by decide +kernel⟩, inT (i := 2) (by decide +kernel) rfl, rfl, Nat.lt_of_succ_le (Nat.le_of_ble_eq_true rfl)⟩
theorem chk_2 : chkM (methZ 2) (bZ 2) (yZ 2).name 71 = true := by decide +kernel
theorem mok_2 : MOK 2 := by
  obtain ⟨h1, h2, h3⟩ := chkM_ok chk_2 (fun n h => (nn h : cdZ2 n = none))
  exact ⟨by decide +kernel, rfl, inT (i := 58) (by decide +kernel) rfl, h1, h2, h3, Nat.le_of_ble_eq_true rfl, ⟨by decide +kernel, by decide +kernel⟩, inT (i := 4) (by decide +kernel) rfl, rfl, Nat.lt_of_succ_le (Nat.le_of_ble_eq_true rfl)⟩
theorem chk_3 : chkM (methZ 3) (bZ 3) (yZ 3).name 15 = true := by decide +kernel
theorem mok_3 : MOK 3 := by
  obtain ⟨h1, h2, h3⟩ := chkM_ok chk_3 (fun n h => (nn h : cdZ3 n = none))
  exact ⟨by decide +kernel, rfl, inT (i := 64) (by decide +kernel) rfl, h1, h2, h3, Nat.le_of_ble_eq_true rfl, ⟨by decide +kernel, by decide +kernel⟩, inT (i := 5) (by decide +kernel) rfl, rfl, Nat.lt_of_succ_le (Nat.le_of_ble_eq_true rfl)⟩
theorem chk_4 : chkM (methZ 4) (bZ 4) (yZ 4).name 21 = true := by decide +kernel
theorem mok_4 : MOK 4 := by
  obtain ⟨h1, h2, h3⟩ := chkM_ok chk_4 (fun n h => (nn h : cdZ4 n = none))
  exact ⟨by decide +kernel, rfl, inT (i := 121) (by decide +kernel) rfl, h1, h2, h3, Nat.le_of_ble_eq_true rfl, ⟨by decide +kernel, by decide +kernel⟩, inT (i := 6) (by decide +kernel) rfl, rfl, Nat.lt_of_succ_le (Nat.le_of_ble_eq_true rfl)⟩
theorem chk_5 : chkM (methZ 5) (bZ 5) (yZ 5).name 38 = true := by decide +kernel
theorem mok_5 : MOK 5 := by
  obtain ⟨h1, h2, h3⟩ := chkM_ok chk_5 (fun n h => (nn h : cdZ5 n = none))
  exact ⟨by decide +kernel, rfl, inT (i := 137) (by decide +kernel) rfl, h1, h2, h3, Nat.le_of_ble_eq_true rfl, ⟨by decide +kernel, by decide +kernel⟩, inT (i := 7) (by decide +kernel) rfl, rfl, Nat.lt_of_succ_le (Nat.le_of_ble_eq_true rfl)⟩
theorem chk_6 : chkM (methZ 6) (bZ 6) (yZ 6).name 63 = true := by decide +kernel
theorem mok_6 : MOK 6 := by
  obtain ⟨h1, h2, h3⟩ := chkM_ok chk_6 (fun n h => (nn h : cdZ6 n = none))
  exact ⟨by decide +kernel, rfl, inT (i := 163) (by decide +kernel) rfl, h1, h2, h3, Nat.le_of_ble_eq_true rfl, ⟨by decide +kernel, by decide +kernel⟩, inT (i := 8) (by decide +kernel) rfl, rfl, Nat.lt_of_succ_le (Nat.le_of_ble_eq_true rfl)⟩
theorem chk_7 : chkM (methZ 7) (bZ 7) (yZ 7).name 66 = true := by decide +kernel
theorem mok_7 : MOK 7 := by
  obtain ⟨h1, h2, h3⟩ := chkM_ok chk_7 (fun n h => (nn h : cdZ7 n = none))
  exact ⟨by decide +kernel, rfl, inT (i := 169) (by decide +kernel) rfl, h1, h2, h3, Nat.le_of_ble_eq_true rfl, ⟨by decide +kernel, by decide +kernel⟩, inT (i := 9) (by decide +kernel) rfl, rfl, Nat.lt_of_succ_le (Nat.le_of_ble_eq_true rfl)⟩
theorem chk_8 : chkM (methZ 8) (bZ 8) (yZ 8).name 21 = true := by decide +kernel
theorem mok_8 : MOK 8 := by
  obtain ⟨h1, h2, h3⟩ := chkM_ok chk_8 (fun n h => (nn h : cdZ8 n = none))
  exact ⟨by decide +kernel, rfl, inT (i := 173) (by decide +kernel) rfl, h1, h2, h3, Nat.le_of_ble_eq_true rfl, ⟨by decide +kernel, by decide +kernel⟩, inT (i := 10) (by decide +kernel) rfl, rfl, Nat.lt_of_succ_le (Nat.le_of_ble_eq_true rfl)⟩
theorem chk_9 : chkM (methZ 9) (bZ 9) (yZ 9).name 27 = true := by decide +kernel
theorem mok_9 : MOK 9 := by
  obtain ⟨h1, h2, h3⟩ := chkM_ok chk_9 (fun n h => (nn h : cdZ9 n = none))
  exact ⟨by decide +kernel, rfl, inT (i := 240) (by decide +kernel) rfl, h1, h2, h3, Nat.le_of_ble_eq_true rfl, ⟨by decide +kernel, by decide +kernel⟩, inT (i := 11) (by decide +kernel) rfl, rfl, Nat.lt_of_succ_le (Nat.le_of_ble_eq_true rfl)⟩
theorem chk_10 : chkM (methZ 10) (bZ 10) (yZ 10).name 52 = true := by decide +kernel
theorem mok_10 : MOK 10 := by
  obtain ⟨h1, h2, h3⟩ := chkM_ok chk_10 (fun n h => (nn h : cdZ10 n = none))
  exact ⟨by decide +kernel, rfl, inT (i := 260) (by decide +kernel) rfl, h1, h2, h3, Nat.le_of_ble_eq_true rfl, ⟨by decide +kernel, by decide +kernel⟩, inT (i := 12) (by decide +kernel) rfl, rfl, Nat.lt_of_succ_le (Nat.le_of_ble_eq_true rfl)⟩
theorem chk_11 : chkM (methZ 11) (bZ 11) (yZ 11).name 49 = true := by decide +kernel
theorem mok_11 : MOK 11 := by
  obtain ⟨h1, h2, h3⟩ := chkM_ok chk_11 (fun n h => (nn h : cdZ11 n = none))
  exact ⟨by decide +kernel, rfl, inT (i := 294) (by decide +kernel) rfl, h1, h2, h3, Nat.le_of_ble_eq_true rfl, ⟨by decide +kernel, by decide +kernel⟩, inT (i := 13) (by decide +kernel) rfl, rfl, Nat.lt_of_succ_le (Nat.le_of_ble_eq_true rfl)⟩
theorem chk_12 : chkM (methZ 12) (bZ 12) (yZ 12).name 54 = true := by decide +kernel
theorem mok_12 : MOK 12 := by
  obtain ⟨h1, h2, h3⟩ := chkM_ok chk_12 (fun n h => (nn h : cdZ12 n = none))
  exact ⟨by decide +kernel, rfl, inT (i := 372) (by decide +kernel) rfl, h1, h2, h3, Nat.le_of_ble_eq_true rfl, ⟨by decide +kernel, by decide +kernel⟩, inT (i := 1) (by decide +kernel) rfl, rfl, Nat.lt_of_succ_le (Nat.le_of_ble_eq_true rfl)⟩
theorem chk_13 : chkM (methZ 13) (bZ 13) (yZ 13).name 43 = true := by decide +kernel
theorem mok_13 : MOK 13 := by
  obtain ⟨h1, h2, h3⟩ := chkM_ok chk_13 (fun n h => (nn h : cdZ13 n = none))
  exact ⟨by decide +kernel, rfl, inT (i := 378) (by decide +kernel) rfl, h1, h2, h3, Nat.le_of_ble_eq_true rfl, ⟨by decide +kernel, by decide +kernel⟩, inT (i := 1) (by decide +kernel) rfl, rfl, Nat.lt_of_succ_le (Nat.le_of_ble_eq_true rfl)⟩
theorem chk_14 : chkM (methZ 14) (bZ 14) (yZ 14).name 7 = true := by decide +kernel
theorem mok_14 : MOK 14 := by
  obtain ⟨h1, h2, h3⟩ := chkM_ok chk_14 (fun n h => (nn h : cdZ14 n = none))
  exact ⟨by decide +kernel, rfl, inT (i := 382) (by decide +kernel) rfl, h1, h2, h3, Nat.le_of_ble_eq_true rfl, ⟨by decide +kernel, by decide +kernel⟩, inT (i := 1) (by decide +kernel) rfl, rfl, Nat.lt_of_succ_le (Nat.le_of_ble_eq_true rfl)⟩
theorem chk_15 : chkM (methZ 15) (bZ 15) (yZ 15).name 68 = true := by decide +kernel
theorem mok_15 : MOK 15 := by
  obtain ⟨h1, h2, h3⟩ := chkM_ok chk_15 (fun n h => (nn h : cdZ15 n = none))
  exact ⟨by decide +kernel, rfl, inT (i := 386) (by decide +kernel) rfl, h1, h2, h3, Nat.le_of_ble_eq_true rfl, ⟨by decide +kernel, by decide +kernel⟩, inT (i := 1) (by decide +kernel) rfl, rfl, Nat.lt_of_succ_le (Nat.le_of_ble_eq_true rfl)⟩
theorem chk_16 : chkM (methZ 16) (bZ 16) (yZ 16).name 25 = true := by decide +kernel
theorem mok_16 : MOK 16 := by
  obtain ⟨h1, h2, h3⟩ := chkM_ok chk_16 (fun n h => (nn h : cdZ16 n = none))
  exact ⟨by decide +kernel, rfl, inT (i := 390) (by decide +kernel) rfl, h1, h2, h3, Nat.le_of_ble_eq_true rfl, ⟨by decide +kernel, by decide +kernel⟩, inT (i := 2) (by decide +kernel) rfl, rfl, Nat.lt_of_succ_le (Nat.le_of_ble_eq_true rfl)⟩
theorem chk_17 : chkM (methZ 17) (bZ 17) (yZ 17).name 33 = true := by decide +kernel
theorem mok_17 : MOK 17 := by
  obtain ⟨h1, h2, h3⟩ := chkM_ok chk_17 (fun n h => (nn h : cdZ17 n = none))
  exact ⟨by decide +kernel, rfl, inT (i := 394) (by decide +kernel) rfl, h1, h2, h3, Nat.le_of_ble_eq_true rfl, ⟨by decide +kernel, by decide +kernel⟩, inT (i := 2) (by decide +kernel) rfl, rfl, Nat.lt_of_succ_le (Nat.le_of_ble_eq_true rfl)⟩
theorem chk_18 : chkM (methZ 18) (bZ 18) (yZ 18).name 27 = true := by decide +kernel
theorem mok_18 : MOK 18 := by
  obtain ⟨h1, h2, h3⟩ := chkM_ok chk_18 (fun n h => (nn h : cdZ18 n = none))
  exact ⟨by decide +kernel, rfl, inT (i := 398) (by decide +kernel) rfl, h1, h2, h3, Nat.le_of_ble_eq_true rfl, ⟨by decide +kernel, by decide +kernel⟩, inT (i := 1) (by decide +kernel) rfl, rfl, Nat.lt_of_succ_le (Nat.le_of_ble_eq_true rfl)⟩
theorem chk_19 : chkM (methZ 19) (bZ 19) (yZ 19).name 95 = true := by decide +kernel
theorem mok_19 : MOK 19 := by
  obtain ⟨h1, h2, h3⟩ := chkM_ok chk_19 (fun n h => (nn h : cdZ19 n = none))
  exact ⟨by decide +kernel, rfl, inT (i := 402) (by decide +kernel) rfl, h1, h2, h3, Nat.le_of_ble_eq_true rfl, ⟨by decide +kernel, by decide +kernel⟩, inT (i := 1) (by decide +kernel) rfl, rfl, Nat.lt_of_succ_le (Nat.le_of_ble_eq_true rfl)⟩
theorem chk_20 : chkM (methZ 20) (bZ 20) (yZ 20).name 170 = true := by decide +kernel
theorem mok_20 : MOK 20 := by
  obtain ⟨h1, h2, h3⟩ := chkM_ok chk_20 (fun n h => (nn h : cdZ20 n = none))
  exact ⟨by decide +kernel, rfl, inT (i := 406) (by decide +kernel) rfl, h1, h2, h3, Nat.le_of_ble_eq_true rfl, ⟨by decide +kernel, by decide +kernel⟩, inT (i := 4) (by decide +kernel) rfl, rfl, Nat.lt_of_succ_le (Nat.le_of_ble_eq_true rfl)⟩
theorem chk_21 : chkM (methZ 21) (bZ 21) (yZ 21).name 40 = true := by decide +kernel
theorem mok_21 : MOK 21 := by
  obtain ⟨h1, h2, h3⟩ := chkM_ok chk_21 (fun n h => (nn h : cdZ21 n = none))
  exact ⟨by decide +kernel, rfl, inT (i := 409) (by decide +kernel) rfl, h1, h2, h3, Nat.le_of_ble_eq_true rfl, ⟨by decide +kernel, by decide +kernel⟩, inT (i := 4) (by decide +kernel) rfl, rfl, Nat.lt_of_succ_le (Nat.le_of_ble_eq_true rfl)⟩
theorem chk_22 : chkM (methZ 22) (bZ 22) (yZ 22).name 122 = true := by decide +kernel
theorem mok_22 : MOK 22 := by
  obtain ⟨h1, h2, h3⟩ := chkM_ok chk_22 (fun n h => (nn h : cdZ22 n = none))
  exact ⟨by decide +kernel, rfl, inT (i := 413) (by decide +kernel) rfl, h1, h2, h3, Nat.le_of_ble_eq_true rfl, ⟨by decide +kernel, by decide +kernel⟩, inT (i := 4) (by decide +kernel) rfl, rfl, Nat.lt_of_succ_le (Nat.le_of_ble_eq_true rfl)⟩
theorem chk_23 : chkM (methZ 23) (bZ 23) (yZ 23).name 139 = true := by decide +kernel
theorem mok_23 : MOK 23 := by
  obtain ⟨h1, h2, h3⟩ := chkM_ok chk_23 (fun n h => (nn h : cdZ23 n = none))
  exact ⟨by decide +kernel, rfl, inT (i := 417) (by decide +kernel) rfl, h1, h2, h3, Nat.le_of_ble_eq_true rfl, ⟨by decide +kernel, by decide +kernel⟩, inT (i := 4) (by decide +kernel) rfl, rfl, Nat.lt_of_succ_le (Nat.le_of_ble_eq_true rfl)⟩
theorem chk_24 : chkM (methZ 24) (bZ 24) (yZ 24).name 150 = true := by decide +kernel
theorem mok_24 : MOK 24 := by
  obtain ⟨h1, h2, h3⟩ := chkM_ok chk_24 (fun n h => (nn h : cdZ24 n = none))
  exact ⟨by decide +kernel, rfl, inT (i := 423) (by decide +kernel) rfl, h1, h2, h3, Nat.le_of_ble_eq_true rfl, ⟨by decide +kernel, by decide +kernel⟩, inT (i := 4) (by decide +kernel) rfl, rfl, Nat.lt_of_succ_le (Nat.le_of_ble_eq_true rfl)⟩
theorem chk_25 : chkM (methZ 25) (bZ 25) (yZ 25).name 10 = true := by decide +kernel
theorem mok_25 : MOK 25 := by
  obtain ⟨h1, h2, h3⟩ := chkM_ok chk_25 (fun n h => (nn h : cdZ25 n = none))
  exact ⟨by decide +kernel, rfl, inT (i := 475) (by decide +kernel) rfl, h1, h2, h3, Nat.le_of_ble_eq_true rfl, ⟨by decide +kernel, by decide +kernel⟩, inT (i := 4) (by decide +kernel) rfl, rfl, Nat.lt_of_succ_le (Nat.le_of_ble_eq_true rfl)⟩
theorem chk_26 : chkM (methZ 26) (bZ 26) (yZ 26).name 31 = true := by decide +kernel
theorem mok_26 : MOK 26 := by
  obtain ⟨h1, h2, h3⟩ := chkM_ok chk_26 (fun n h => (nn h : cdZ26 n = none))
  exact ⟨by decide +kernel, rfl, inT (i := 479) (by decide +kernel) rfl, h1, h2, h3, Nat.le_of_ble_eq_true rfl, ⟨by decide +kernel, by decide +kernel⟩, inT (i := 5) (by decide +kernel) rfl, rfl, Nat.lt_of_succ_le (Nat.le_of_ble_eq_true rfl)⟩
theorem chk_27 : chkM (methZ 27) (bZ 27) (yZ 27).name 122 = true := by decide +kernel
theorem mok_27 : MOK 27 := by
  obtain ⟨h1, h2, h3⟩ := chkM_ok chk_27 (fun n h => (nn h : cdZ27 n = none))
  exact ⟨by decide +kernel, rfl, inT (i := 483) (by decide +kernel) rfl, h1, h2, h3, Nat.le_of_ble_eq_true rfl, ⟨by decide +kernel, by decide +kernel⟩, inT (i := 4) (by decide +kernel) rfl, rfl, Nat.lt_of_succ_le (Nat.le_of_ble_eq_true rfl)⟩
theorem chk_28 : chkM (methZ 28) (bZ 28) (yZ 28).name 113 = true := by decide +kernel
theorem mok_28 : MOK 28 := by
  obtain ⟨h1, h2, h3⟩ := chkM_ok chk_28 (fun n h => (nn h : cdZ28 n = none))
  exact ⟨by decide +kernel, rfl, inT (i := 487) (by decide +kernel) rfl, h1, h2, h3, Nat.le_of_ble_eq_true rfl, ⟨by decide +kernel, by decide +kernel⟩, inT (i := 4) (by decide +kernel) rfl, rfl, Nat.lt_of_succ_le (Nat.le_of_ble_eq_true rfl)⟩
theorem chk_29 : chkM (methZ 29) (bZ 29) (yZ 29).name 197 = true := by decide +kernel
theorem mok_29 : MOK 29 := by
  obtain ⟨h1, h2, h3⟩ := chkM_ok chk_29 (fun n h => (nn h : cdZ29 n = none))
  exact ⟨by decide +kernel, rfl, inT (i := 491) (by decide +kernel) rfl, h1, h2, h3, Nat.le_of_ble_eq_true rfl, ⟨by decide +kernel, by decide +kernel⟩, inT (i := 4) (by decide +kernel) rfl, rfl, Nat.lt_of_succ_le (Nat.le_of_ble_eq_true rfl)⟩
theorem chk_30 : chkM (methZ 30) (bZ 30) (yZ 30).name 79 = true := by decide +kernel
theorem mok_30 : MOK 30 := by
  obtain ⟨h1, h2, h3⟩ := chkM_ok chk_30 (fun n h => (nn h : cdZ30 n = none))
  exact ⟨by decide +kernel, rfl, inT (i := 497) (by decide +kernel) rfl, h1, h2, h3, Nat.le_of_ble_eq_true rfl, ⟨by decide +kernel, by decide +kernel⟩, inT (i := 4) (by decide +kernel) rfl, rfl, Nat.lt_of_succ_le (Nat.le_of_ble_eq_true rfl)⟩
theorem chk_31 : chkM (methZ 31) (bZ 31) (yZ 31).name 38 = true := by decide +kernel
theorem mok_31 : MOK 31 := by
  obtain ⟨h1, h2, h3⟩ := chkM_ok chk_31 (fun n h => (nn h : cdZ31 n = none))
  exact ⟨by decide +kernel, rfl, inT (i := 506) (by decide +kernel) rfl, h1, h2, h3, Nat.le_of_ble_eq_true rfl, ⟨by decide +kernel, by decide +kernel⟩, inT (i := 5) (by decide +kernel) rfl, rfl, Nat.lt_of_succ_le (Nat.le_of_ble_eq_true rfl)⟩
theorem chk_32 : chkM (methZ 32) (bZ 32) (yZ 32).name 55 = true := by decide +kernel
theorem mok_32 : MOK 32 := by
  obtain ⟨h1, h2, h3⟩ := chkM_ok chk_32 (fun n h => (nn h : cdZ32 n = none))
  exact ⟨by decide +kernel, rfl, inT (i := 514) (by decide +kernel) rfl, h1, h2, h3, Nat.le_of_ble_eq_true rfl, ⟨by decide +kernel, by decide +kernel⟩, inT (i := 4) (by decide +kernel) rfl, rfl, Nat.lt_of_succ_le (Nat.le_of_ble_eq_true rfl)⟩
theorem chk_33 : chkM (methZ 33) (bZ 33) (yZ 33).name 121 = true := by decide +kernel
theorem mok_33 : MOK 33 := by
  obtain ⟨h1, h2, h3⟩ := chkM_ok chk_33 (fun n h => (nn h : cdZ33 n = none))
  exact ⟨by decide +kernel, rfl, inT (i := 520) (by decide +kernel) rfl, h1, h2, h3, Nat.le_of_ble_eq_true rfl, ⟨by decide +kernel, by decide +kernel⟩, inT (i := 4) (by decide +kernel) rfl, rfl, Nat.lt_of_succ_le (Nat.le_of_ble_eq_true rfl)⟩
theorem chk_34 : chkM (methZ 34) (bZ 34) (yZ 34).name 166 = true := by decide +kernel
theorem mok_34 : MOK 34 := by
  obtain ⟨h1, h2, h3⟩ := chkM_ok chk_34 (fun n h => (nn h : cdZ34 n = none))
  exact ⟨by decide +kernel, rfl, inT (i := 524) (by decide +kernel) rfl, h1, h2, h3, Nat.le_of_ble_eq_true rfl, ⟨by decide +kernel, by decide +kernel⟩, inT (i := 4) (by decide +kernel) rfl, rfl, Nat.lt_of_succ_le (Nat.le_of_ble_eq_true rfl)⟩
theorem chk_35 : chkM (methZ 35) (bZ 35) (yZ 35).name 36 = true := by decide +kernel
theorem mok_35 : MOK 35 := by
  obtain ⟨h1, h2, h3⟩ := chkM_ok chk_35 (fun n h => (nn h : cdZ35 n = none))
  exact ⟨by decide +kernel, rfl, inT (i := 533) (by decide +kernel) rfl, h1, h2, h3, Nat.le_of_ble_eq_true rfl, ⟨by decide +kernel, by decide +kernel⟩, inT (i := 5) (by decide +kernel) rfl, rfl, Nat.lt_of_succ_le (Nat.le_of_ble_eq_true rfl)⟩
theorem chk_36 : chkM (methZ 36) (bZ 36) (yZ 36).name 13 = true := by decide +kernel
theorem mok_36 : MOK 36 := by
  obtain ⟨h1, h2, h3⟩ := chkM_ok chk_36 (fun n h => (nn h : cdZ36 n = none))
  exact ⟨by decide +kernel, rfl, inT (i := 537) (by decide +kernel) rfl, h1, h2, h3, Nat.le_of_ble_eq_true rfl, ⟨by decide +kernel, by decide +kernel⟩, inT (i := 5) (by decide +kernel) rfl, rfl, Nat.lt_of_succ_le (Nat.le_of_ble_eq_true rfl)⟩
theorem chk_37 : chkM (methZ 37) (bZ 37) (yZ 37).name 51 = true := by decide +kernel
theorem mok_37 : MOK 37 := by
  obtain ⟨h1, h2, h3⟩ := chkM_ok chk_37 (fun n h => (nn h : cdZ37 n = none))
  exact ⟨by decide +kernel, rfl, inT (i := 543) (by decide +kernel) rfl, h1, h2, h3, Nat.le_of_ble_eq_true rfl, ⟨by decide +kernel, by decide +kernel⟩, inT (i := 5) (by decide +kernel) rfl, (Or.inl ⟨_, rfl⟩), Nat.lt_of_succ_le (Nat.le_of_ble_eq_true rfl)⟩
theorem chk_38 : chkM (methZ 38) (bZ 38) (yZ 38).name 33 = true := by decide +kernel
theorem mok_38 : MOK 38 := by
  obtain ⟨h1, h2, h3⟩ := chkM_ok chk_38 (fun n h => (nn h : cdZ38 n = none))
  exact ⟨by decide +kernel, rfl, inT (i := 547) (by decide +kernel) rfl, h1, h2, h3, Nat.le_of_ble_eq_true rfl, ⟨by decide +kernel, by decide +kernel⟩, inT (i := 10) (by decide +kernel) rfl, (Or.inr ⟨_, rfl⟩), Nat.lt_of_succ_le (Nat.le_of_ble_eq_true rfl)⟩
theorem chk_39 : chkM (methZ 39) (bZ 39) (yZ 39).name 38 = true := by decide +kernel
theorem mok_39 : MOK 39 := by
  obtain ⟨h1, h2, h3⟩ := chkM_ok chk_39 (fun n h => (nn h : cdZ39 n = none))
  exact ⟨by decide +kernel, rfl, inT (i := 563) (by decide +kernel) rfl, h1, h2, h3, Nat.le_of_ble_eq_true rfl, ⟨by decide +kernel, by decide +kernel⟩, inT (i := 7) (by decide +kernel) rfl, rfl, Nat.lt_of_succ_le (Nat.le_of_ble_eq_true rfl)⟩
theorem chk_40 : chkM (methZ 40) (bZ 40) (yZ 40).name 178 = true := by decide +kernel
theorem mok_40 : MOK 40 := by
  obtain ⟨h1, h2, h3⟩ := chkM_ok chk_40 (fun n h => (nn h : cdZ40 n = none))
  exact ⟨by decide +kernel, rfl, inT (i := 568) (by decide +kernel) rfl, h1, h2, h3, Nat.le_of_ble_eq_true rfl, ⟨by decide +kernel, by decide +kernel⟩, inT (i := 1) (by decide +kernel) rfl, rfl, Nat.lt_of_succ_le (Nat.le_of_ble_eq_true rfl)⟩
theorem chk_41 : chkM (methZ 41) (bZ 41) (yZ 41).name 33 = true := by decide +kernel
theorem mok_41 : MOK 41 := by
  obtain ⟨h1, h2, h3⟩ := chkM_ok chk_41 (fun n h => (nn h : cdZ41 n = none))
  exact ⟨by decide +kernel, rfl, inT (i := 572) (by decide +kernel) rfl, h1, h2, h3, Nat.le_of_ble_eq_true rfl, ⟨by decide +kernel, by decide +kernel⟩, inT (i := 12) (by decide +kernel) rfl, rfl, Nat.lt_of_succ_le (Nat.le_of_ble_eq_true rfl)⟩
theorem chk_42 : chkM (methZ 42) (bZ 42) (yZ 42).name 95 = true := by decide +kernel
theorem mok_42 : MOK 42 := by
  obtain ⟨h1, h2, h3⟩ := chkM_ok chk_42 (fun n h => (nn h : cdZ42 n = none))
  exact ⟨by decide +kernel, rfl, inT (i := 576) (by decide +kernel) rfl, h1, h2, h3, Nat.le_of_ble_eq_true rfl, ⟨by decide +kernel, by decide +kernel⟩, inT (i := 9) (by decide +kernel) rfl, rfl, Nat.lt_of_succ_le (Nat.le_of_ble_eq_true rfl)⟩
theorem chk_43 : chkM (methZ 43) (bZ 43) (yZ 43).name 292 = true := by decide +kernel
theorem mok_43 : MOK 43 := by
  obtain ⟨h1, h2, h3⟩ := chkM_ok chk_43 (fun n h => (nn h : cdZ43 n = none))
  exact ⟨by decide +kernel, rfl, inT (i := 581) (by decide +kernel) rfl, h1, h2, h3, Nat.le_of_ble_eq_true rfl, ⟨by decide +kernel, by decide +kernel⟩, inT (i := 12) (by decide +kernel) rfl, rfl, Nat.lt_of_succ_le (Nat.le_of_ble_eq_true rfl)⟩
theorem chk_44 : chkM (methZ 44) (bZ 44) (yZ 44).name 133 = true := by decide +kernel
theorem mok_44 : MOK 44 := by
  obtain ⟨h1, h2, h3⟩ := chkM_ok chk_44 (fun n h => (nn h : cdZ44 n = none))
  exact ⟨by decide +kernel, rfl, inT (i := 585) (by decide +kernel) rfl, h1, h2, h3, Nat.le_of_ble_eq_true rfl, ⟨by decide +kernel, by decide +kernel⟩, inT (i := 12) (by decide +kernel) rfl, rfl, Nat.lt_of_succ_le (Nat.le_of_ble_eq_true rfl)⟩
theorem chk_45 : chkM (methZ 45) (bZ 45) (yZ 45).name 18 = true := by decide +kernel
theorem mok_45 : MOK 45 := by
  obtain ⟨h1, h2, h3⟩ := chkM_ok chk_45 (fun n h => (nn h : cdZ45 n = none))
  exact ⟨by decide +kernel, rfl, inT (i := 589) (by decide +kernel) rfl, h1, h2, h3, Nat.le_of_ble_eq_true rfl, ⟨by decide +kernel, by decide +kernel⟩, inT (i := 9) (by decide +kernel) rfl, rfl, Nat.lt_of_succ_le (Nat.le_of_ble_eq_true rfl)⟩
theorem chk_46 : chkM (methZ 46) (bZ 46) (yZ 46).name 32 = true := by decide +kernel
theorem mok_46 : MOK 46 := by
  obtain ⟨h1, h2, h3⟩ := chkM_ok chk_46 (fun n h => (nn h : cdZ46 n = none))
  exact ⟨by decide +kernel, rfl, inT (i := 593) (by decide +kernel) rfl, h1, h2, h3, Nat.le_of_ble_eq_true rfl, ⟨by decide +kernel, by decide +kernel⟩, inT (i := 9) (by decide +kernel) rfl, rfl, Nat.lt_of_succ_le (Nat.le_of_ble_eq_true rfl)⟩
theorem chk_47 : chkM (methZ 47) (bZ 47) (yZ 47).name 46 = true := by decide +kernel
theorem mok_47 : MOK 47 := by
  obtain ⟨h1, h2, h3⟩ := chkM_ok chk_47 (fun n h => (nn h : cdZ47 n = none))
  exact ⟨by decide +kernel, rfl, inT (i := 597) (by decide +kernel) rfl, h1, h2, h3, Nat.le_of_ble_eq_true rfl, ⟨by decide +kernel, by decide +kernel⟩, inT (i := 9) (by decide +kernel) rfl, rfl, Nat.lt_of_succ_le (Nat.le_of_ble_eq_true rfl)⟩
theorem chk_48 : chkM (methZ 48) (bZ 48) (yZ 48).name 309 = true := by decide +kernel
theorem mok_48 : MOK 48 := by
  obtain ⟨h1, h2, h3⟩ := chkM_ok chk_48 (fun n h => (nn h : cdZ48 n = none))
  exact ⟨by decide +kernel, rfl, inT (i := 601) (by decide +kernel) rfl, h1, h2, h3, Nat.le_of_ble_eq_true rfl, ⟨by decide +kernel, by decide +kernel⟩, inT (i := 6) (by decide +kernel) rfl, rfl, Nat.lt_of_succ_le (Nat.le_of_ble_eq_true rfl)⟩
theorem chk_49 : chkM (methZ 49) (bZ 49) (yZ 49).name 184 = true := by decide +kernel
theorem mok_49 : MOK 49 := by
  obtain ⟨h1, h2, h3⟩ := chkM_ok chk_49 (fun n h => (nn h : cdZ49 n = none))
  exact ⟨by decide +kernel, rfl, inT (i := 605) (by decide +kernel) rfl, h1, h2, h3, Nat.le_of_ble_eq_true rfl, ⟨by decide +kernel, by decide +kernel⟩, inT (i := 6) (by decide +kernel) rfl, rfl, Nat.lt_of_succ_le (Nat.le_of_ble_eq_true rfl)⟩
theorem chk_50 : chkM (methZ 50) (bZ 50) (yZ 50).name 110 = true := by decide +kernel
theorem mok_50 : MOK 50 := by
  obtain ⟨h1, h2, h3⟩ := chkM_ok chk_50 (fun n h => (nn h : cdZ50 n = none))
  exact ⟨by decide +kernel, rfl, inT (i := 613) (by decide +kernel) rfl, h1, h2, h3, Nat.le_of_ble_eq_true rfl, ⟨by decide +kernel, by decide +kernel⟩, inT (i := 12) (by decide +kernel) rfl, rfl, Nat.lt_of_succ_le (Nat.le_of_ble_eq_true rfl)⟩
theorem chk_51 : chkM (methZ 51) (bZ 51) (yZ 51).name 37 = true := by decide +kernel
theorem mok_51 : MOK 51 := by
  obtain ⟨h1, h2, h3⟩ := chkM_ok chk_51 (fun n h => (nn h : cdZ51 n = none))
  exact ⟨by decide +kernel, rfl, inT (i := 617) (by decide +kernel) rfl, h1, h2, h3, Nat.le_of_ble_eq_true rfl, ⟨by decide +kernel, by decide +kernel⟩, inT (i := 9) (by decide +kernel) rfl, rfl, Nat.lt_of_succ_le (Nat.le_of_ble_eq_true rfl)⟩
theorem chk_52 : chkM (methZ 52) (bZ 52) (yZ 52).name 17 = true := by decide +kernel
theorem mok_52 : MOK 52 := by
  obtain ⟨h1, h2, h3⟩ := chkM_ok chk_52 (fun n h => (nn h : cdZ52 n = none))
  exact ⟨by decide +kernel, rfl, inT (i := 620) (by decide +kernel) rfl, h1, h2, h3, Nat.le_of_ble_eq_true rfl, ⟨by decide +kernel, by decide +kernel⟩, inT (i := 1) (by decide +kernel) rfl, rfl, Nat.lt_of_succ_le (Nat.le_of_ble_eq_true rfl)⟩
theorem chk_53 : chkM (methZ 53) (bZ 53) (yZ 53).name 16 = true := by decide +kernel
theorem mok_53 : MOK 53 := by
  obtain ⟨h1, h2, h3⟩ := chkM_ok chk_53 (fun n h => (nn h : cdZ53 n = none))
  exact ⟨by decide +kernel, rfl, inT (i := 623) (by decide +kernel) rfl, h1, h2, h3, Nat.le_of_ble_eq_true rfl, ⟨by decide +kernel, by decide +kernel⟩, inT (i := 1) (by decide +kernel) rfl, rfl, Nat.lt_of_succ_le (Nat.le_of_ble_eq_true rfl)⟩
theorem chk_54 : chkM (methZ 54) (bZ 54) (yZ 54).name 33 = true := by decide +kernel
theorem mok_54 : MOK 54 := by
  obtain ⟨h1, h2, h3⟩ := chkM_ok chk_54 (fun n h => (nn h : cdZ54 n = none))
  exact ⟨by decide +kernel, rfl, inT (i := 627) (by decide +kernel) rfl, h1, h2, h3, Nat.le_of_ble_eq_true rfl, ⟨by decide +kernel, by decide +kernel⟩, inT (i := 2) (by decide +kernel) rfl, rfl, Nat.lt_of_succ_le (Nat.le_of_ble_eq_true rfl)⟩
theorem chk_55 : chkM (methZ 55) (bZ 55) (yZ 55).name 130 = true := by decide +kernel
theorem mok_55 : MOK 55 := by
  obtain ⟨h1, h2, h3⟩ := chkM_ok chk_55 (fun n h => (nn h : cdZ55 n = none))
  exact ⟨by decide +kernel, rfl, inT (i := 631) (by decide +kernel) rfl, h1, h2, h3, Nat.le_of_ble_eq_true rfl, ⟨by decide +kernel, by decide +kernel⟩, inT (i := 8) (by decide +kernel) rfl, rfl, Nat.lt_of_succ_le (Nat.le_of_ble_eq_true rfl)⟩
theorem chk_56 : chkM (methZ 56) (bZ 56) (yZ 56).name 56 = true := by decide +kernel
theorem mok_56 : MOK 56 := by
  obtain ⟨h1, h2, h3⟩ := chkM_ok chk_56 (fun n h => (nn h : cdZ56 n = none))
  exact ⟨by decide +kernel, rfl, inT (i := 636) (by decide +kernel) rfl, h1, h2, h3, Nat.le_of_ble_eq_true rfl, ⟨by decide +kernel, by decide +kernel⟩, inT (i := 2) (by decide +kernel) rfl, rfl, Nat.lt_of_succ_le (Nat.le_of_ble_eq_true rfl)⟩
theorem chk_57 : chkM (methZ 57) (bZ 57) (yZ 57).name 29 = true := by decide +kernel
theorem mok_57 : MOK 57 := by
  obtain ⟨h1, h2, h3⟩ := chkM_ok chk_57 (fun n h => (nn h : cdZ57 n = none))
  exact ⟨by decide +kernel, rfl, inT (i := 640) (by decide +kernel) rfl, h1, h2, h3, Nat.le_of_ble_eq_true rfl, ⟨by decide +kernel, by decide +kernel⟩, inT (i := 2) (by decide +kernel) rfl, rfl, Nat.lt_of_succ_le (Nat.le_of_ble_eq_true rfl)⟩
theorem chk_58 : chkM (methZ 58) (bZ 58) (yZ 58).name 9 = true := by decide +kernel
theorem mok_58 : MOK 58 := by
  obtain ⟨h1, h2, h3⟩ := chkM_ok chk_58 (fun n h => (nn h : cdZ58 n = none))
  exact ⟨by decide +kernel, rfl, inT (i := 644) (by decide +kernel) rfl, h1, h2, h3, Nat.le_of_ble_eq_true rfl, ⟨by decide +kernel, by decide +kernel⟩, inT (i := 7) (by decide +kernel) rfl, (Or.inl ⟨_, rfl⟩), Nat.lt_of_succ_le (Nat.le_of_ble_eq_true rfl)⟩
theorem chk_59 : chkM (methZ 59) (bZ 59) (yZ 59).name 19 = true := by decide +kernel
theorem mok_59 : MOK 59 := by
  obtain ⟨h1, h2, h3⟩ := chkM_ok chk_59 (fun n h => (nn h : cdZ59 n = none))
  exact ⟨by decide +kernel, rfl, inT (i := 648) (by decide +kernel) rfl, h1, h2, h3, Nat.le_of_ble_eq_true rfl, ⟨by decide +kernel, by decide +kernel⟩, inT (i := 7) (by decide +kernel) rfl, (Or.inl ⟨_, rfl⟩), Nat.lt_of_succ_le (Nat.le_of_ble_eq_true rfl)⟩
theorem chk_60 : chkM (methZ 60) (bZ 60) (yZ 60).name 18 = true := by decide +kernel
theorem mok_60 : MOK 60 := by
  obtain ⟨h1, h2, h3⟩ := chkM_ok chk_60 (fun n h => (nn h : cdZ60 n = none))
  exact ⟨by decide +kernel, rfl, inT (i := 652) (by decide +kernel) rfl, h1, h2, h3, Nat.le_of_ble_eq_true rfl, ⟨by decide +kernel, by decide +kernel⟩, inT (i := 7) (by decide +kernel) rfl, rfl, Nat.lt_of_succ_le (Nat.le_of_ble_eq_true rfl)⟩
theorem chk_61 : chkM (methZ 61) (bZ 61) (yZ 61).name 89 = true := by decide +kernel
theorem mok_61 : MOK 61 := by
  obtain ⟨h1, h2, h3⟩ := chkM_ok chk_61 (fun n h => (nn h : cdZ61 n = none))
  exact ⟨by decide +kernel, rfl, inT (i := 656) (by decide +kernel) rfl, h1, h2, h3, Nat.le_of_ble_eq_true rfl, ⟨by decide +kernel, by decide +kernel⟩, inT (i := 8) (by decide +kernel) rfl, rfl, Nat.lt_of_succ_le (Nat.le_of_ble_eq_true rfl)⟩
theorem chk_62 : chkM (methZ 62) (bZ 62) (yZ 62).name 66 = true := by decide +kernel
theorem mok_62 : MOK 62 := by
  obtain ⟨h1, h2, h3⟩ := chkM_ok chk_62 (fun n h => (nn h : cdZ62 n = none))
  exact ⟨by decide +kernel, rfl, inT (i := 660) (by decide +kernel) rfl, h1, h2, h3, Nat.le_of_ble_eq_true rfl, ⟨by decide +kernel, by decide +kernel⟩, inT (i := 9) (by decide +kernel) rfl, rfl, Nat.lt_of_succ_le (Nat.le_of_ble_eq_true rfl)⟩
theorem chk_63 : chkM (methZ 63) (bZ 63) (yZ 63).name 224 = true := by decide +kernel
theorem mok_63 : MOK 63 := by
  obtain ⟨h1, h2, h3⟩ := chkM_ok chk_63 (fun n h => (nn h : cdZ63 n = none))
  exact ⟨by decide +kernel, rfl, inT (i := 665) (by decide +kernel) rfl, h1, h2, h3, Nat.le_of_ble_eq_true rfl, ⟨by decide +kernel, by decide +kernel⟩, inT (i := 8) (by decide +kernel) rfl, rfl, Nat.lt_of_succ_le (Nat.le_of_ble_eq_true rfl)⟩
theorem chk_64 : chkM (methZ 64) (bZ 64) (yZ 64).name 49 = true := by decide +kernel
theorem mok_64 : MOK 64 := by
  obtain ⟨h1, h2, h3⟩ := chkM_ok chk_64 (fun n h => (nn h : cdZ64 n = none))
  exact ⟨by decide +kernel, rfl, inT (i := 678) (by decide +kernel) rfl, h1, h2, h3, Nat.le_of_ble_eq_true rfl, ⟨by decide +kernel, by decide +kernel⟩, inT (i := 8) (by decide +kernel) rfl, rfl, Nat.lt_of_succ_le (Nat.le_of_ble_eq_true rfl)⟩
theorem chk_65 : chkM (methZ 65) (bZ 65) (yZ 65).name 120 = true := by decide +kernel
theorem mok_65 : MOK 65 := by
  obtain ⟨h1, h2, h3⟩ := chkM_ok chk_65 (fun n h => (nn h : cdZ65 n = none))
  exact ⟨by decide +kernel, rfl, inT (i := 683) (by decide +kernel) rfl, h1, h2, h3, Nat.le_of_ble_eq_true rfl, ⟨by decide +kernel, by decide +kernel⟩, inT (i := 8) (by decide +kernel) rfl, rfl, Nat.lt_of_succ_le (Nat.le_of_ble_eq_true rfl)⟩
theorem chk_66 : chkM (methZ 66) (bZ 66) (yZ 66).name 15 = true := by decide +kernel
theorem mok_66 : MOK 66 := by
  obtain ⟨h1, h2, h3⟩ := chkM_ok chk_66 (fun n h => (nn h : cdZ66 n = none))
  exact ⟨by decide +kernel, rfl, inT (i := 688) (by decide +kernel) rfl, h1, h2, h3, Nat.le_of_ble_eq_true rfl, ⟨by decide +kernel, by decide +kernel⟩, inT (i := 9) (by decide +kernel) rfl, rfl, Nat.lt_of_succ_le (Nat.le_of_ble_eq_true rfl)⟩
theorem chk_67 : chkM (methZ 67) (bZ 67) (yZ 67).name 53 = true := by decide +kernel
theorem mok_67 : MOK 67 := by
  obtain ⟨h1, h2, h3⟩ := chkM_ok chk_67 (fun n h => (nn h : cdZ67 n = none))
  exact ⟨by decide +kernel, rfl, inT (i := 692) (by decide +kernel) rfl, h1, h2, h3, Nat.le_of_ble_eq_true rfl, ⟨by decide +kernel, by decide +kernel⟩, inT (i := 9) (by decide +kernel) rfl, rfl, Nat.lt_of_succ_le (Nat.le_of_ble_eq_true rfl)⟩
theorem chk_68 : chkM (methZ 68) (bZ 68) (yZ 68).name 129 = true := by decide +kernel
theorem mok_68 : MOK 68 := by
  obtain ⟨h1, h2, h3⟩ := chkM_ok chk_68 (fun n h => (nn h : cdZ68 n = none))
  exact ⟨by decide +kernel, rfl, inT (i := 697) (by decide +kernel) rfl, h1, h2, h3, Nat.le_of_ble_eq_true rfl, ⟨by decide +kernel, by decide +kernel⟩, inT (i := 8) (by decide +kernel) rfl, rfl, Nat.lt_of_succ_le (Nat.le_of_ble_eq_true rfl)⟩
theorem chk_69 : chkM (methZ 69) (bZ 69) (yZ 69).name 87 = true := by decide +kernel
theorem mok_69 : MOK 69 := by
  obtain ⟨h1, h2, h3⟩ := chkM_ok chk_69 (fun n h => (nn h : cdZ69 n = none))
  exact ⟨by decide +kernel, rfl, inT (i := 703) (by decide +kernel) rfl, h1, h2, h3, Nat.le_of_ble_eq_true rfl, ⟨by decide +kernel, by decide +kernel⟩, inT (i := 9) (by decide +kernel) rfl, rfl, Nat.lt_of_succ_le (Nat.le_of_ble_eq_true rfl)⟩
theorem chk_70 : chkM (methZ 70) (bZ 70) (yZ 70).name 15 = true := by decide +kernel
theorem mok_70 : MOK 70 := by
  obtain ⟨h1, h2, h3⟩ := chkM_ok chk_70 (fun n h => (nn h : cdZ70 n = none))
  exact ⟨by decide +kernel, rfl, inT (i := 707) (by decide +kernel) rfl, h1, h2, h3, Nat.le_of_ble_eq_true rfl, ⟨by decide +kernel, by decide +kernel⟩, inT (i := 9) (by decide +kernel) rfl, rfl, Nat.lt_of_succ_le (Nat.le_of_ble_eq_true rfl)⟩
theorem chk_71 : chkM (methZ 71) (bZ 71) (yZ 71).name 74 = true := by decide +kernel
theorem mok_71 : MOK 71 := by
  obtain ⟨h1, h2, h3⟩ := chkM_ok chk_71 (fun n h => (nn h : cdZ71 n = none))
  exact ⟨by decide +kernel, rfl, inT (i := 712) (by decide +kernel) rfl, h1, h2, h3, Nat.le_of_ble_eq_true rfl, ⟨by decide +kernel, by decide +kernel⟩, inT (i := 8) (by decide +kernel) rfl, rfl, Nat.lt_of_succ_le (Nat.le_of_ble_eq_true rfl)⟩
theorem chk_72 : chkM (methZ 72) (bZ 72) (yZ 72).name 127 = true := by decide +kernel
theorem mok_72 : MOK 72 := by
  obtain ⟨h1, h2, h3⟩ := chkM_ok chk_72 (fun n h => (nn h : cdZ72 n = none))
  exact ⟨by decide +kernel, rfl, inT (i := 716) (by decide +kernel) rfl, h1, h2, h3, Nat.le_of_ble_eq_true rfl, ⟨by decide +kernel, by decide +kernel⟩, inT (i := 8) (by decide +kernel) rfl, rfl, Nat.lt_of_succ_le (Nat.le_of_ble_eq_true rfl)⟩
theorem chk_73 : chkM (methZ 73) (bZ 73) (yZ 73).name 48 = true := by decide +kernel
theorem mok_73 : MOK 73 := by
  obtain ⟨h1, h2, h3⟩ := chkM_ok chk_73 (fun n h => (nn h : cdZ73 n = none))
  exact ⟨by decide +kernel, rfl, inT (i := 720) (by decide +kernel) rfl, h1, h2, h3, Nat.le_of_ble_eq_true rfl, ⟨by decide +kernel, by decide +kernel⟩, inT (i := 8) (by decide +kernel) rfl, rfl, Nat.lt_of_succ_le (Nat.le_of_ble_eq_true rfl)⟩
theorem chk_74 : chkM (methZ 74) (bZ 74) (yZ 74).name 30 = true := by decide +kernel
theorem mok_74 : MOK 74 := by
  obtain ⟨h1, h2, h3⟩ := chkM_ok chk_74 (fun n h => (nn h : cdZ74 n = none))
  exact ⟨by decide +kernel, rfl, inT (i := 724) (by decide +kernel) rfl, h1, h2, h3, Nat.le_of_ble_eq_true rfl, ⟨by decide +kernel, by decide +kernel⟩, inT (i := 9) (by decide +kernel) rfl, rfl, Nat.lt_of_succ_le (Nat.le_of_ble_eq_true rfl)⟩
theorem chk_75 : chkM (methZ 75) (bZ 75) (yZ 75).name 28 = true := by decide +kernel
theorem mok_75 : MOK 75 := by
  obtain ⟨h1, h2, h3⟩ := chkM_ok chk_75 (fun n h => (nn h : cdZ75 n = none))
  exact ⟨by decide +kernel, rfl, inT (i := 728) (by decide +kernel) rfl, h1, h2, h3, Nat.le_of_ble_eq_true rfl, ⟨by decide +kernel, by decide +kernel⟩, inT (i := 9) (by decide +kernel) rfl, rfl, Nat.lt_of_succ_le (Nat.le_of_ble_eq_true rfl)⟩
theorem chk_76 : chkM (methZ 76) (bZ 76) (yZ 76).name 38 = true := by decide +kernel
theorem mok_76 : MOK 76 := by
  obtain ⟨h1, h2, h3⟩ := chkM_ok chk_76 (fun n h => (nn h : cdZ76 n = none))
  exact ⟨by decide +kernel, rfl, inT (i := 732) (by decide +kernel) rfl, h1, h2, h3, Nat.le_of_ble_eq_true rfl, ⟨by decide +kernel, by decide +kernel⟩, inT (i := 9) (by decide +kernel) rfl, rfl, Nat.lt_of_succ_le (Nat.le_of_ble_eq_true rfl)⟩
theorem chk_77 : chkM (methZ 77) (bZ 77) (yZ 77).name 75 = true := by decide +kernel
theorem mok_77 : MOK 77 := by
  obtain ⟨h1, h2, h3⟩ := chkM_ok chk_77 (fun n h => (nn h : cdZ77 n = none))
  exact ⟨by decide +kernel, rfl, inT (i := 736) (by decide +kernel) rfl, h1, h2, h3, Nat.le_of_ble_eq_true rfl, ⟨by decide +kernel, by decide +kernel⟩, inT (i := 9) (by decide +kernel) rfl, rfl, Nat.lt_of_succ_le (Nat.le_of_ble_eq_true rfl)⟩
theorem chk_78 : chkM (methZ 78) (bZ 78) (yZ 78).name 47 = true := by decide +kernel
theorem mok_78 : MOK 78 := by
  obtain ⟨h1, h2, h3⟩ := chkM_ok chk_78 (fun n h => (nn h : cdZ78 n = none))
  exact ⟨by decide +kernel, rfl, inT (i := 740) (by decide +kernel) rfl, h1, h2, h3, Nat.le_of_ble_eq_true rfl, ⟨by decide +kernel, by decide +kernel⟩, inT (i := 8) (by decide +kernel) rfl, rfl, Nat.lt_of_succ_le (Nat.le_of_ble_eq_true rfl)⟩
theorem chk_79 : chkM (methZ 79) (bZ 79) (yZ 79).name 51 = true := by decide +kernel
theorem mok_79 : MOK 79 := by
  obtain ⟨h1, h2, h3⟩ := chkM_ok chk_79 (fun n h => (nn h : cdZ79 n = none))
  exact ⟨by decide +kernel, rfl, inT (i := 745) (by decide +kernel) rfl, h1, h2, h3, Nat.le_of_ble_eq_true rfl, ⟨by decide +kernel, by decide +kernel⟩, inT (i := 8) (by decide +kernel) rfl, rfl, Nat.lt_of_succ_le (Nat.le_of_ble_eq_true rfl)⟩
theorem chk_80 : chkM (methZ 80) (bZ 80) (yZ 80).name 17 = true := by decide +kernel
theorem mok_80 : MOK 80 := by
  obtain ⟨h1, h2, h3⟩ := chkM_ok chk_80 (fun n h => (nn h : cdZ80 n = none))
  exact ⟨by decide +kernel, rfl, inT (i := 750) (by decide +kernel) rfl, h1, h2, h3, Nat.le_of_ble_eq_true rfl, ⟨by decide +kernel, by decide +kernel⟩, inT (i := 8) (by decide +kernel) rfl, rfl, Nat.lt_of_succ_le (Nat.le_of_ble_eq_true rfl)⟩
theorem chk_81 : chkM (methZ 81) (bZ 81) (yZ 81).name 25 = true := by decide +kernel
theorem mok_81 : MOK 81 := by
  obtain ⟨h1, h2, h3⟩ := chkM_ok chk_81 (fun n h => (nn h : cdZ81 n = none))
  exact ⟨by decide +kernel, rfl, inT (i := 754) (by decide +kernel) rfl, h1, h2, h3, Nat.le_of_ble_eq_true rfl, ⟨by decide +kernel, by decide +kernel⟩, inT (i := 8) (by decide +kernel) rfl, rfl, Nat.lt_of_succ_le (Nat.le_of_ble_eq_true rfl)⟩
theorem chk_82 : chkM (methZ 82) (bZ 82) (yZ 82).name 61 = true := by decide +kernel
theorem mok_82 : MOK 82 := by
  obtain ⟨h1, h2, h3⟩ := chkM_ok chk_82 (fun n h => (nn h : cdZ82 n = none))
  exact ⟨by decide +kernel, rfl, inT (i := 758) (by decide +kernel) rfl, h1, h2, h3, Nat.le_of_ble_eq_true rfl, ⟨by decide +kernel, by decide +kernel⟩, inT (i := 8) (by decide +kernel) rfl, rfl, Nat.lt_of_succ_le (Nat.le_of_ble_eq_true rfl)⟩
theorem chk_83 : chkM (methZ 83) (bZ 83) (yZ 83).name 75 = true := by decide +kernel
theorem mok_83 : MOK 83 := by
  obtain ⟨h1, h2, h3⟩ := chkM_ok chk_83 (fun n h => (nn h : cdZ83 n = none))
  exact ⟨by decide +kernel, rfl, inT (i := 762) (by decide +kernel) rfl, h1, h2, h3, Nat.le_of_ble_eq_true rfl, ⟨by decide +kernel, by decide +kernel⟩, inT (i := 11) (by decide +kernel) rfl, rfl, Nat.lt_of_succ_le (Nat.le_of_ble_eq_true rfl)⟩
theorem chk_84 : chkM (methZ 84) (bZ 84) (yZ 84).name 64 = true := by decide +kernel
theorem mok_84 : MOK 84 := by
  obtain ⟨h1, h2, h3⟩ := chkM_ok chk_84 (fun n h => (nn h : cdZ84 n = none))
  exact ⟨by decide +kernel, rfl, inT (i := 766) (by decide +kernel) rfl, h1, h2, h3, Nat.le_of_ble_eq_true rfl, ⟨by decide +kernel, by decide +kernel⟩, inT (i := 11) (by decide +kernel) rfl, rfl, Nat.lt_of_succ_le (Nat.le_of_ble_eq_true rfl)⟩
theorem chk_85 : chkM (methZ 85) (bZ 85) (yZ 85).name 15 = true := by decide +kernel
theorem mok_85 : MOK 85 := by
  obtain ⟨h1, h2, h3⟩ := chkM_ok chk_85 (fun n h => (nn h : cdZ85 n = none))
  exact ⟨by decide +kernel, rfl, inT (i := 772) (by decide +kernel) rfl, h1, h2, h3, Nat.le_of_ble_eq_true rfl, ⟨by decide +kernel, by decide +kernel⟩, inT (i := 12) (by decide +kernel) rfl, rfl, Nat.lt_of_succ_le (Nat.le_of_ble_eq_true rfl)⟩
theorem chk_86 : chkM (methZ 86) (bZ 86) (yZ 86).name 33 = true := by decide +kernel
theorem mok_86 : MOK 86 := by
  obtain ⟨h1, h2, h3⟩ := chkM_ok chk_86 (fun n h => (nn h : cdZ86 n = none))
  exact ⟨by decide +kernel, rfl, inT (i := 776) (by decide +kernel) rfl, h1, h2, h3, Nat.le_of_ble_eq_true rfl, ⟨by decide +kernel, by decide +kernel⟩, inT (i := 11) (by decide +kernel) rfl, rfl, Nat.lt_of_succ_le (Nat.le_of_ble_eq_true rfl)⟩
theorem chk_87 : chkM (methZ 87) (bZ 87) (yZ 87).name 8 = true := by decide +kernel
theorem mok_87 : MOK 87 := by
  obtain ⟨h1, h2, h3⟩ := chkM_ok chk_87 (fun n h => (nn h : cdZ87 n = none))
  exact ⟨by decide +kernel, rfl, inT (i := 781) (by decide +kernel) rfl, h1, h2, h3, Nat.le_of_ble_eq_true rfl, ⟨by decide +kernel, by decide +kernel⟩, inT (i := 1) (by decide +kernel) rfl, rfl, Nat.lt_of_succ_le (Nat.le_of_ble_eq_true rfl)⟩
theorem chk_88 : chkM (methZ 88) (bZ 88) (yZ 88).name 5 = true := by decide +kernel
theorem mok_88 : MOK 88 := by
  obtain ⟨h1, h2, h3⟩ := chkM_ok chk_88 (fun n h => (nn h : cdZ88 n = none))
  exact ⟨by decide +kernel, rfl, inT (i := 785) (by decide +kernel) rfl, h1, h2, h3, Nat.le_of_ble_eq_true rfl, ⟨by decide +kernel, by decide +kernel⟩, inT (i := 1) (by decide +kernel) rfl, rfl, Nat.lt_of_succ_le (Nat.le_of_ble_eq_true rfl)⟩
theorem chk_89 : chkM (methZ 89) (bZ 89) (yZ 89).name 45 = true := by decide +kernel
theorem mok_89 : MOK 89 := by
  obtain ⟨h1, h2, h3⟩ := chkM_ok chk_89 (fun n h => (nn h : cdZ89 n = none))
  exact ⟨by decide +kernel, rfl, inT (i := 789) (by decide +kernel) rfl, h1, h2, h3, Nat.le_of_ble_eq_true rfl, ⟨by decide +kernel, by decide +kernel⟩, inT (i := 1) (by decide +kernel) rfl, rfl, Nat.lt_of_succ_le (Nat.le_of_ble_eq_true rfl)⟩
