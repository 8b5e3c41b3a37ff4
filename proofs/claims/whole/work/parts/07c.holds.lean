theorem chk_90 : chkM (methZ 90) (bZ 90) (yZ 90).name 91 = true := by decide +kernel
theorem mok_90 : MOK 90 := by
  obtain ⟨h1, h2, h3⟩ := chkM_ok chk_90 (fun n h => (nn h : cdZ90 n = none))
  exact ⟨by decide +kernel, rfl, inT (i := 794) (by decide +kernel) rfl, h1, h2, h3, Nat.le_of_ble_eq_true rfl, ⟨by decide +kernel, by decide +kernel⟩, inT (i := 1) (by decide +kernel) rfl, rfl, Nat.lt_of_succ_le (Nat.le_of_ble_eq_true rfl)⟩
theorem chk_91 : chkM (methZ 91) (bZ 91) (yZ 91).name 122 = true := by decide +kernel
theorem mok_91 : MOK 91 := by
  obtain ⟨h1, h2, h3⟩ := chkM_ok chk_91 (fun n h => (nn h : cdZ91 n = none))
  exact ⟨by decide +kernel, rfl, inT (i := 800) (by decide +kernel) rfl, h1, h2, h3, Nat.le_of_ble_eq_true rfl, ⟨by decide +kernel, by decide +kernel⟩, inT (i := 1) (by decide +kernel) rfl, rfl, Nat.lt_of_succ_le (Nat.le_of_ble_eq_true rfl)⟩
theorem chk_92 : chkM (methZ 92) (bZ 92) (yZ 92).name 62 = true := by decide +kernel
theorem mok_92 : MOK 92 := by
  obtain ⟨h1, h2, h3⟩ := chkM_ok chk_92 (fun n h => (nn h : cdZ92 n = none))
  exact ⟨by decide +kernel, rfl, inT (i := 806) (by decide +kernel) rfl, h1, h2, h3, Nat.le_of_ble_eq_true rfl, ⟨by decide +kernel, by decide +kernel⟩, inT (i := 1) (by decide +kernel) rfl, rfl, Nat.lt_of_succ_le (Nat.le_of_ble_eq_true rfl)⟩
theorem chk_93 : chkM (methZ 93) (bZ 93) (yZ 93).name 49 = true := by decide +kernel
theorem mok_93 : MOK 93 := by
  obtain ⟨h1, h2, h3⟩ := chkM_ok chk_93 (fun n h => (nn h : cdZ93 n = none))
  exact ⟨by decide +kernel, rfl, inT (i := 810) (by decide +kernel) rfl, h1, h2, h3, Nat.le_of_ble_eq_true rfl, ⟨by decide +kernel, by decide +kernel⟩, inT (i := 9) (by decide +kernel) rfl, rfl, Nat.lt_of_succ_le (Nat.le_of_ble_eq_true rfl)⟩
theorem chk_94 : chkM (methZ 94) (bZ 94) (yZ 94).name 54 = true := by decide +kernel
theorem mok_94 : MOK 94 := by
  obtain ⟨h1, h2, h3⟩ := chkM_ok chk_94 (fun n h => (nn h : cdZ94 n = none))
  exact ⟨by decide +kernel, rfl, inT (i := 816) (by decide +kernel) rfl, h1, h2, h3, Nat.le_of_ble_eq_true rfl, ⟨by decide +kernel, by decide +kernel⟩, inT (i := 1) (by decide +kernel) rfl, rfl, Nat.lt_of_succ_le (Nat.le_of_ble_eq_true rfl)⟩
theorem chk_95 : chkM (methZ 95) (bZ 95) (yZ 95).name 12 = true := by decide +kernel
theorem mok_95 : MOK 95 := by
  obtain ⟨h1, h2, h3⟩ := chkM_ok chk_95 (fun n h => (nn h : cdZ95 n = none))
  exact ⟨by decide +kernel, rfl, inT (i := 821) (by decide +kernel) rfl, h1, h2, h3, Nat.le_of_ble_eq_true rfl, ⟨by decide +kernel, by decide +kernel⟩, inT (i := 9) (by decide +kernel) rfl, rfl, Nat.lt_of_succ_le (Nat.le_of_ble_eq_true rfl)⟩
theorem chk_96 : chkM (methZ 96) (bZ 96) (yZ 96).name 29 = true := by decide +kernel
theorem mok_96 : MOK 96 := by
  obtain ⟨h1, h2, h3⟩ := chkM_ok chk_96 (fun n h => (nn h : cdZ96 n = none))
  exact ⟨by decide +kernel, rfl, inT (i := 827) (by decide +kernel) rfl, h1, h2, h3, Nat.le_of_ble_eq_true rfl, ⟨by decide +kernel, by decide +kernel⟩, inT (i := 1) (by decide +kernel) rfl, rfl, Nat.lt_of_succ_le (Nat.le_of_ble_eq_true rfl)⟩
theorem chk_97 : chkM (methZ 97) (bZ 97) (yZ 97).name 36 = true := by decide +kernel
theorem mok_97 : MOK 97 := by
  obtain ⟨h1, h2, h3⟩ := chkM_ok chk_97 (fun n h => (nn h : cdZ97 n = none))
  exact ⟨by decide +kernel, rfl, inT (i := 832) (by decide +kernel) rfl, h1, h2, h3, Nat.le_of_ble_eq_true rfl, ⟨by decide +kernel, by decide +kernel⟩, inT (i := 1) (by decide +kernel) rfl, rfl, Nat.lt_of_succ_le (Nat.le_of_ble_eq_true rfl)⟩
theorem chk_98 : chkM (methZ 98) (bZ 98) (yZ 98).name 56 = true := by decide +kernel
theorem mok_98 : MOK 98 := by
  obtain ⟨h1, h2, h3⟩ := chkM_ok chk_98 (fun n h => (nn h : cdZ98 n = none))
  exact ⟨by decide +kernel, rfl, inT (i := 836) (by decide +kernel) rfl, h1, h2, h3, Nat.le_of_ble_eq_true rfl, ⟨by decide +kernel, by decide +kernel⟩, inT (i := 11) (by decide +kernel) rfl, rfl, Nat.lt_of_succ_le (Nat.le_of_ble_eq_true rfl)⟩
theorem chk_99 : chkM (methZ 99) (bZ 99) (yZ 99).name 76 = true := by decide +kernel
theorem mok_99 : MOK 99 := by
  obtain ⟨h1, h2, h3⟩ := chkM_ok chk_99 (fun n h => (nn h : cdZ99 n = none))
  exact ⟨by decide +kernel, rfl, inT (i := 840) (by decide +kernel) rfl, h1, h2, h3, Nat.le_of_ble_eq_true rfl, ⟨by decide +kernel, by decide +kernel⟩, inT (i := 1) (by decide +kernel) rfl, rfl, Nat.lt_of_succ_le (Nat.le_of_ble_eq_true rfl)⟩
theorem chk_100 : chkM (methZ 100) (bZ 100) (yZ 100).name 81 = true := by decide +kernel
theorem mok_100 : MOK 100 := by
  obtain ⟨h1, h2, h3⟩ := chkM_ok chk_100 (fun n h => (nn h : cdZ100 n = none))
  exact ⟨by decide +kernel, rfl, inT (i := 844) (by decide +kernel) rfl, h1, h2, h3, Nat.le_of_ble_eq_true rfl, ⟨by decide +kernel, by decide +kernel⟩, inT (i := 9) (by decide +kernel) rfl, rfl, Nat.lt_of_succ_le (Nat.le_of_ble_eq_true rfl)⟩
theorem chk_101 : chkM (methZ 101) (bZ 101) (yZ 101).name 29 = true := by decide +kernel
theorem mok_101 : MOK 101 := by
  obtain ⟨h1, h2, h3⟩ := chkM_ok chk_101 (fun n h => (nn h : cdZ101 n = none))
  exact ⟨by decide +kernel, rfl, inT (i := 849) (by decide +kernel) rfl, h1, h2, h3, Nat.le_of_ble_eq_true rfl, ⟨by decide +kernel, by decide +kernel⟩, inT (i := 1) (by decide +kernel) rfl, rfl, Nat.lt_of_succ_le (Nat.le_of_ble_eq_true rfl)⟩
theorem chk_102 : chkM (methZ 102) (bZ 102) (yZ 102).name 124 = true := by decide +kernel
theorem mok_102 : MOK 102 := by
  obtain ⟨h1, h2, h3⟩ := chkM_ok chk_102 (fun n h => (nn h : cdZ102 n = none))
  exact ⟨by decide +kernel, rfl, inT (i := 853) (by decide +kernel) rfl, h1, h2, h3, Nat.le_of_ble_eq_true rfl, ⟨by decide +kernel, by decide +kernel⟩, inT (i := 1) (by decide +kernel) rfl, rfl, Nat.lt_of_succ_le (Nat.le_of_ble_eq_true rfl)⟩
theorem chk_103 : chkM (methZ 103) (bZ 103) (yZ 103).name 39 = true := by decide +kernel
theorem mok_103 : MOK 103 := by
  obtain ⟨h1, h2, h3⟩ := chkM_ok chk_103 (fun n h => (nn h : cdZ103 n = none))
  exact ⟨by decide +kernel, rfl, inT (i := 857) (by decide +kernel) rfl, h1, h2, h3, Nat.le_of_ble_eq_true rfl, ⟨by decide +kernel, by decide +kernel⟩, inT (i := 9) (by decide +kernel) rfl, rfl, Nat.lt_of_succ_le (Nat.le_of_ble_eq_true rfl)⟩
theorem chk_104 : chkM (methZ 104) (bZ 104) (yZ 104).name 126 = true := by decide +kernel
theorem mok_104 : MOK 104 := by
  obtain ⟨h1, h2, h3⟩ := chkM_ok chk_104 (fun n h => (nn h : cdZ104 n = none))
  exact ⟨by decide +kernel, rfl, inT (i := 863) (by decide +kernel) rfl, h1, h2, h3, Nat.le_of_ble_eq_true rfl, ⟨by decide +kernel, by decide +kernel⟩, inT (i := 1) (by decide +kernel) rfl, rfl, Nat.lt_of_succ_le (Nat.le_of_ble_eq_true rfl)⟩
theorem chk_105 : chkM (methZ 105) (bZ 105) (yZ 105).name 96 = true := by decide +kernel
theorem mok_105 : MOK 105 := by
  obtain ⟨h1, h2, h3⟩ := chkM_ok chk_105 (fun n h => (nn h : cdZ105 n = none))
  exact ⟨by decide +kernel, rfl, inT (i := 868) (by decide +kernel) rfl, h1, h2, h3, Nat.le_of_ble_eq_true rfl, ⟨by decide +kernel, by decide +kernel⟩, inT (i := 1) (by decide +kernel) rfl, rfl, Nat.lt_of_succ_le (Nat.le_of_ble_eq_true rfl)⟩
theorem chk_106 : chkM (methZ 106) (bZ 106) (yZ 106).name 27 = true := by decide +kernel
theorem mok_106 : MOK 106 := by
  obtain ⟨h1, h2, h3⟩ := chkM_ok chk_106 (fun n h => (nn h : cdZ106 n = none))
  exact ⟨by decide +kernel, rfl, inT (i := 873) (by decide +kernel) rfl, h1, h2, h3, Nat.le_of_ble_eq_true rfl, ⟨by decide +kernel, by decide +kernel⟩, inT (i := 1) (by decide +kernel) rfl, rfl, Nat.lt_of_succ_le (Nat.le_of_ble_eq_true rfl)⟩
theorem chk_107 : chkM (methZ 107) (bZ 107) (yZ 107).name 16 = true := by decide +kernel
theorem mok_107 : MOK 107 := by
  obtain ⟨h1, h2, h3⟩ := chkM_ok chk_107 (fun n h => (nn h : cdZ107 n = none))
  exact ⟨by decide +kernel, rfl, inT (i := 876) (by decide +kernel) rfl, h1, h2, h3, Nat.le_of_ble_eq_true rfl, ⟨by decide +kernel, by decide +kernel⟩, inT (i := 1) (by decide +kernel) rfl, rfl, Nat.lt_of_succ_le (Nat.le_of_ble_eq_true rfl)⟩
theorem chk_108 : chkM (methZ 108) (bZ 108) (yZ 108).name 49 = true := by decide +kernel
theorem mok_108 : MOK 108 := by
  obtain ⟨h1, h2, h3⟩ := chkM_ok chk_108 (fun n h => (nn h : cdZ108 n = none))
  exact ⟨by decide +kernel, rfl, inT (i := 882) (by decide +kernel) rfl, h1, h2, h3, Nat.le_of_ble_eq_true rfl, ⟨by decide +kernel, by decide +kernel⟩, inT (i := 1) (by decide +kernel) rfl, rfl, Nat.lt_of_succ_le (Nat.le_of_ble_eq_true rfl)⟩
theorem chk_109 : chkM (methZ 109) (bZ 109) (yZ 109).name 25 = true := by decide +kernel
theorem mok_109 : MOK 109 := by
  obtain ⟨h1, h2, h3⟩ := chkM_ok chk_109 (fun n h => (nn h : cdZ109 n = none))
  exact ⟨by decide +kernel, rfl, inT (i := 886) (by decide +kernel) rfl, h1, h2, h3, Nat.le_of_ble_eq_true rfl, ⟨by decide +kernel, by decide +kernel⟩, inT (i := 1) (by decide +kernel) rfl, rfl, Nat.lt_of_succ_le (Nat.le_of_ble_eq_true rfl)⟩
theorem chk_110 : chkM (methZ 110) (bZ 110) (yZ 110).name 31 = true := by decide +kernel
theorem mok_110 : MOK 110 := by
  obtain ⟨h1, h2, h3⟩ := chkM_ok chk_110 (fun n h => (nn h : cdZ110 n = none))
  exact ⟨by decide +kernel, rfl, inT (i := 890) (by decide +kernel) rfl, h1, h2, h3, Nat.le_of_ble_eq_true rfl, ⟨by decide +kernel, by decide +kernel⟩, inT (i := 9) (by decide +kernel) rfl, rfl, Nat.lt_of_succ_le (Nat.le_of_ble_eq_true rfl)⟩
theorem chk_111 : chkM (methZ 111) (bZ 111) (yZ 111).name 99 = true := by decide +kernel
theorem mok_111 : MOK 111 := by
  obtain ⟨h1, h2, h3⟩ := chkM_ok chk_111 (fun n h => (nn h : cdZ111 n = none))
  exact ⟨by decide +kernel, rfl, inT (i := 896) (by decide +kernel) rfl, h1, h2, h3, Nat.le_of_ble_eq_true rfl, ⟨by decide +kernel, by decide +kernel⟩, inT (i := 1) (by decide +kernel) rfl, rfl, Nat.lt_of_succ_le (Nat.le_of_ble_eq_true rfl)⟩
theorem chk_112 : chkM (methZ 112) (bZ 112) (yZ 112).name 53 = true := by decide +kernel
theorem mok_112 : MOK 112 := by
  obtain ⟨h1, h2, h3⟩ := chkM_ok chk_112 (fun n h => (nn h : cdZ112 n = none))
  exact ⟨by decide +kernel, rfl, inT (i := 900) (by decide +kernel) rfl, h1, h2, h3, Nat.le_of_ble_eq_true rfl, ⟨by decide +kernel, by decide +kernel⟩, inT (i := 20) (by decide +kernel) rfl, rfl, Nat.lt_of_succ_le (Nat.le_of_ble_eq_true rfl)⟩
theorem chk_113 : chkM (methZ 113) (bZ 113) (yZ 113).name 54 = true := by decide +kernel
theorem mok_113 : MOK 113 := by
  obtain ⟨h1, h2, h3⟩ := chkM_ok chk_113 (fun n h => (nn h : cdZ113 n = none))
  exact ⟨by decide +kernel, rfl, inT (i := 907) (by decide +kernel) rfl, h1, h2, h3, Nat.le_of_ble_eq_true rfl, ⟨by decide +kernel, by decide +kernel⟩, inT (i := 1) (by decide +kernel) rfl, rfl, Nat.lt_of_succ_le (Nat.le_of_ble_eq_true rfl)⟩
theorem chk_114 : chkM (methZ 114) (bZ 114) (yZ 114).name 39 = true := by decide +kernel
theorem mok_114 : MOK 114 := by
  obtain ⟨h1, h2, h3⟩ := chkM_ok chk_114 (fun n h => (nn h : cdZ114 n = none))
  exact ⟨by decide +kernel, rfl, inT (i := 911) (by decide +kernel) rfl, h1, h2, h3, Nat.le_of_ble_eq_true rfl, ⟨by decide +kernel, by decide +kernel⟩, inT (i := 9) (by decide +kernel) rfl, rfl, Nat.lt_of_succ_le (Nat.le_of_ble_eq_true rfl)⟩
theorem chk_115 : chkM (methZ 115) (bZ 115) (yZ 115).name 70 = true := by decide +kernel
theorem mok_115 : MOK 115 := by
  obtain ⟨h1, h2, h3⟩ := chkM_ok chk_115 (fun n h => (nn h : cdZ115 n = none))
  exact ⟨by decide +kernel, rfl, inT (i := 915) (by decide +kernel) rfl, h1, h2, h3, Nat.le_of_ble_eq_true rfl, ⟨by decide +kernel, by decide +kernel⟩, inT (i := 9) (by decide +kernel) rfl, rfl, Nat.lt_of_succ_le (Nat.le_of_ble_eq_true rfl)⟩
theorem chk_116 : chkM (methZ 116) (bZ 116) (yZ 116).name 66 = true := by decide +kernel
theorem mok_116 : MOK 116 := by
  obtain ⟨h1, h2, h3⟩ := chkM_ok chk_116 (fun n h => (nn h : cdZ116 n = none))
  exact ⟨by decide +kernel, rfl, inT (i := 920) (by decide +kernel) rfl, h1, h2, h3, Nat.le_of_ble_eq_true rfl, ⟨by decide +kernel, by decide +kernel⟩, inT (i := 1) (by decide +kernel) rfl, rfl, Nat.lt_of_succ_le (Nat.le_of_ble_eq_true rfl)⟩
theorem chk_117 : chkM (methZ 117) (bZ 117) (yZ 117).name 49 = true := by decide +kernel
theorem mok_117 : MOK 117 := by
  obtain ⟨h1, h2, h3⟩ := chkM_ok chk_117 (fun n h => (nn h : cdZ117 n = none))
  exact ⟨by decide +kernel, rfl, inT (i := 924) (by decide +kernel) rfl, h1, h2, h3, Nat.le_of_ble_eq_true rfl, ⟨by decide +kernel, by decide +kernel⟩, inT (i := 9) (by decide +kernel) rfl, rfl, Nat.lt_of_succ_le (Nat.le_of_ble_eq_true rfl)⟩
theorem chk_118 : chkM (methZ 118) (bZ 118) (yZ 118).name 76 = true := by decide +kernel
theorem mok_118 : MOK 118 := by
  obtain ⟨h1, h2, h3⟩ := chkM_ok chk_118 (fun n h => (nn h : cdZ118 n = none))
  exact ⟨by decide +kernel, rfl, inT (i := 929) (by decide +kernel) rfl, h1, h2, h3, Nat.le_of_ble_eq_true rfl, ⟨by decide +kernel, by decide +kernel⟩, inT (i := 1) (by decide +kernel) rfl, rfl, Nat.lt_of_succ_le (Nat.le_of_ble_eq_true rfl)⟩
theorem chk_119 : chkM (methZ 119) (bZ 119) (yZ 119).name 39 = true := by decide +kernel
theorem mok_119 : MOK 119 := by
  obtain ⟨h1, h2, h3⟩ := chkM_ok chk_119 (fun n h => (nn h : cdZ119 n = none))
  exact ⟨by decide +kernel, rfl, inT (i := 935) (by decide +kernel) rfl, h1, h2, h3, Nat.le_of_ble_eq_true rfl, ⟨by decide +kernel, by decide +kernel⟩, inT (i := 1) (by decide +kernel) rfl, rfl, Nat.lt_of_succ_le (Nat.le_of_ble_eq_true rfl)⟩
theorem chk_120 : chkM (methZ 120) (bZ 120) (yZ 120).name 55 = true := by decide +kernel
theorem mok_120 : MOK 120 := by
  obtain ⟨h1, h2, h3⟩ := chkM_ok chk_120 (fun n h => (nn h : cdZ120 n = none))
  exact ⟨by decide +kernel, rfl, inT (i := 939) (by decide +kernel) rfl, h1, h2, h3, Nat.le_of_ble_eq_true rfl, ⟨by decide +kernel, by decide +kernel⟩, inT (i := 9) (by decide +kernel) rfl, rfl, Nat.lt_of_succ_le (Nat.le_of_ble_eq_true rfl)⟩
theorem chk_121 : chkM (methZ 121) (bZ 121) (yZ 121).name 170 = true := by decide +kernel
theorem mok_121 : MOK 121 := by
  obtain ⟨h1, h2, h3⟩ := chkM_ok chk_121 (fun n h => (nn h : cdZ121 n = none))
  exact ⟨by decide +kernel, rfl, inT (i := 944) (by decide +kernel) rfl, h1, h2, h3, Nat.le_of_ble_eq_true rfl, ⟨by decide +kernel, by decide +kernel⟩, inT (i := 1) (by decide +kernel) rfl, rfl, Nat.lt_of_succ_le (Nat.le_of_ble_eq_true rfl)⟩
theorem chk_122 : chkM (methZ 122) (bZ 122) (yZ 122).name 23 = true := by decide +kernel
theorem mok_122 : MOK 122 := by
  obtain ⟨h1, h2, h3⟩ := chkM_ok chk_122 (fun n h => (nn h : cdZ122 n = none))
  exact ⟨by decide +kernel, rfl, inT (i := 948) (by decide +kernel) rfl, h1, h2, h3, Nat.le_of_ble_eq_true rfl, ⟨by decide +kernel, by decide +kernel⟩, inT (i := 10) (by decide +kernel) rfl, rfl, Nat.lt_of_succ_le (Nat.le_of_ble_eq_true rfl)⟩
theorem chk_123 : chkM (methZ 123) (bZ 123) (yZ 123).name 42 = true := by decide +kernel
theorem mok_123 : MOK 123 := by
  obtain ⟨h1, h2, h3⟩ := chkM_ok chk_123 (fun n h => (nn h : cdZ123 n = none))
  exact ⟨by decide +kernel, rfl, inT (i := 954) (by decide +kernel) rfl, h1, h2, h3, Nat.le_of_ble_eq_true rfl, ⟨by decide +kernel, by decide +kernel⟩, inT (i := 1) (by decide +kernel) rfl, rfl, Nat.lt_of_succ_le (Nat.le_of_ble_eq_true rfl)⟩
theorem chk_124 : chkM (methZ 124) (bZ 124) (yZ 124).name 95 = true := by decide +kernel
theorem mok_124 : MOK 124 := by
  obtain ⟨h1, h2, h3⟩ := chkM_ok chk_124 (fun n h => (nn h : cdZ124 n = none))
  exact ⟨by decide +kernel, rfl, inT (i := 959) (by decide +kernel) rfl, h1, h2, h3, Nat.le_of_ble_eq_true rfl, ⟨by decide +kernel, by decide +kernel⟩, inT (i := 1) (by decide +kernel) rfl, rfl, Nat.lt_of_succ_le (Nat.le_of_ble_eq_true rfl)⟩
theorem chk_125 : chkM (methZ 125) (bZ 125) (yZ 125).name 6 = true := by decide +kernel
theorem mok_125 : MOK 125 := by
  obtain ⟨h1, h2, h3⟩ := chkM_ok chk_125 (fun n h => (nn h : cdZ125 n = none))
  exact ⟨by decide +kernel, rfl, inT (i := 964) (by decide +kernel) rfl, h1, h2, h3, Nat.le_of_ble_eq_true rfl, ⟨by decide +kernel, by decide +kernel⟩, inT (i := 13) (by decide +kernel) rfl, rfl, Nat.lt_of_succ_le (Nat.le_of_ble_eq_true rfl)⟩
theorem chk_126 : chkM (methZ 126) (bZ 126) (yZ 126).name 141 = true := by decide +kernel
theorem mok_126 : MOK 126 := by
  obtain ⟨h1, h2, h3⟩ := chkM_ok chk_126 (fun n h => (nn h : cdZ126 n = none))
  exact ⟨by decide +kernel, rfl, inT (i := 968) (by decide +kernel) rfl, h1, h2, h3, Nat.le_of_ble_eq_true rfl, ⟨by decide +kernel, by decide +kernel⟩, inT (i := 13) (by decide +kernel) rfl, rfl, Nat.lt_of_succ_le (Nat.le_of_ble_eq_true rfl)⟩
theorem chk_127 : chkM (methZ 127) (bZ 127) (yZ 127).name 34 = true := by decide +kernel
theorem mok_127 : MOK 127 := by
  obtain ⟨h1, h2, h3⟩ := chkM_ok chk_127 (fun n h => (nn h : cdZ127 n = none))
  exact ⟨by decide +kernel, rfl, inT (i := 972) (by decide +kernel) rfl, h1, h2, h3, Nat.le_of_ble_eq_true rfl, ⟨by decide +kernel, by decide +kernel⟩, inT (i := 13) (by decide +kernel) rfl, rfl, Nat.lt_of_succ_le (Nat.le_of_ble_eq_true rfl)⟩
theorem chk_128 : chkM (methZ 128) (bZ 128) (yZ 128).name 72 = true := by decide +kernel
theorem mok_128 : MOK 128 := by
  obtain ⟨h1, h2, h3⟩ := chkM_ok chk_128 (fun n h => (nn h : cdZ128 n = none))
  exact ⟨by decide +kernel, rfl, inT (i := 983) (by decide +kernel) rfl, h1, h2, h3, Nat.le_of_ble_eq_true rfl, ⟨by decide +kernel, by decide +kernel⟩, inT (i := 13) (by decide +kernel) rfl, rfl, Nat.lt_of_succ_le (Nat.le_of_ble_eq_true rfl)⟩
theorem chk_129 : chkM (methZ 129) (bZ 129) (yZ 129).name 21 = true := by decide +kernel
theorem mok_129 : MOK 129 := by
  obtain ⟨h1, h2, h3⟩ := chkM_ok chk_129 (fun n h => (nn h : cdZ129 n = none))
  exact ⟨by decide +kernel, rfl, inT (i := 990) (by decide +kernel) rfl, h1, h2, h3, Nat.le_of_ble_eq_true rfl, ⟨by decide +kernel, by decide +kernel⟩, inT (i := 1) (by decide +kernel) rfl, rfl, Nat.lt_of_succ_le (Nat.le_of_ble_eq_true rfl)⟩
theorem chk_130 : chkM (methZ 130) (bZ 130) (yZ 130).name 59 = true := by decide +kernel
theorem mok_130 : MOK 130 := by
  obtain ⟨h1, h2, h3⟩ := chkM_ok chk_130 (fun n h => (nn h : cdZ130 n = none))
  exact ⟨by decide +kernel, rfl, inT (i := 994) (by decide +kernel) rfl, h1, h2, h3, Nat.le_of_ble_eq_true rfl, ⟨by decide +kernel, by decide +kernel⟩, inT (i := 13) (by decide +kernel) rfl, rfl, Nat.lt_of_succ_le (Nat.le_of_ble_eq_true rfl)⟩
theorem chk_131 : chkM (methZ 131) (bZ 131) (yZ 131).name 78 = true := by decide +kernel
theorem mok_131 : MOK 131 := by
  obtain ⟨h1, h2, h3⟩ := chkM_ok chk_131 (fun n h => (nn h : cdZ131 n = none))
  exact ⟨by decide +kernel, rfl, inT (i := 998) (by decide +kernel) rfl, h1, h2, h3, Nat.le_of_ble_eq_true rfl, ⟨by decide +kernel, by decide +kernel⟩, inT (i := 1) (by decide +kernel) rfl, rfl, Nat.lt_of_succ_le (Nat.le_of_ble_eq_true rfl)⟩
theorem chk_132 : chkM (methZ 132) (bZ 132) (yZ 132).name 27 = true := by decide +kernel
theorem mok_132 : MOK 132 := by
  obtain ⟨h1, h2, h3⟩ := chkM_ok chk_132 (fun n h => (nn h : cdZ132 n = none))
  exact ⟨by decide +kernel, rfl, inT (i := 1002) (by decide +kernel) rfl, h1, h2, h3, Nat.le_of_ble_eq_true rfl, ⟨by decide +kernel, by decide +kernel⟩, inT (i := 21) (by decide +kernel) rfl, rfl, Nat.lt_of_succ_le (Nat.le_of_ble_eq_true rfl)⟩
theorem chk_133 : chkM (methZ 133) (bZ 133) (yZ 133).name 57 = true := by decide +kernel
theorem mok_133 : MOK 133 := by
  obtain ⟨h1, h2, h3⟩ := chkM_ok chk_133 (fun n h => (nn h : cdZ133 n = none))
  exact ⟨by decide +kernel, rfl, inT (i := 1020) (by decide +kernel) rfl, h1, h2, h3, Nat.le_of_ble_eq_true rfl, ⟨by decide +kernel, by decide +kernel⟩, inT (i := 7) (by decide +kernel) rfl, rfl, Nat.lt_of_succ_le (Nat.le_of_ble_eq_true rfl)⟩
theorem chk_134 : chkM (methZ 134) (bZ 134) (yZ 134).name 80 = true := by decide +kernel
theorem mok_134 : MOK 134 := by
  obtain ⟨h1, h2, h3⟩ := chkM_ok chk_134 (fun n h => (nn h : cdZ134 n = none))
  exact ⟨by decide +kernel, rfl, inT (i := 1025) (by decide +kernel) rfl, h1, h2, h3, Nat.le_of_ble_eq_true rfl, ⟨by decide +kernel, by decide +kernel⟩, inT (i := 1) (by decide +kernel) rfl, rfl, Nat.lt_of_succ_le (Nat.le_of_ble_eq_true rfl)⟩
theorem chk_135 : chkM (methZ 135) (bZ 135) (yZ 135).name 152 = true := by decide +kernel
theorem mok_135 : MOK 135 := by
  obtain ⟨h1, h2, h3⟩ := chkM_ok chk_135 (fun n h => (nn h : cdZ135 n = none))
  exact ⟨by decide +kernel, rfl, inT (i := 1029) (by decide +kernel) rfl, h1, h2, h3, Nat.le_of_ble_eq_true rfl, ⟨by decide +kernel, by decide +kernel⟩, inT (i := 1) (by decide +kernel) rfl, rfl, Nat.lt_of_succ_le (Nat.le_of_ble_eq_true rfl)⟩
theorem chk_136 : chkM (methZ 136) (bZ 136) (yZ 136).name 35 = true := by decide +kernel
theorem mok_136 : MOK 136 := by
  obtain ⟨h1, h2, h3⟩ := chkM_ok chk_136 (fun n h => (nn h : cdZ136 n = none))
  exact ⟨by decide +kernel, rfl, inT (i := 1033) (by decide +kernel) rfl, h1, h2, h3, Nat.le_of_ble_eq_true rfl, ⟨by decide +kernel, by decide +kernel⟩, inT (i := 9) (by decide +kernel) rfl, rfl, Nat.lt_of_succ_le (Nat.le_of_ble_eq_true rfl)⟩
theorem chk_137 : chkM (methZ 137) (bZ 137) (yZ 137).name 51 = true := by decide +kernel
theorem mok_137 : MOK 137 := by
  obtain ⟨h1, h2, h3⟩ := chkM_ok chk_137 (fun n h => (nn h : cdZ137 n = none))
  exact ⟨by decide +kernel, rfl, inT (i := 1038) (by decide +kernel) rfl, h1, h2, h3, Nat.le_of_ble_eq_true rfl, ⟨by decide +kernel, by decide +kernel⟩, inT (i := 1) (by decide +kernel) rfl, rfl, Nat.lt_of_succ_le (Nat.le_of_ble_eq_true rfl)⟩
theorem chk_138 : chkM (methZ 138) (bZ 138) (yZ 138).name 5 = true := by decide +kernel
theorem mok_138 : MOK 138 := by
  obtain ⟨h1, h2, h3⟩ := chkM_ok chk_138 (fun n h => (nn h : cdZ138 n = none))
  exact ⟨by decide +kernel, rfl, inT (i := 1042) (by decide +kernel) rfl, h1, h2, h3, Nat.le_of_ble_eq_true rfl, ⟨by decide +kernel, by decide +kernel⟩, inT (i := 1) (by decide +kernel) rfl, rfl, Nat.lt_of_succ_le (Nat.le_of_ble_eq_true rfl)⟩
theorem chk_139 : chkM (methZ 139) (bZ 139) (yZ 139).name 412 = true := by decide +kernel
theorem mok_139 : MOK 139 := by
  obtain ⟨h1, h2, h3⟩ := chkM_ok chk_139 (fun n h => (nn h : cdZ139 n = none))
  exact ⟨by decide +kernel, rfl, inT (i := 1047) (by decide +kernel) rfl, h1, h2, h3, Nat.le_of_ble_eq_true rfl, ⟨by decide +kernel, by decide +kernel⟩, inT (i := 14) (by decide +kernel) rfl, rfl, Nat.lt_of_succ_le (Nat.le_of_ble_eq_true rfl)⟩
theorem chk_140 : chkM (methZ 140) (bZ 140) (yZ 140).name 7 = true := by decide +kernel
theorem mok_140 : MOK 140 := by
  obtain ⟨h1, h2, h3⟩ := chkM_ok chk_140 (fun n h => (nn h : cdZ140 n = none))
  exact ⟨by decide +kernel, rfl, inT (i := 1068) (by decide +kernel) rfl, h1, h2, h3, Nat.le_of_ble_eq_true rfl, ⟨by decide +kernel, by decide +kernel⟩, inT (i := 14) (by decide +kernel) rfl, rfl, Nat.lt_of_succ_le (Nat.le_of_ble_eq_true rfl)⟩
theorem chk_141 : chkM (methZ 141) (bZ 141) (yZ 141).name 51 = true := by decide +kernel
theorem mok_141 : MOK 141 := by
  obtain ⟨h1, h2, h3⟩ := chkM_ok chk_141 (fun n h => (nn h : cdZ141 n = none))
  exact ⟨by decide +kernel, rfl, inT (i := 1245) (by decide +kernel) rfl, h1, h2, h3, Nat.le_of_ble_eq_true rfl, ⟨by decide +kernel, by decide +kernel⟩, inT (i := 14) (by decide +kernel) rfl, rfl, Nat.lt_of_succ_le (Nat.le_of_ble_eq_true rfl)⟩
theorem chk_142 : chkM (methZ 142) (bZ 142) (yZ 142).name 30 = true := by decide +kernel
theorem mok_142 : MOK 142 := by
  obtain ⟨h1, h2, h3⟩ := chkM_ok chk_142 (fun n h => (nn h : cdZ142 n = none))
  exact ⟨by decide +kernel, rfl, inT (i := 1249) (by decide +kernel) rfl, h1, h2, h3, Nat.le_of_ble_eq_true rfl, ⟨by decide +kernel, by decide +kernel⟩, inT (i := 14) (by decide +kernel) rfl, rfl, Nat.lt_of_succ_le (Nat.le_of_ble_eq_true rfl)⟩
theorem chk_143 : chkM (methZ 143) (bZ 143) (yZ 143).name 36 = true := by decide +kernel
theorem mok_143 : MOK 143 := by
  obtain ⟨h1, h2, h3⟩ := chkM_ok chk_143 (fun n h => (nn h : cdZ143 n = none))
  exact ⟨by decide +kernel, rfl, inT (i := 1253) (by decide +kernel) rfl, h1, h2, h3, Nat.le_of_ble_eq_true rfl, ⟨by decide +kernel, by decide +kernel⟩, inT (i := 14) (by decide +kernel) rfl, rfl, Nat.lt_of_succ_le (Nat.le_of_ble_eq_true rfl)⟩
theorem chk_144 : chkM (methZ 144) (bZ 144) (yZ 144).name 67 = true := by decide +kernel
theorem mok_144 : MOK 144 := by
  obtain ⟨h1, h2, h3⟩ := chkM_ok chk_144 (fun n h => (nn h : cdZ144 n = none))
  exact ⟨by decide +kernel, rfl, inT (i := 1257) (by decide +kernel) rfl, h1, h2, h3, Nat.le_of_ble_eq_true rfl, ⟨by decide +kernel, by decide +kernel⟩, inT (i := 14) (by decide +kernel) rfl, rfl, Nat.lt_of_succ_le (Nat.le_of_ble_eq_true rfl)⟩
theorem chk_145 : chkM (methZ 145) (bZ 145) (yZ 145).name 19 = true := by decide +kernel
theorem mok_145 : MOK 145 := by
  obtain ⟨h1, h2, h3⟩ := chkM_ok chk_145 (fun n h => (nn h : cdZ145 n = none))
  exact ⟨by decide +kernel, rfl, inT (i := 1260) (by decide +kernel) rfl, h1, h2, h3, Nat.le_of_ble_eq_true rfl, ⟨by decide +kernel, by decide +kernel⟩, inT (i := 14) (by decide +kernel) rfl, rfl, Nat.lt_of_succ_le (Nat.le_of_ble_eq_true rfl)⟩
theorem chk_146 : chkM (methZ 146) (bZ 146) (yZ 146).name 81 = true := by decide +kernel
theorem mok_146 : MOK 146 := by
  obtain ⟨h1, h2, h3⟩ := chkM_ok chk_146 (fun n h => (nn h : cdZ146 n = none))
  exact ⟨by decide +kernel, rfl, inT (i := 1264) (by decide +kernel) rfl, h1, h2, h3, Nat.le_of_ble_eq_true rfl, ⟨by decide +kernel, by decide +kernel⟩, inT (i := 14) (by decide +kernel) rfl, rfl, Nat.lt_of_succ_le (Nat.le_of_ble_eq_true rfl)⟩
theorem chk_147 : chkM (methZ 147) (bZ 147) (yZ 147).name 82 = true := by decide +kernel
theorem mok_147 : MOK 147 := by
  obtain ⟨h1, h2, h3⟩ := chkM_ok chk_147 (fun n h => (nn h : cdZ147 n = none))
  exact ⟨by decide +kernel, rfl, inT (i := 1268) (by decide +kernel) rfl, h1, h2, h3, Nat.le_of_ble_eq_true rfl, ⟨by decide +kernel, by decide +kernel⟩, inT (i := 14) (by decide +kernel) rfl, rfl, Nat.lt_of_succ_le (Nat.le_of_ble_eq_true rfl)⟩
theorem chk_148 : chkM (methZ 148) (bZ 148) (yZ 148).name 21 = true := by decide +kernel
theorem mok_148 : MOK 148 := by
  obtain ⟨h1, h2, h3⟩ := chkM_ok chk_148 (fun n h => (nn h : cdZ148 n = none))
  exact ⟨by decide +kernel, rfl, inT (i := 1275) (by decide +kernel) rfl, h1, h2, h3, Nat.le_of_ble_eq_true rfl, ⟨by decide +kernel, by decide +kernel⟩, inT (i := 14) (by decide +kernel) rfl, rfl, Nat.lt_of_succ_le (Nat.le_of_ble_eq_true rfl)⟩
theorem chk_149 : chkM (methZ 149) (bZ 149) (yZ 149).name 52 = true := by decide +kernel
theorem mok_149 : MOK 149 := by
  obtain ⟨h1, h2, h3⟩ := chkM_ok chk_149 (fun n h => (nn h : cdZ149 n = none))
  exact ⟨by decide +kernel, rfl, inT (i := 1279) (by decide +kernel) rfl, h1, h2, h3, Nat.le_of_ble_eq_true rfl, ⟨by decide +kernel, by decide +kernel⟩, inT (i := 14) (by decide +kernel) rfl, rfl, Nat.lt_of_succ_le (Nat.le_of_ble_eq_true rfl)⟩
theorem chk_150 : chkM (methZ 150) (bZ 150) (yZ 150).name 40 = true := by decide +kernel
theorem mok_150 : MOK 150 := by
  obtain ⟨h1, h2, h3⟩ := chkM_ok chk_150 (fun n h => (nn h : cdZ150 n = none))
  exact ⟨by decide +kernel, rfl, inT (i := 1283) (by decide +kernel) rfl, h1, h2, h3, Nat.le_of_ble_eq_true rfl, ⟨by decide +kernel, by decide +kernel⟩, inT (i := 14) (by decide +kernel) rfl, rfl, Nat.lt_of_succ_le (Nat.le_of_ble_eq_true rfl)⟩
theorem chk_151 : chkM (methZ 151) (bZ 151) (yZ 151).name 26 = true := by decide +kernel
theorem mok_151 : MOK 151 := by
  obtain ⟨h1, h2, h3⟩ := chkM_ok chk_151 (fun n h => (nn h : cdZ151 n = none))
  exact ⟨by decide +kernel, rfl, inT (i := 1287) (by decide +kernel) rfl, h1, h2, h3, Nat.le_of_ble_eq_true rfl, ⟨by decide +kernel, by decide +kernel⟩, inT (i := 14) (by decide +kernel) rfl, rfl, Nat.lt_of_succ_le (Nat.le_of_ble_eq_true rfl)⟩
theorem chk_152 : chkM (methZ 152) (bZ 152) (yZ 152).name 10 = true := by decide +kernel
theorem mok_152 : MOK 152 := by
  obtain ⟨h1, h2, h3⟩ := chkM_ok chk_152 (fun n h => (nn h : cdZ152 n = none))
  exact ⟨by decide +kernel, rfl, inT (i := 1291) (by decide +kernel) rfl, h1, h2, h3, Nat.le_of_ble_eq_true rfl, ⟨by decide +kernel, by decide +kernel⟩, inT (i := 14) (by decide +kernel) rfl, rfl, Nat.lt_of_succ_le (Nat.le_of_ble_eq_true rfl)⟩
theorem chk_153 : chkM (methZ 153) (bZ 153) (yZ 153).name 223 = true := by decide +kernel
theorem mok_153 : MOK 153 := by
  obtain ⟨h1, h2, h3⟩ := chkM_ok chk_153 (fun n h => (nn h : cdZ153 n = none))
  exact ⟨by decide +kernel, rfl, inT (i := 1295) (by decide +kernel) rfl, h1, h2, h3, Nat.le_of_ble_eq_true rfl, ⟨by decide +kernel, by decide +kernel⟩, inT (i := 14) (by decide +kernel) rfl, rfl, Nat.lt_of_succ_le (Nat.le_of_ble_eq_true rfl)⟩
theorem chk_154 : chkM (methZ 154) (bZ 154) (yZ 154).name 25 = true := by decide +kernel
theorem mok_154 : MOK 154 := by
  obtain ⟨h1, h2, h3⟩ := chkM_ok chk_154 (fun n h => (nn h : cdZ154 n = none))
  exact ⟨by decide +kernel, rfl, inT (i := 1299) (by decide +kernel) rfl, h1, h2, h3, Nat.le_of_ble_eq_true rfl, ⟨by decide +kernel, by decide +kernel⟩, inT (i := 14) (by decide +kernel) rfl, rfl, Nat.lt_of_succ_le (Nat.le_of_ble_eq_true rfl)⟩
theorem chk_155 : chkM (methZ 155) (bZ 155) (yZ 155).name 20 = true := by decide +kernel
theorem mok_155 : MOK 155 := by
  obtain ⟨h1, h2, h3⟩ := chkM_ok chk_155 (fun n h => (nn h : cdZ155 n = none))
  exact ⟨by decide +kernel, rfl, inT (i := 1303) (by decide +kernel) rfl, h1, h2, h3, Nat.le_of_ble_eq_true rfl, ⟨by decide +kernel, by decide +kernel⟩, inT (i := 14) (by decide +kernel) rfl, rfl, Nat.lt_of_succ_le (Nat.le_of_ble_eq_true rfl)⟩
theorem chk_156 : chkM (methZ 156) (bZ 156) (yZ 156).name 336 = true := by decide +kernel
theorem mok_156 : MOK 156 := by
  obtain ⟨h1, h2, h3⟩ := chkM_ok chk_156 (fun n h => (nn h : cdZ156 n = none))
  exact ⟨by decide +kernel, rfl, inT (i := 1307) (by decide +kernel) rfl, h1, h2, h3, Nat.le_of_ble_eq_true rfl, ⟨by decide +kernel, by decide +kernel⟩, inT (i := 14) (by decide +kernel) rfl, rfl, Nat.lt_of_succ_le (Nat.le_of_ble_eq_true rfl)⟩
theorem chk_157 : chkM (methZ 157) (bZ 157) (yZ 157).name 18 = true := by decide +kernel
theorem mok_157 : MOK 157 := by
  obtain ⟨h1, h2, h3⟩ := chkM_ok chk_157 (fun n h => (nn h : cdZ157 n = none))
  exact ⟨by decide +kernel, rfl, inT (i := 1310) (by decide +kernel) rfl, h1, h2, h3, Nat.le_of_ble_eq_true rfl, ⟨by decide +kernel, by decide +kernel⟩, inT (i := 14) (by decide +kernel) rfl, rfl, Nat.lt_of_succ_le (Nat.le_of_ble_eq_true rfl)⟩
theorem chk_158 : chkM (methZ 158) (bZ 158) (yZ 158).name 18 = true := by decide +kernel
theorem mok_158 : MOK 158 := by
  obtain ⟨h1, h2, h3⟩ := chkM_ok chk_158 (fun n h => (nn h : cdZ158 n = none))
  exact ⟨by decide +kernel, rfl, inT (i := 1313) (by decide +kernel) rfl, h1, h2, h3, Nat.le_of_ble_eq_true rfl, ⟨by decide +kernel, by decide +kernel⟩, inT (i := 14) (by decide +kernel) rfl, rfl, Nat.lt_of_succ_le (Nat.le_of_ble_eq_true rfl)⟩
theorem chk_159 : chkM (methZ 159) (bZ 159) (yZ 159).name 198 = true := by decide +kernel
theorem mok_159 : MOK 159 := by
  obtain ⟨h1, h2, h3⟩ := chkM_ok chk_159 (fun n h => (nn h : cdZ159 n = none))
  exact ⟨by decide +kernel, rfl, inT (i := 1322) (by decide +kernel) rfl, h1, h2, h3, Nat.le_of_ble_eq_true rfl, ⟨by decide +kernel, by decide +kernel⟩, inT (i := 14) (by decide +kernel) rfl, rfl, Nat.lt_of_succ_le (Nat.le_of_ble_eq_true rfl)⟩
theorem chk_160 : chkM (methZ 160) (bZ 160) (yZ 160).name 23 = true := by decide +kernel
theorem mok_160 : MOK 160 := by
  obtain ⟨h1, h2, h3⟩ := chkM_ok chk_160 (fun n h => (nn h : cdZ160 n = none))
  exact ⟨by decide +kernel, rfl, inT (i := 1326) (by decide +kernel) rfl, h1, h2, h3, Nat.le_of_ble_eq_true rfl, ⟨by decide +kernel, by decide +kernel⟩, inT (i := 14) (by decide +kernel) rfl, rfl, Nat.lt_of_succ_le (Nat.le_of_ble_eq_true rfl)⟩
theorem chk_161 : chkM (methZ 161) (bZ 161) (yZ 161).name 36 = true := by decide +kernel
theorem mok_161 : MOK 161 := by
  obtain ⟨h1, h2, h3⟩ := chkM_ok chk_161 (fun n h => (nn h : cdZ161 n = none))
  exact ⟨by decide +kernel, rfl, inT (i := 1330) (by decide +kernel) rfl, h1, h2, h3, Nat.le_of_ble_eq_true rfl, ⟨by decide +kernel, by decide +kernel⟩, inT (i := 14) (by decide +kernel) rfl, rfl, Nat.lt_of_succ_le (Nat.le_of_ble_eq_true rfl)⟩
theorem chk_162 : chkM (methZ 162) (bZ 162) (yZ 162).name 82 = true := by decide +kernel
theorem mok_162 : MOK 162 := by
  obtain ⟨h1, h2, h3⟩ := chkM_ok chk_162 (fun n h => (nn h : cdZ162 n = none))
  exact ⟨by decide +kernel, rfl, inT (i := 1334) (by decide +kernel) rfl, h1, h2, h3, Nat.le_of_ble_eq_true rfl, ⟨by decide +kernel, by decide +kernel⟩, inT (i := 14) (by decide +kernel) rfl, rfl, Nat.lt_of_succ_le (Nat.le_of_ble_eq_true rfl)⟩
theorem chk_163 : chkM (methZ 163) (bZ 163) (yZ 163).name 45 = true := by decide +kernel
theorem mok_163 : MOK 163 := by
  obtain ⟨h1, h2, h3⟩ := chkM_ok chk_163 (fun n h => (nn h : cdZ163 n = none))
  exact ⟨by decide +kernel, rfl, inT (i := 1338) (by decide +kernel) rfl, h1, h2, h3, Nat.le_of_ble_eq_true rfl, ⟨by decide +kernel, by decide +kernel⟩, inT (i := 14) (by decide +kernel) rfl, rfl, Nat.lt_of_succ_le (Nat.le_of_ble_eq_true rfl)⟩
theorem chk_164 : chkM (methZ 164) (bZ 164) (yZ 164).name 31 = true := by decide +kernel
theorem mok_164 : MOK 164 := by
  obtain ⟨h1, h2, h3⟩ := chkM_ok chk_164 (fun n h => (nn h : cdZ164 n = none))
  exact ⟨by decide +kernel, rfl, inT (i := 1343) (by decide +kernel) rfl, h1, h2, h3, Nat.le_of_ble_eq_true rfl, ⟨by decide +kernel, by decide +kernel⟩, inT (i := 14) (by decide +kernel) rfl, rfl, Nat.lt_of_succ_le (Nat.le_of_ble_eq_true rfl)⟩
theorem chk_165 : chkM (methZ 165) (bZ 165) (yZ 165).name 24 = true := by decide +kernel
theorem mok_165 : MOK 165 := by
  obtain ⟨h1, h2, h3⟩ := chkM_ok chk_165 (fun n h => (nn h : cdZ165 n = none))
  exact ⟨by decide +kernel, rfl, inT (i := 1347) (by decide +kernel) rfl, h1, h2, h3, Nat.le_of_ble_eq_true rfl, ⟨by decide +kernel, by decide +kernel⟩, inT (i := 14) (by decide +kernel) rfl, rfl, Nat.lt_of_succ_le (Nat.le_of_ble_eq_true rfl)⟩
theorem chk_166 : chkM (methZ 166) (bZ 166) (yZ 166).name 42 = true := by decide +kernel
theorem mok_166 : MOK 166 := by
  obtain ⟨h1, h2, h3⟩ := chkM_ok chk_166 (fun n h => (nn h : cdZ166 n = none))
  exact ⟨by decide +kernel, rfl, inT (i := 1351) (by decide +kernel) rfl, h1, h2, h3, Nat.le_of_ble_eq_true rfl, ⟨by decide +kernel, by decide +kernel⟩, inT (i := 14) (by decide +kernel) rfl, rfl, Nat.lt_of_succ_le (Nat.le_of_ble_eq_true rfl)⟩
theorem chk_167 : chkM (methZ 167) (bZ 167) (yZ 167).name 144 = true := by decide +kernel
theorem mok_167 : MOK 167 := by
  obtain ⟨h1, h2, h3⟩ := chkM_ok chk_167 (fun n h => (nn h : cdZ167 n = none))
  exact ⟨by decide +kernel, rfl, inT (i := 1355) (by decide +kernel) rfl, h1, h2, h3, Nat.le_of_ble_eq_true rfl, ⟨by decide +kernel, by decide +kernel⟩, inT (i := 14) (by decide +kernel) rfl, rfl, Nat.lt_of_succ_le (Nat.le_of_ble_eq_true rfl)⟩
theorem chk_168 : chkM (methZ 168) (bZ 168) (yZ 168).name 39 = true := by decide +kernel
theorem mok_168 : MOK 168 := by
  obtain ⟨h1, h2, h3⟩ := chkM_ok chk_168 (fun n h => (nn h : cdZ168 n = none))
  exact ⟨by decide +kernel, rfl, inT (i := 1359) (by decide +kernel) rfl, h1, h2, h3, Nat.le_of_ble_eq_true rfl, ⟨by decide +kernel, by decide +kernel⟩, inT (i := 14) (by decide +kernel) rfl, rfl, Nat.lt_of_succ_le (Nat.le_of_ble_eq_true rfl)⟩
theorem chk_169 : chkM (methZ 169) (bZ 169) (yZ 169).name 39 = true := by decide +kernel
theorem mok_169 : MOK 169 := by
  obtain ⟨h1, h2, h3⟩ := chkM_ok chk_169 (fun n h => (nn h : cdZ169 n = none))
  exact ⟨by decide +kernel, rfl, inT (i := 1363) (by decide +kernel) rfl, h1, h2, h3, Nat.le_of_ble_eq_true rfl, ⟨by decide +kernel, by decide +kernel⟩, inT (i := 14) (by decide +kernel) rfl, rfl, Nat.lt_of_succ_le (Nat.le_of_ble_eq_true rfl)⟩
theorem chk_170 : chkM (methZ 170) (bZ 170) (yZ 170).name 46 = true := by decide +kernel
theorem mok_170 : MOK 170 := by
  obtain ⟨h1, h2, h3⟩ := chkM_ok chk_170 (fun n h => (nn h : cdZ170 n = none))
  exact ⟨by decide +kernel, rfl, inT (i := 1368) (by decide +kernel) rfl, h1, h2, h3, Nat.le_of_ble_eq_true rfl, ⟨by decide +kernel, by decide +kernel⟩, inT (i := 14) (by decide +kernel) rfl, rfl, Nat.lt_of_succ_le (Nat.le_of_ble_eq_true rfl)⟩
theorem chk_171 : chkM (methZ 171) (bZ 171) (yZ 171).name 31 = true := by decide +kernel
theorem mok_171 : MOK 171 := by
  obtain ⟨h1, h2, h3⟩ := chkM_ok chk_171 (fun n h => (nn h : cdZ171 n = none))
  exact ⟨by decide +kernel, rfl, inT (i := 1372) (by decide +kernel) rfl, h1, h2, h3, Nat.le_of_ble_eq_true rfl, ⟨by decide +kernel, by decide +kernel⟩, inT (i := 14) (by decide +kernel) rfl, rfl, Nat.lt_of_succ_le (Nat.le_of_ble_eq_true rfl)⟩
theorem chk_172 : chkM (methZ 172) (bZ 172) (yZ 172).name 39 = true := by decide +kernel
theorem mok_172 : MOK 172 := by
  obtain ⟨h1, h2, h3⟩ := chkM_ok chk_172 (fun n h => (nn h : cdZ172 n = none))
  exact ⟨by decide +kernel, rfl, inT (i := 1377) (by decide +kernel) rfl, h1, h2, h3, Nat.le_of_ble_eq_true rfl, ⟨by decide +kernel, by decide +kernel⟩, inT (i := 14) (by decide +kernel) rfl, rfl, Nat.lt_of_succ_le (Nat.le_of_ble_eq_true rfl)⟩
theorem chk_173 : chkM (methZ 173) (bZ 173) (yZ 173).name 247 = true := by decide +kernel
theorem mok_173 : MOK 173 := by
  obtain ⟨h1, h2, h3⟩ := chkM_ok chk_173 (fun n h => (nn h : cdZ173 n = none))
  exact ⟨by decide +kernel, rfl, inT (i := 1381) (by decide +kernel) rfl, h1, h2, h3, Nat.le_of_ble_eq_true rfl, ⟨by decide +kernel, by decide +kernel⟩, inT (i := 14) (by decide +kernel) rfl, rfl, Nat.lt_of_succ_le (Nat.le_of_ble_eq_true rfl)⟩
theorem chk_174 : chkM (methZ 174) (bZ 174) (yZ 174).name 63 = true := by decide +kernel
theorem mok_174 : MOK 174 := by
  obtain ⟨h1, h2, h3⟩ := chkM_ok chk_174 (fun n h => (nn h : cdZ174 n = none))
  exact ⟨by decide +kernel, rfl, inT (i := 1384) (by decide +kernel) rfl, h1, h2, h3, Nat.le_of_ble_eq_true rfl, ⟨by decide +kernel, by decide +kernel⟩, inT (i := 14) (by decide +kernel) rfl, rfl, Nat.lt_of_succ_le (Nat.le_of_ble_eq_true rfl)⟩
theorem chk_175 : chkM (methZ 175) (bZ 175) (yZ 175).name 102 = true := by decide +kernel
theorem mok_175 : MOK 175 := by
  obtain ⟨h1, h2, h3⟩ := chkM_ok chk_175 (fun n h => (nn h : cdZ175 n = none))
  exact ⟨by decide +kernel, rfl, inT (i := 1388) (by decide +kernel) rfl, h1, h2, h3, Nat.le_of_ble_eq_true rfl, ⟨by decide +kernel, by decide +kernel⟩, inT (i := 14) (by decide +kernel) rfl, rfl, Nat.lt_of_succ_le (Nat.le_of_ble_eq_true rfl)⟩
theorem chk_176 : chkM (methZ 176) (bZ 176) (yZ 176).name 42 = true := by decide +kernel
theorem mok_176 : MOK 176 := by
  obtain ⟨h1, h2, h3⟩ := chkM_ok chk_176 (fun n h => (nn h : cdZ176 n = none))
  exact ⟨by decide +kernel, rfl, inT (i := 1392) (by decide +kernel) rfl, h1, h2, h3, Nat.le_of_ble_eq_true rfl, ⟨by decide +kernel, by decide +kernel⟩, inT (i := 14) (by decide +kernel) rfl, rfl, Nat.lt_of_succ_le (Nat.le_of_ble_eq_true rfl)⟩
theorem chk_177 : chkM (methZ 177) (bZ 177) (yZ 177).name 65 = true := by decide +kernel
theorem mok_177 : MOK 177 := by
  obtain ⟨h1, h2, h3⟩ := chkM_ok chk_177 (fun n h => (nn h : cdZ177 n = none))
  exact ⟨by decide +kernel, rfl, inT (i := 1396) (by decide +kernel) rfl, h1, h2, h3, Nat.le_of_ble_eq_true rfl, ⟨by decide +kernel, by decide +kernel⟩, inT (i := 14) (by decide +kernel) rfl, rfl, Nat.lt_of_succ_le (Nat.le_of_ble_eq_true rfl)⟩
theorem chk_178 : chkM (methZ 178) (bZ 178) (yZ 178).name 130 = true := by decide +kernel
theorem mok_178 : MOK 178 := by
  obtain ⟨h1, h2, h3⟩ := chkM_ok chk_178 (fun n h => (nn h : cdZ178 n = none))
  exact ⟨by decide +kernel, rfl, inT (i := 1404) (by decide +kernel) rfl, h1, h2, h3, Nat.le_of_ble_eq_true rfl, ⟨by decide +kernel, by decide +kernel⟩, inT (i := 14) (by decide +kernel) rfl, rfl, Nat.lt_of_succ_le (Nat.le_of_ble_eq_true rfl)⟩
theorem chk_179 : chkM (methZ 179) (bZ 179) (yZ 179).name 30 = true := by decide +kernel
theorem mok_179 : MOK 179 := by
  obtain ⟨h1, h2, h3⟩ := chkM_ok chk_179 (fun n h => (nn h : cdZ179 n = none))
  exact ⟨by decide +kernel, rfl, inT (i := 1411) (by decide +kernel) rfl, h1, h2, h3, Nat.le_of_ble_eq_true rfl, ⟨by decide +kernel, by decide +kernel⟩, inT (i := 14) (by decide +kernel) rfl, rfl, Nat.lt_of_succ_le (Nat.le_of_ble_eq_true rfl)⟩
