theorem chk_180 : chkM (methZ 180) (bZ 180) (yZ 180).name 29 = true := by decide +kernel
theorem mok_180 : MOK 180 := by
  obtain ⟨h1, h2, h3⟩ := chkM_ok chk_180 (fun n h => (nn h : cdZ180 n = none))
  exact ⟨by decide +kernel, rfl, inT (i := 1415) (by decide +kernel) rfl, h1, h2, h3, Nat.le_of_ble_eq_true rfl, ⟨by decide +kernel, by decide +kernel⟩, inT (i := 14) (by decide +kernel) rfl, rfl, Nat.lt_of_succ_le (Nat.le_of_ble_eq_true rfl)⟩
theorem chk_181 : chkM (methZ 181) (bZ 181) (yZ 181).name 29 = true := by decide +kernel
theorem mok_181 : MOK 181 := by
  obtain ⟨h1, h2, h3⟩ := chkM_ok chk_181 (fun n h => (nn h : cdZ181 n = none))
  exact ⟨by decide +kernel, rfl, inT (i := 1419) (by decide +kernel) rfl, h1, h2, h3, Nat.le_of_ble_eq_true rfl, ⟨by decide +kernel, by decide +kernel⟩, inT (i := 14) (by decide +kernel) rfl, rfl, Nat.lt_of_succ_le (Nat.le_of_ble_eq_true rfl)⟩
theorem chk_182 : chkM (methZ 182) (bZ 182) (yZ 182).name 33 = true := by decide +kernel
theorem mok_182 : MOK 182 := by
  obtain ⟨h1, h2, h3⟩ := chkM_ok chk_182 (fun n h => (nn h : cdZ182 n = none))
  exact ⟨by decide +kernel, rfl, inT (i := 1423) (by decide +kernel) rfl, h1, h2, h3, Nat.le_of_ble_eq_true rfl, ⟨by decide +kernel, by decide +kernel⟩, inT (i := 14) (by decide +kernel) rfl, rfl, Nat.lt_of_succ_le (Nat.le_of_ble_eq_true rfl)⟩
theorem chk_183 : chkM (methZ 183) (bZ 183) (yZ 183).name 49 = true := by decide +kernel
theorem mok_183 : MOK 183 := by
  obtain ⟨h1, h2, h3⟩ := chkM_ok chk_183 (fun n h => (nn h : cdZ183 n = none))
  exact ⟨by decide +kernel, rfl, inT (i := 1427) (by decide +kernel) rfl, h1, h2, h3, Nat.le_of_ble_eq_true rfl, ⟨by decide +kernel, by decide +kernel⟩, inT (i := 14) (by decide +kernel) rfl, rfl, Nat.lt_of_succ_le (Nat.le_of_ble_eq_true rfl)⟩
theorem chk_184 : chkM (methZ 184) (bZ 184) (yZ 184).name 32 = true := by decide +kernel
theorem mok_184 : MOK 184 := by
  obtain ⟨h1, h2, h3⟩ := chkM_ok chk_184 (fun n h => (nn h : cdZ184 n = none))
  exact ⟨by decide +kernel, rfl, inT (i := 1431) (by decide +kernel) rfl, h1, h2, h3, Nat.le_of_ble_eq_true rfl, ⟨by decide +kernel, by decide +kernel⟩, inT (i := 14) (by decide +kernel) rfl, rfl, Nat.lt_of_succ_le (Nat.le_of_ble_eq_true rfl)⟩
theorem chk_185 : chkM (methZ 185) (bZ 185) (yZ 185).name 36 = true := by decide +kernel
theorem mok_185 : MOK 185 := by
  obtain ⟨h1, h2, h3⟩ := chkM_ok chk_185 (fun n h => (nn h : cdZ185 n = none))
  exact ⟨by decide +kernel, rfl, inT (i := 1435) (by decide +kernel) rfl, h1, h2, h3, Nat.le_of_ble_eq_true rfl, ⟨by decide +kernel, by decide +kernel⟩, inT (i := 14) (by decide +kernel) rfl, rfl, Nat.lt_of_succ_le (Nat.le_of_ble_eq_true rfl)⟩
theorem chk_186 : chkM (methZ 186) (bZ 186) (yZ 186).name 80 = true := by decide +kernel
theorem mok_186 : MOK 186 := by
  obtain ⟨h1, h2, h3⟩ := chkM_ok chk_186 (fun n h => (nn h : cdZ186 n = none))
  exact ⟨by decide +kernel, rfl, inT (i := 1439) (by decide +kernel) rfl, h1, h2, h3, Nat.le_of_ble_eq_true rfl, ⟨by decide +kernel, by decide +kernel⟩, inT (i := 14) (by decide +kernel) rfl, rfl, Nat.lt_of_succ_le (Nat.le_of_ble_eq_true rfl)⟩
theorem chk_187 : chkM (methZ 187) (bZ 187) (yZ 187).name 112 = true := by decide +kernel
theorem mok_187 : MOK 187 := by
  obtain ⟨h1, h2, h3⟩ := chkM_ok chk_187 (fun n h => (nn h : cdZ187 n = none))
  exact ⟨by decide +kernel, rfl, inT (i := 1443) (by decide +kernel) rfl, h1, h2, h3, Nat.le_of_ble_eq_true rfl, ⟨by decide +kernel, by decide +kernel⟩, inT (i := 14) (by decide +kernel) rfl, rfl, Nat.lt_of_succ_le (Nat.le_of_ble_eq_true rfl)⟩
theorem chk_188 : chkM (methZ 188) (bZ 188) (yZ 188).name 87 = true := by decide +kernel
theorem mok_188 : MOK 188 := by
  obtain ⟨h1, h2, h3⟩ := chkM_ok chk_188 (fun n h => (nn h : cdZ188 n = none))
  exact ⟨by decide +kernel, rfl, inT (i := 1447) (by decide +kernel) rfl, h1, h2, h3, Nat.le_of_ble_eq_true rfl, ⟨by decide +kernel, by decide +kernel⟩, inT (i := 14) (by decide +kernel) rfl, rfl, Nat.lt_of_succ_le (Nat.le_of_ble_eq_true rfl)⟩
theorem chk_189 : chkM (methZ 189) (bZ 189) (yZ 189).name 57 = true := by decide +kernel
theorem mok_189 : MOK 189 := by
  obtain ⟨h1, h2, h3⟩ := chkM_ok chk_189 (fun n h => (nn h : cdZ189 n = none))
  exact ⟨by decide +kernel, rfl, inT (i := 1451) (by decide +kernel) rfl, h1, h2, h3, Nat.le_of_ble_eq_true rfl, ⟨by decide +kernel, by decide +kernel⟩, inT (i := 14) (by decide +kernel) rfl, rfl, Nat.lt_of_succ_le (Nat.le_of_ble_eq_true rfl)⟩
theorem chk_190 : chkM (methZ 190) (bZ 190) (yZ 190).name 13 = true := by decide +kernel
theorem mok_190 : MOK 190 := by
  obtain ⟨h1, h2, h3⟩ := chkM_ok chk_190 (fun n h => (nn h : cdZ190 n = none))
  exact ⟨by decide +kernel, rfl, inT (i := 1455) (by decide +kernel) rfl, h1, h2, h3, Nat.le_of_ble_eq_true rfl, ⟨by decide +kernel, by decide +kernel⟩, inT (i := 14) (by decide +kernel) rfl, rfl, Nat.lt_of_succ_le (Nat.le_of_ble_eq_true rfl)⟩
theorem chk_191 : chkM (methZ 191) (bZ 191) (yZ 191).name 11 = true := by decide +kernel
theorem mok_191 : MOK 191 := by
  obtain ⟨h1, h2, h3⟩ := chkM_ok chk_191 (fun n h => (nn h : cdZ191 n = none))
  exact ⟨by decide +kernel, rfl, inT (i := 1458) (by decide +kernel) rfl, h1, h2, h3, Nat.le_of_ble_eq_true rfl, ⟨by decide +kernel, by decide +kernel⟩, inT (i := 14) (by decide +kernel) rfl, rfl, Nat.lt_of_succ_le (Nat.le_of_ble_eq_true rfl)⟩
theorem chk_192 : chkM (methZ 192) (bZ 192) (yZ 192).name 22 = true := by decide +kernel
theorem mok_192 : MOK 192 := by
  obtain ⟨h1, h2, h3⟩ := chkM_ok chk_192 (fun n h => (nn h : cdZ192 n = none))
  exact ⟨by decide +kernel, rfl, inT (i := 1462) (by decide +kernel) rfl, h1, h2, h3, Nat.le_of_ble_eq_true rfl, ⟨by decide +kernel, by decide +kernel⟩, inT (i := 14) (by decide +kernel) rfl, rfl, Nat.lt_of_succ_le (Nat.le_of_ble_eq_true rfl)⟩
theorem chk_193 : chkM (methZ 193) (bZ 193) (yZ 193).name 203 = true := by decide +kernel
theorem mok_193 : MOK 193 := by
  obtain ⟨h1, h2, h3⟩ := chkM_ok chk_193 (fun n h => (nn h : cdZ193 n = none))
  exact ⟨by decide +kernel, rfl, inT (i := 1466) (by decide +kernel) rfl, h1, h2, h3, Nat.le_of_ble_eq_true rfl, ⟨by decide +kernel, by decide +kernel⟩, inT (i := 14) (by decide +kernel) rfl, rfl, Nat.lt_of_succ_le (Nat.le_of_ble_eq_true rfl)⟩
theorem chk_194 : chkM (methZ 194) (bZ 194) (yZ 194).name 70 = true := by decide +kernel
theorem mok_194 : MOK 194 := by
  obtain ⟨h1, h2, h3⟩ := chkM_ok chk_194 (fun n h => (nn h : cdZ194 n = none))
  exact ⟨by decide +kernel, rfl, inT (i := 1470) (by decide +kernel) rfl, h1, h2, h3, Nat.le_of_ble_eq_true rfl, ⟨by decide +kernel, by decide +kernel⟩, inT (i := 14) (by decide +kernel) rfl, rfl, Nat.lt_of_succ_le (Nat.le_of_ble_eq_true rfl)⟩
theorem chk_195 : chkM (methZ 195) (bZ 195) (yZ 195).name 111 = true := by decide +kernel
theorem mok_195 : MOK 195 := by
  obtain ⟨h1, h2, h3⟩ := chkM_ok chk_195 (fun n h => (nn h : cdZ195 n = none))
  exact ⟨by decide +kernel, rfl, inT (i := 1474) (by decide +kernel) rfl, h1, h2, h3, Nat.le_of_ble_eq_true rfl, ⟨by decide +kernel, by decide +kernel⟩, inT (i := 14) (by decide +kernel) rfl, rfl, Nat.lt_of_succ_le (Nat.le_of_ble_eq_true rfl)⟩
theorem chk_196 : chkM (methZ 196) (bZ 196) (yZ 196).name 353 = true := by decide +kernel
theorem mok_196 : MOK 196 := by
  obtain ⟨h1, h2, h3⟩ := chkM_ok chk_196 (fun n h => (nn h : cdZ196 n = none))
  exact ⟨by decide +kernel, rfl, inT (i := 1478) (by decide +kernel) rfl, h1, h2, h3, Nat.le_of_ble_eq_true rfl, ⟨by decide +kernel, by decide +kernel⟩, inT (i := 14) (by decide +kernel) rfl, rfl, Nat.lt_of_succ_le (Nat.le_of_ble_eq_true rfl)⟩
theorem chk_197 : chkM (methZ 197) (bZ 197) (yZ 197).name 162 = true := by decide +kernel
theorem mok_197 : MOK 197 := by
  obtain ⟨h1, h2, h3⟩ := chkM_ok chk_197 (fun n h => (nn h : cdZ197 n = none))
  exact ⟨by decide +kernel, rfl, inT (i := 1482) (by decide +kernel) rfl, h1, h2, h3, Nat.le_of_ble_eq_true rfl, ⟨by decide +kernel, by decide +kernel⟩, inT (i := 14) (by decide +kernel) rfl, rfl, Nat.lt_of_succ_le (Nat.le_of_ble_eq_true rfl)⟩
theorem chk_198 : chkM (methZ 198) (bZ 198) (yZ 198).name 25 = true := by decide +kernel
theorem mok_198 : MOK 198 := by
  obtain ⟨h1, h2, h3⟩ := chkM_ok chk_198 (fun n h => (nn h : cdZ198 n = none))
  exact ⟨by decide +kernel, rfl, inT (i := 1487) (by decide +kernel) rfl, h1, h2, h3, Nat.le_of_ble_eq_true rfl, ⟨by decide +kernel, by decide +kernel⟩, inT (i := 14) (by decide +kernel) rfl, rfl, Nat.lt_of_succ_le (Nat.le_of_ble_eq_true rfl)⟩
theorem chk_199 : chkM (methZ 199) (bZ 199) (yZ 199).name 20 = true := by decide +kernel
theorem mok_199 : MOK 199 := by
  obtain ⟨h1, h2, h3⟩ := chkM_ok chk_199 (fun n h => (nn h : cdZ199 n = none))
  exact ⟨by decide +kernel, rfl, inT (i := 1491) (by decide +kernel) rfl, h1, h2, h3, Nat.le_of_ble_eq_true rfl, ⟨by decide +kernel, by decide +kernel⟩, inT (i := 14) (by decide +kernel) rfl, rfl, Nat.lt_of_succ_le (Nat.le_of_ble_eq_true rfl)⟩
theorem chk_200 : chkM (methZ 200) (bZ 200) (yZ 200).name 64 = true := by decide +kernel
theorem mok_200 : MOK 200 := by
  obtain ⟨h1, h2, h3⟩ := chkM_ok chk_200 (fun n h => (nn h : cdZ200 n = none))
  exact ⟨by decide +kernel, rfl, inT (i := 1495) (by decide +kernel) rfl, h1, h2, h3, Nat.le_of_ble_eq_true rfl, ⟨by decide +kernel, by decide +kernel⟩, inT (i := 14) (by decide +kernel) rfl, rfl, Nat.lt_of_succ_le (Nat.le_of_ble_eq_true rfl)⟩
theorem chk_201 : chkM (methZ 201) (bZ 201) (yZ 201).name 166 = true := by decide +kernel
theorem mok_201 : MOK 201 := by
  obtain ⟨h1, h2, h3⟩ := chkM_ok chk_201 (fun n h => (nn h : cdZ201 n = none))
  exact ⟨by decide +kernel, rfl, inT (i := 1499) (by decide +kernel) rfl, h1, h2, h3, Nat.le_of_ble_eq_true rfl, ⟨by decide +kernel, by decide +kernel⟩, inT (i := 14) (by decide +kernel) rfl, rfl, Nat.lt_of_succ_le (Nat.le_of_ble_eq_true rfl)⟩
theorem chk_202 : chkM (methZ 202) (bZ 202) (yZ 202).name 20 = true := by decide +kernel
theorem mok_202 : MOK 202 := by
  obtain ⟨h1, h2, h3⟩ := chkM_ok chk_202 (fun n h => (nn h : cdZ202 n = none))
  exact ⟨by decide +kernel, rfl, inT (i := 1503) (by decide +kernel) rfl, h1, h2, h3, Nat.le_of_ble_eq_true rfl, ⟨by decide +kernel, by decide +kernel⟩, inT (i := 14) (by decide +kernel) rfl, rfl, Nat.lt_of_succ_le (Nat.le_of_ble_eq_true rfl)⟩
theorem chk_203 : chkM (methZ 203) (bZ 203) (yZ 203).name 72 = true := by decide +kernel
theorem mok_203 : MOK 203 := by
  obtain ⟨h1, h2, h3⟩ := chkM_ok chk_203 (fun n h => (nn h : cdZ203 n = none))
  exact ⟨by decide +kernel, rfl, inT (i := 1507) (by decide +kernel) rfl, h1, h2, h3, Nat.le_of_ble_eq_true rfl, ⟨by decide +kernel, by decide +kernel⟩, inT (i := 14) (by decide +kernel) rfl, rfl, Nat.lt_of_succ_le (Nat.le_of_ble_eq_true rfl)⟩
theorem chk_204 : chkM (methZ 204) (bZ 204) (yZ 204).name 40 = true := by decide +kernel
theorem mok_204 : MOK 204 := by
  obtain ⟨h1, h2, h3⟩ := chkM_ok chk_204 (fun n h => (nn h : cdZ204 n = none))
  exact ⟨by decide +kernel, rfl, inT (i := 1511) (by decide +kernel) rfl, h1, h2, h3, Nat.le_of_ble_eq_true rfl, ⟨by decide +kernel, by decide +kernel⟩, inT (i := 14) (by decide +kernel) rfl, rfl, Nat.lt_of_succ_le (Nat.le_of_ble_eq_true rfl)⟩
theorem chk_205 : chkM (methZ 205) (bZ 205) (yZ 205).name 31 = true := by decide +kernel
theorem mok_205 : MOK 205 := by
  obtain ⟨h1, h2, h3⟩ := chkM_ok chk_205 (fun n h => (nn h : cdZ205 n = none))
  exact ⟨by decide +kernel, rfl, inT (i := 1515) (by decide +kernel) rfl, h1, h2, h3, Nat.le_of_ble_eq_true rfl, ⟨by decide +kernel, by decide +kernel⟩, inT (i := 14) (by decide +kernel) rfl, rfl, Nat.lt_of_succ_le (Nat.le_of_ble_eq_true rfl)⟩
theorem chk_206 : chkM (methZ 206) (bZ 206) (yZ 206).name 103 = true := by decide +kernel
theorem mok_206 : MOK 206 := by
  obtain ⟨h1, h2, h3⟩ := chkM_ok chk_206 (fun n h => (nn h : cdZ206 n = none))
  exact ⟨by decide +kernel, rfl, inT (i := 1519) (by decide +kernel) rfl, h1, h2, h3, Nat.le_of_ble_eq_true rfl, ⟨by decide +kernel, by decide +kernel⟩, inT (i := 14) (by decide +kernel) rfl, rfl, Nat.lt_of_succ_le (Nat.le_of_ble_eq_true rfl)⟩
theorem chk_207 : chkM (methZ 207) (bZ 207) (yZ 207).name 47 = true := by decide +kernel
theorem mok_207 : MOK 207 := by
  obtain ⟨h1, h2, h3⟩ := chkM_ok chk_207 (fun n h => (nn h : cdZ207 n = none))
  exact ⟨by decide +kernel, rfl, inT (i := 1523) (by decide +kernel) rfl, h1, h2, h3, Nat.le_of_ble_eq_true rfl, ⟨by decide +kernel, by decide +kernel⟩, inT (i := 14) (by decide +kernel) rfl, rfl, Nat.lt_of_succ_le (Nat.le_of_ble_eq_true rfl)⟩
theorem chk_208 : chkM (methZ 208) (bZ 208) (yZ 208).name 139 = true := by decide +kernel
theorem mok_208 : MOK 208 := by
  obtain ⟨h1, h2, h3⟩ := chkM_ok chk_208 (fun n h => (nn h : cdZ208 n = none))
  exact ⟨by decide +kernel, rfl, inT (i := 1527) (by decide +kernel) rfl, h1, h2, h3, Nat.le_of_ble_eq_true rfl, ⟨by decide +kernel, by decide +kernel⟩, inT (i := 14) (by decide +kernel) rfl, rfl, Nat.lt_of_succ_le (Nat.le_of_ble_eq_true rfl)⟩
theorem chk_209 : chkM (methZ 209) (bZ 209) (yZ 209).name 47 = true := by decide +kernel
theorem mok_209 : MOK 209 := by
  obtain ⟨h1, h2, h3⟩ := chkM_ok chk_209 (fun n h => (nn h : cdZ209 n = none))
  exact ⟨by decide +kernel, rfl, inT (i := 1531) (by decide +kernel) rfl, h1, h2, h3, Nat.le_of_ble_eq_true rfl, ⟨by decide +kernel, by decide +kernel⟩, inT (i := 14) (by decide +kernel) rfl, rfl, Nat.lt_of_succ_le (Nat.le_of_ble_eq_true rfl)⟩
theorem chk_210 : chkM (methZ 210) (bZ 210) (yZ 210).name 41 = true := by decide +kernel
theorem mok_210 : MOK 210 := by
  obtain ⟨h1, h2, h3⟩ := chkM_ok chk_210 (fun n h => (nn h : cdZ210 n = none))
  exact ⟨by decide +kernel, rfl, inT (i := 1535) (by decide +kernel) rfl, h1, h2, h3, Nat.le_of_ble_eq_true rfl, ⟨by decide +kernel, by decide +kernel⟩, inT (i := 14) (by decide +kernel) rfl, rfl, Nat.lt_of_succ_le (Nat.le_of_ble_eq_true rfl)⟩
theorem chk_211 : chkM (methZ 211) (bZ 211) (yZ 211).name 38 = true := by decide +kernel
theorem mok_211 : MOK 211 := by
  obtain ⟨h1, h2, h3⟩ := chkM_ok chk_211 (fun n h => (nn h : cdZ211 n = none))
  exact ⟨by decide +kernel, rfl, inT (i := 1540) (by decide +kernel) rfl, h1, h2, h3, Nat.le_of_ble_eq_true rfl, ⟨by decide +kernel, by decide +kernel⟩, inT (i := 14) (by decide +kernel) rfl, rfl, Nat.lt_of_succ_le (Nat.le_of_ble_eq_true rfl)⟩
theorem chk_212 : chkM (methZ 212) (bZ 212) (yZ 212).name 81 = true := by decide +kernel
theorem mok_212 : MOK 212 := by
  obtain ⟨h1, h2, h3⟩ := chkM_ok chk_212 (fun n h => (nn h : cdZ212 n = none))
  exact ⟨by decide +kernel, rfl, inT (i := 1544) (by decide +kernel) rfl, h1, h2, h3, Nat.le_of_ble_eq_true rfl, ⟨by decide +kernel, by decide +kernel⟩, inT (i := 14) (by decide +kernel) rfl, rfl, Nat.lt_of_succ_le (Nat.le_of_ble_eq_true rfl)⟩
theorem chk_213 : chkM (methZ 213) (bZ 213) (yZ 213).name 31 = true := by decide +kernel
theorem mok_213 : MOK 213 := by
  obtain ⟨h1, h2, h3⟩ := chkM_ok chk_213 (fun n h => (nn h : cdZ213 n = none))
  exact ⟨by decide +kernel, rfl, inT (i := 1548) (by decide +kernel) rfl, h1, h2, h3, Nat.le_of_ble_eq_true rfl, ⟨by decide +kernel, by decide +kernel⟩, inT (i := 14) (by decide +kernel) rfl, rfl, Nat.lt_of_succ_le (Nat.le_of_ble_eq_true rfl)⟩
theorem chk_214 : chkM (methZ 214) (bZ 214) (yZ 214).name 31 = true := by decide +kernel
theorem mok_214 : MOK 214 := by
  obtain ⟨h1, h2, h3⟩ := chkM_ok chk_214 (fun n h => (nn h : cdZ214 n = none))
  exact ⟨by decide +kernel, rfl, inT (i := 1552) (by decide +kernel) rfl, h1, h2, h3, Nat.le_of_ble_eq_true rfl, ⟨by decide +kernel, by decide +kernel⟩, inT (i := 14) (by decide +kernel) rfl, rfl, Nat.lt_of_succ_le (Nat.le_of_ble_eq_true rfl)⟩
theorem chk_215 : chkM (methZ 215) (bZ 215) (yZ 215).name 33 = true := by decide +kernel
theorem mok_215 : MOK 215 := by
  obtain ⟨h1, h2, h3⟩ := chkM_ok chk_215 (fun n h => (nn h : cdZ215 n = none))
  exact ⟨by decide +kernel, rfl, inT (i := 1556) (by decide +kernel) rfl, h1, h2, h3, Nat.le_of_ble_eq_true rfl, ⟨by decide +kernel, by decide +kernel⟩, inT (i := 14) (by decide +kernel) rfl, rfl, Nat.lt_of_succ_le (Nat.le_of_ble_eq_true rfl)⟩
theorem chk_216 : chkM (methZ 216) (bZ 216) (yZ 216).name 96 = true := by decide +kernel
theorem mok_216 : MOK 216 := by
  obtain ⟨h1, h2, h3⟩ := chkM_ok chk_216 (fun n h => (nn h : cdZ216 n = none))
  exact ⟨by decide +kernel, rfl, inT (i := 1560) (by decide +kernel) rfl, h1, h2, h3, Nat.le_of_ble_eq_true rfl, ⟨by decide +kernel, by decide +kernel⟩, inT (i := 14) (by decide +kernel) rfl, rfl, Nat.lt_of_succ_le (Nat.le_of_ble_eq_true rfl)⟩
theorem chk_217 : chkM (methZ 217) (bZ 217) (yZ 217).name 74 = true := by decide +kernel
theorem mok_217 : MOK 217 := by
  obtain ⟨h1, h2, h3⟩ := chkM_ok chk_217 (fun n h => (nn h : cdZ217 n = none))
  exact ⟨by decide +kernel, rfl, inT (i := 1564) (by decide +kernel) rfl, h1, h2, h3, Nat.le_of_ble_eq_true rfl, ⟨by decide +kernel, by decide +kernel⟩, inT (i := 14) (by decide +kernel) rfl, rfl, Nat.lt_of_succ_le (Nat.le_of_ble_eq_true rfl)⟩
theorem chk_218 : chkM (methZ 218) (bZ 218) (yZ 218).name 32 = true := by decide +kernel
theorem mok_218 : MOK 218 := by
  obtain ⟨h1, h2, h3⟩ := chkM_ok chk_218 (fun n h => (nn h : cdZ218 n = none))
  exact ⟨by decide +kernel, rfl, inT (i := 1568) (by decide +kernel) rfl, h1, h2, h3, Nat.le_of_ble_eq_true rfl, ⟨by decide +kernel, by decide +kernel⟩, inT (i := 14) (by decide +kernel) rfl, rfl, Nat.lt_of_succ_le (Nat.le_of_ble_eq_true rfl)⟩
theorem chk_219 : chkM (methZ 219) (bZ 219) (yZ 219).name 41 = true := by decide +kernel
theorem mok_219 : MOK 219 := by
  obtain ⟨h1, h2, h3⟩ := chkM_ok chk_219 (fun n h => (nn h : cdZ219 n = none))
  exact ⟨by decide +kernel, rfl, inT (i := 1572) (by decide +kernel) rfl, h1, h2, h3, Nat.le_of_ble_eq_true rfl, ⟨by decide +kernel, by decide +kernel⟩, inT (i := 14) (by decide +kernel) rfl, rfl, Nat.lt_of_succ_le (Nat.le_of_ble_eq_true rfl)⟩
theorem chk_220 : chkM (methZ 220) (bZ 220) (yZ 220).name 15 = true := by decide +kernel
theorem mok_220 : MOK 220 := by
  obtain ⟨h1, h2, h3⟩ := chkM_ok chk_220 (fun n h => (nn h : cdZ220 n = none))
  exact ⟨by decide +kernel, rfl, inT (i := 1576) (by decide +kernel) rfl, h1, h2, h3, Nat.le_of_ble_eq_true rfl, ⟨by decide +kernel, by decide +kernel⟩, inT (i := 14) (by decide +kernel) rfl, rfl, Nat.lt_of_succ_le (Nat.le_of_ble_eq_true rfl)⟩
theorem chk_221 : chkM (methZ 221) (bZ 221) (yZ 221).name 35 = true := by decide +kernel
theorem mok_221 : MOK 221 := by
  obtain ⟨h1, h2, h3⟩ := chkM_ok chk_221 (fun n h => (nn h : cdZ221 n = none))
  exact ⟨by decide +kernel, rfl, inT (i := 1580) (by decide +kernel) rfl, h1, h2, h3, Nat.le_of_ble_eq_true rfl, ⟨by decide +kernel, by decide +kernel⟩, inT (i := 14) (by decide +kernel) rfl, rfl, Nat.lt_of_succ_le (Nat.le_of_ble_eq_true rfl)⟩
theorem chk_222 : chkM (methZ 222) (bZ 222) (yZ 222).name 67 = true := by decide +kernel
theorem mok_222 : MOK 222 := by
  obtain ⟨h1, h2, h3⟩ := chkM_ok chk_222 (fun n h => (nn h : cdZ222 n = none))
  exact ⟨by decide +kernel, rfl, inT (i := 1584) (by decide +kernel) rfl, h1, h2, h3, Nat.le_of_ble_eq_true rfl, ⟨by decide +kernel, by decide +kernel⟩, inT (i := 14) (by decide +kernel) rfl, rfl, Nat.lt_of_succ_le (Nat.le_of_ble_eq_true rfl)⟩
theorem chk_223 : chkM (methZ 223) (bZ 223) (yZ 223).name 19 = true := by decide +kernel
theorem mok_223 : MOK 223 := by
  obtain ⟨h1, h2, h3⟩ := chkM_ok chk_223 (fun n h => (nn h : cdZ223 n = none))
  exact ⟨by decide +kernel, rfl, inT (i := 1588) (by decide +kernel) rfl, h1, h2, h3, Nat.le_of_ble_eq_true rfl, ⟨by decide +kernel, by decide +kernel⟩, inT (i := 14) (by decide +kernel) rfl, rfl, Nat.lt_of_succ_le (Nat.le_of_ble_eq_true rfl)⟩
theorem chk_224 : chkM (methZ 224) (bZ 224) (yZ 224).name 15 = true := by decide +kernel
theorem mok_224 : MOK 224 := by
  obtain ⟨h1, h2, h3⟩ := chkM_ok chk_224 (fun n h => (nn h : cdZ224 n = none))
  exact ⟨by decide +kernel, rfl, inT (i := 1592) (by decide +kernel) rfl, h1, h2, h3, Nat.le_of_ble_eq_true rfl, ⟨by decide +kernel, by decide +kernel⟩, inT (i := 14) (by decide +kernel) rfl, rfl, Nat.lt_of_succ_le (Nat.le_of_ble_eq_true rfl)⟩
theorem chk_225 : chkM (methZ 225) (bZ 225) (yZ 225).name 33 = true := by decide +kernel
theorem mok_225 : MOK 225 := by
  obtain ⟨h1, h2, h3⟩ := chkM_ok chk_225 (fun n h => (nn h : cdZ225 n = none))
  exact ⟨by decide +kernel, rfl, inT (i := 1596) (by decide +kernel) rfl, h1, h2, h3, Nat.le_of_ble_eq_true rfl, ⟨by decide +kernel, by decide +kernel⟩, inT (i := 14) (by decide +kernel) rfl, rfl, Nat.lt_of_succ_le (Nat.le_of_ble_eq_true rfl)⟩
theorem chk_226 : chkM (methZ 226) (bZ 226) (yZ 226).name 10 = true := by decide +kernel
theorem mok_226 : MOK 226 := by
  obtain ⟨h1, h2, h3⟩ := chkM_ok chk_226 (fun n h => (nn h : cdZ226 n = none))
  exact ⟨by decide +kernel, rfl, inT (i := 1599) (by decide +kernel) rfl, h1, h2, h3, Nat.le_of_ble_eq_true rfl, ⟨by decide +kernel, by decide +kernel⟩, inT (i := 14) (by decide +kernel) rfl, rfl, Nat.lt_of_succ_le (Nat.le_of_ble_eq_true rfl)⟩
theorem chk_227 : chkM (methZ 227) (bZ 227) (yZ 227).name 12 = true := by decide +kernel
theorem mok_227 : MOK 227 := by
  obtain ⟨h1, h2, h3⟩ := chkM_ok chk_227 (fun n h => (nn h : cdZ227 n = none))
  exact ⟨by decide +kernel, rfl, inT (i := 1603) (by decide +kernel) rfl, h1, h2, h3, Nat.le_of_ble_eq_true rfl, ⟨by decide +kernel, by decide +kernel⟩, inT (i := 14) (by decide +kernel) rfl, rfl, Nat.lt_of_succ_le (Nat.le_of_ble_eq_true rfl)⟩
theorem chk_228 : chkM (methZ 228) (bZ 228) (yZ 228).name 14 = true := by decide +kernel
theorem mok_228 : MOK 228 := by
  obtain ⟨h1, h2, h3⟩ := chkM_ok chk_228 (fun n h => (nn h : cdZ228 n = none))
  exact ⟨by decide +kernel, rfl, inT (i := 1607) (by decide +kernel) rfl, h1, h2, h3, Nat.le_of_ble_eq_true rfl, ⟨by decide +kernel, by decide +kernel⟩, inT (i := 14) (by decide +kernel) rfl, rfl, Nat.lt_of_succ_le (Nat.le_of_ble_eq_true rfl)⟩
theorem chk_229 : chkM (methZ 229) (bZ 229) (yZ 229).name 69 = true := by decide +kernel
theorem mok_229 : MOK 229 := by
  obtain ⟨h1, h2, h3⟩ := chkM_ok chk_229 (fun n h => (nn h : cdZ229 n = none))
  exact ⟨by decide +kernel, rfl, inT (i := 1611) (by decide +kernel) rfl, h1, h2, h3, Nat.le_of_ble_eq_true rfl, ⟨by decide +kernel, by decide +kernel⟩, inT (i := 14) (by decide +kernel) rfl, rfl, Nat.lt_of_succ_le (Nat.le_of_ble_eq_true rfl)⟩
theorem chk_230 : chkM (methZ 230) (bZ 230) (yZ 230).name 57 = true := by decide +kernel
theorem mok_230 : MOK 230 := by
  obtain ⟨h1, h2, h3⟩ := chkM_ok chk_230 (fun n h => (nn h : cdZ230 n = none))
  exact ⟨by decide +kernel, rfl, inT (i := 1615) (by decide +kernel) rfl, h1, h2, h3, Nat.le_of_ble_eq_true rfl, ⟨by decide +kernel, by decide +kernel⟩, inT (i := 14) (by decide +kernel) rfl, rfl, Nat.lt_of_succ_le (Nat.le_of_ble_eq_true rfl)⟩
theorem chk_231 : chkM (methZ 231) (bZ 231) (yZ 231).name 91 = true := by decide +kernel
theorem mok_231 : MOK 231 := by
  obtain ⟨h1, h2, h3⟩ := chkM_ok chk_231 (fun n h => (nn h : cdZ231 n = none))
  exact ⟨by decide +kernel, rfl, inT (i := 1619) (by decide +kernel) rfl, h1, h2, h3, Nat.le_of_ble_eq_true rfl, ⟨by decide +kernel, by decide +kernel⟩, inT (i := 14) (by decide +kernel) rfl, rfl, Nat.lt_of_succ_le (Nat.le_of_ble_eq_true rfl)⟩
theorem chk_232 : chkM (methZ 232) (bZ 232) (yZ 232).name 32 = true := by decide +kernel
theorem mok_232 : MOK 232 := by
  obtain ⟨h1, h2, h3⟩ := chkM_ok chk_232 (fun n h => (nn h : cdZ232 n = none))
  exact ⟨by decide +kernel, rfl, inT (i := 1623) (by decide +kernel) rfl, h1, h2, h3, Nat.le_of_ble_eq_true rfl, ⟨by decide +kernel, by decide +kernel⟩, inT (i := 14) (by decide +kernel) rfl, rfl, Nat.lt_of_succ_le (Nat.le_of_ble_eq_true rfl)⟩
theorem chk_233 : chkM (methZ 233) (bZ 233) (yZ 233).name 102 = true := by decide +kernel
theorem mok_233 : MOK 233 := by
  obtain ⟨h1, h2, h3⟩ := chkM_ok chk_233 (fun n h => (nn h : cdZ233 n = none))
  exact ⟨by decide +kernel, rfl, inT (i := 1627) (by decide +kernel) rfl, h1, h2, h3, Nat.le_of_ble_eq_true rfl, ⟨by decide +kernel, by decide +kernel⟩, inT (i := 14) (by decide +kernel) rfl, rfl, Nat.lt_of_succ_le (Nat.le_of_ble_eq_true rfl)⟩
theorem chk_234 : chkM (methZ 234) (bZ 234) (yZ 234).name 44 = true := by decide +kernel
theorem mok_234 : MOK 234 := by
  obtain ⟨h1, h2, h3⟩ := chkM_ok chk_234 (fun n h => (nn h : cdZ234 n = none))
  exact ⟨by decide +kernel, rfl, inT (i := 1631) (by decide +kernel) rfl, h1, h2, h3, Nat.le_of_ble_eq_true rfl, ⟨by decide +kernel, by decide +kernel⟩, inT (i := 14) (by decide +kernel) rfl, rfl, Nat.lt_of_succ_le (Nat.le_of_ble_eq_true rfl)⟩
theorem chk_235 : chkM (methZ 235) (bZ 235) (yZ 235).name 153 = true := by decide +kernel
theorem mok_235 : MOK 235 := by
  obtain ⟨h1, h2, h3⟩ := chkM_ok chk_235 (fun n h => (nn h : cdZ235 n = none))
  exact ⟨by decide +kernel, rfl, inT (i := 1635) (by decide +kernel) rfl, h1, h2, h3, Nat.le_of_ble_eq_true rfl, ⟨by decide +kernel, by decide +kernel⟩, inT (i := 14) (by decide +kernel) rfl, rfl, Nat.lt_of_succ_le (Nat.le_of_ble_eq_true rfl)⟩
theorem chk_236 : chkM (methZ 236) (bZ 236) (yZ 236).name 96 = true := by decide +kernel
theorem mok_236 : MOK 236 := by
  obtain ⟨h1, h2, h3⟩ := chkM_ok chk_236 (fun n h => (nn h : cdZ236 n = none))
  exact ⟨by decide +kernel, rfl, inT (i := 1641) (by decide +kernel) rfl, h1, h2, h3, Nat.le_of_ble_eq_true rfl, ⟨by decide +kernel, by decide +kernel⟩, inT (i := 14) (by decide +kernel) rfl, rfl, Nat.lt_of_succ_le (Nat.le_of_ble_eq_true rfl)⟩
theorem chk_237 : chkM (methZ 237) (bZ 237) (yZ 237).name 27 = true := by decide +kernel
theorem mok_237 : MOK 237 := by
  obtain ⟨h1, h2, h3⟩ := chkM_ok chk_237 (fun n h => (nn h : cdZ237 n = none))
  exact ⟨by decide +kernel, rfl, inT (i := 1646) (by decide +kernel) rfl, h1, h2, h3, Nat.le_of_ble_eq_true rfl, ⟨by decide +kernel, by decide +kernel⟩, inT (i := 14) (by decide +kernel) rfl, rfl, Nat.lt_of_succ_le (Nat.le_of_ble_eq_true rfl)⟩
theorem chk_238 : chkM (methZ 238) (bZ 238) (yZ 238).name 58 = true := by decide +kernel
theorem mok_238 : MOK 238 := by
  obtain ⟨h1, h2, h3⟩ := chkM_ok chk_238 (fun n h => (nn h : cdZ238 n = none))
  exact ⟨by decide +kernel, rfl, inT (i := 1651) (by decide +kernel) rfl, h1, h2, h3, Nat.le_of_ble_eq_true rfl, ⟨by decide +kernel, by decide +kernel⟩, inT (i := 14) (by decide +kernel) rfl, rfl, Nat.lt_of_succ_le (Nat.le_of_ble_eq_true rfl)⟩
theorem chk_239 : chkM (methZ 239) (bZ 239) (yZ 239).name 42 = true := by decide +kernel
theorem mok_239 : MOK 239 := by
  obtain ⟨h1, h2, h3⟩ := chkM_ok chk_239 (fun n h => (nn h : cdZ239 n = none))
  exact ⟨by decide +kernel, rfl, inT (i := 1655) (by decide +kernel) rfl, h1, h2, h3, Nat.le_of_ble_eq_true rfl, ⟨by decide +kernel, by decide +kernel⟩, inT (i := 14) (by decide +kernel) rfl, rfl, Nat.lt_of_succ_le (Nat.le_of_ble_eq_true rfl)⟩
theorem chk_240 : chkM (methZ 240) (bZ 240) (yZ 240).name 32 = true := by decide +kernel
theorem mok_240 : MOK 240 := by
  obtain ⟨h1, h2, h3⟩ := chkM_ok chk_240 (fun n h => (nn h : cdZ240 n = none))
  exact ⟨by decide +kernel, rfl, inT (i := 1659) (by decide +kernel) rfl, h1, h2, h3, Nat.le_of_ble_eq_true rfl, ⟨by decide +kernel, by decide +kernel⟩, inT (i := 14) (by decide +kernel) rfl, rfl, Nat.lt_of_succ_le (Nat.le_of_ble_eq_true rfl)⟩
theorem chk_241 : chkM (methZ 241) (bZ 241) (yZ 241).name 36 = true := by decide +kernel
theorem mok_241 : MOK 241 := by
  obtain ⟨h1, h2, h3⟩ := chkM_ok chk_241 (fun n h => (nn h : cdZ241 n = none))
  exact ⟨by decide +kernel, rfl, inT (i := 1663) (by decide +kernel) rfl, h1, h2, h3, Nat.le_of_ble_eq_true rfl, ⟨by decide +kernel, by decide +kernel⟩, inT (i := 14) (by decide +kernel) rfl, rfl, Nat.lt_of_succ_le (Nat.le_of_ble_eq_true rfl)⟩
theorem chk_242 : chkM (methZ 242) (bZ 242) (yZ 242).name 107 = true := by decide +kernel
theorem mok_242 : MOK 242 := by
  obtain ⟨h1, h2, h3⟩ := chkM_ok chk_242 (fun n h => (nn h : cdZ242 n = none))
  exact ⟨by decide +kernel, rfl, inT (i := 1667) (by decide +kernel) rfl, h1, h2, h3, Nat.le_of_ble_eq_true rfl, ⟨by decide +kernel, by decide +kernel⟩, inT (i := 14) (by decide +kernel) rfl, rfl, Nat.lt_of_succ_le (Nat.le_of_ble_eq_true rfl)⟩
theorem chk_243 : chkM (methZ 243) (bZ 243) (yZ 243).name 89 = true := by decide +kernel
theorem mok_243 : MOK 243 := by
  obtain ⟨h1, h2, h3⟩ := chkM_ok chk_243 (fun n h => (nn h : cdZ243 n = none))
  exact ⟨by decide +kernel, rfl, inT (i := 1671) (by decide +kernel) rfl, h1, h2, h3, Nat.le_of_ble_eq_true rfl, ⟨by decide +kernel, by decide +kernel⟩, inT (i := 14) (by decide +kernel) rfl, rfl, Nat.lt_of_succ_le (Nat.le_of_ble_eq_true rfl)⟩
theorem chk_244 : chkM (methZ 244) (bZ 244) (yZ 244).name 96 = true := by decide +kernel
theorem mok_244 : MOK 244 := by
  obtain ⟨h1, h2, h3⟩ := chkM_ok chk_244 (fun n h => (nn h : cdZ244 n = none))
  exact ⟨by decide +kernel, rfl, inT (i := 1675) (by decide +kernel) rfl, h1, h2, h3, Nat.le_of_ble_eq_true rfl, ⟨by decide +kernel, by decide +kernel⟩, inT (i := 14) (by decide +kernel) rfl, rfl, Nat.lt_of_succ_le (Nat.le_of_ble_eq_true rfl)⟩
theorem chk_245 : chkM (methZ 245) (bZ 245) (yZ 245).name 56 = true := by decide +kernel
theorem mok_245 : MOK 245 := by
  obtain ⟨h1, h2, h3⟩ := chkM_ok chk_245 (fun n h => (nn h : cdZ245 n = none))
  exact ⟨by decide +kernel, rfl, inT (i := 1679) (by decide +kernel) rfl, h1, h2, h3, Nat.le_of_ble_eq_true rfl, ⟨by decide +kernel, by decide +kernel⟩, inT (i := 14) (by decide +kernel) rfl, rfl, Nat.lt_of_succ_le (Nat.le_of_ble_eq_true rfl)⟩
theorem chk_246 : chkM (methZ 246) (bZ 246) (yZ 246).name 61 = true := by decide +kernel
theorem mok_246 : MOK 246 := by
  obtain ⟨h1, h2, h3⟩ := chkM_ok chk_246 (fun n h => (nn h : cdZ246 n = none))
  exact ⟨by decide +kernel, rfl, inT (i := 1683) (by decide +kernel) rfl, h1, h2, h3, Nat.le_of_ble_eq_true rfl, ⟨by decide +kernel, by decide +kernel⟩, inT (i := 14) (by decide +kernel) rfl, rfl, Nat.lt_of_succ_le (Nat.le_of_ble_eq_true rfl)⟩
theorem chk_247 : chkM (methZ 247) (bZ 247) (yZ 247).name 55 = true := by decide +kernel
theorem mok_247 : MOK 247 := by
  obtain ⟨h1, h2, h3⟩ := chkM_ok chk_247 (fun n h => (nn h : cdZ247 n = none))
  exact ⟨by decide +kernel, rfl, inT (i := 1687) (by decide +kernel) rfl, h1, h2, h3, Nat.le_of_ble_eq_true rfl, ⟨by decide +kernel, by decide +kernel⟩, inT (i := 14) (by decide +kernel) rfl, rfl, Nat.lt_of_succ_le (Nat.le_of_ble_eq_true rfl)⟩
theorem chk_248 : chkM (methZ 248) (bZ 248) (yZ 248).name 26 = true := by decide +kernel
theorem mok_248 : MOK 248 := by
  obtain ⟨h1, h2, h3⟩ := chkM_ok chk_248 (fun n h => (nn h : cdZ248 n = none))
  exact ⟨by decide +kernel, rfl, inT (i := 1692) (by decide +kernel) rfl, h1, h2, h3, Nat.le_of_ble_eq_true rfl, ⟨by decide +kernel, by decide +kernel⟩, inT (i := 14) (by decide +kernel) rfl, rfl, Nat.lt_of_succ_le (Nat.le_of_ble_eq_true rfl)⟩
theorem chk_249 : chkM (methZ 249) (bZ 249) (yZ 249).name 88 = true := by decide +kernel
theorem mok_249 : MOK 249 := by
  obtain ⟨h1, h2, h3⟩ := chkM_ok chk_249 (fun n h => (nn h : cdZ249 n = none))
  exact ⟨by decide +kernel, rfl, inT (i := 1696) (by decide +kernel) rfl, h1, h2, h3, Nat.le_of_ble_eq_true rfl, ⟨by decide +kernel, by decide +kernel⟩, inT (i := 14) (by decide +kernel) rfl, rfl, Nat.lt_of_succ_le (Nat.le_of_ble_eq_true rfl)⟩
theorem chk_250 : chkM (methZ 250) (bZ 250) (yZ 250).name 184 = true := by decide +kernel
theorem mok_250 : MOK 250 := by
  obtain ⟨h1, h2, h3⟩ := chkM_ok chk_250 (fun n h => (nn h : cdZ250 n = none))
  exact ⟨by decide +kernel, rfl, inT (i := 1700) (by decide +kernel) rfl, h1, h2, h3, Nat.le_of_ble_eq_true rfl, ⟨by decide +kernel, by decide +kernel⟩, inT (i := 14) (by decide +kernel) rfl, rfl, Nat.lt_of_succ_le (Nat.le_of_ble_eq_true rfl)⟩
theorem chk_251 : chkM (methZ 251) (bZ 251) (yZ 251).name 215 = true := by decide +kernel
theorem mok_251 : MOK 251 := by
  obtain ⟨h1, h2, h3⟩ := chkM_ok chk_251 (fun n h => (nn h : cdZ251 n = none))
  exact ⟨by decide +kernel, rfl, inT (i := 1706) (by decide +kernel) rfl, h1, h2, h3, Nat.le_of_ble_eq_true rfl, ⟨by decide +kernel, by decide +kernel⟩, inT (i := 14) (by decide +kernel) rfl, rfl, Nat.lt_of_succ_le (Nat.le_of_ble_eq_true rfl)⟩
theorem chk_252 : chkM (methZ 252) (bZ 252) (yZ 252).name 254 = true := by decide +kernel
theorem mok_252 : MOK 252 := by
  obtain ⟨h1, h2, h3⟩ := chkM_ok chk_252 (fun n h => (nn h : cdZ252 n = none))
  exact ⟨by decide +kernel, rfl, inT (i := 1710) (by decide +kernel) rfl, h1, h2, h3, Nat.le_of_ble_eq_true rfl, ⟨by decide +kernel, by decide +kernel⟩, inT (i := 14) (by decide +kernel) rfl, rfl, Nat.lt_of_succ_le (Nat.le_of_ble_eq_true rfl)⟩
theorem chk_253 : chkM (methZ 253) (bZ 253) (yZ 253).name 35 = true := by decide +kernel
theorem mok_253 : MOK 253 := by
  obtain ⟨h1, h2, h3⟩ := chkM_ok chk_253 (fun n h => (nn h : cdZ253 n = none))
  exact ⟨by decide +kernel, rfl, inT (i := 1714) (by decide +kernel) rfl, h1, h2, h3, Nat.le_of_ble_eq_true rfl, ⟨by decide +kernel, by decide +kernel⟩, inT (i := 14) (by decide +kernel) rfl, rfl, Nat.lt_of_succ_le (Nat.le_of_ble_eq_true rfl)⟩
theorem chk_254 : chkM (methZ 254) (bZ 254) (yZ 254).name 22 = true := by decide +kernel
theorem mok_254 : MOK 254 := by
  obtain ⟨h1, h2, h3⟩ := chkM_ok chk_254 (fun n h => (nn h : cdZ254 n = none))
  exact ⟨by decide +kernel, rfl, inT (i := 1719) (by decide +kernel) rfl, h1, h2, h3, Nat.le_of_ble_eq_true rfl, ⟨by decide +kernel, by decide +kernel⟩, inT (i := 14) (by decide +kernel) rfl, rfl, Nat.lt_of_succ_le (Nat.le_of_ble_eq_true rfl)⟩
theorem chk_255 : chkM (methZ 255) (bZ 255) (yZ 255).name 174 = true := by decide +kernel
theorem mok_255 : MOK 255 := by
  obtain ⟨h1, h2, h3⟩ := chkM_ok chk_255 (fun n h => (nn h : cdZ255 n = none))
  exact ⟨by decide +kernel, rfl, inT (i := 1725) (by decide +kernel) rfl, h1, h2, h3, Nat.le_of_ble_eq_true rfl, ⟨by decide +kernel, by decide +kernel⟩, inT (i := 14) (by decide +kernel) rfl, rfl, Nat.lt_of_succ_le (Nat.le_of_ble_eq_true rfl)⟩
theorem chk_256 : chkM (methZ 256) (bZ 256) (yZ 256).name 35 = true := by decide +kernel
theorem mok_256 : MOK 256 := by
  obtain ⟨h1, h2, h3⟩ := chkM_ok chk_256 (fun n h => (nn h : cdZ256 n = none))
  exact ⟨by decide +kernel, rfl, inT (i := 1729) (by decide +kernel) rfl, h1, h2, h3, Nat.le_of_ble_eq_true rfl, ⟨by decide +kernel, by decide +kernel⟩, inT (i := 14) (by decide +kernel) rfl, rfl, Nat.lt_of_succ_le (Nat.le_of_ble_eq_true rfl)⟩
theorem chk_257 : chkM (methZ 257) (bZ 257) (yZ 257).name 68 = true := by decide +kernel
theorem mok_257 : MOK 257 := by
  obtain ⟨h1, h2, h3⟩ := chkM_ok chk_257 (fun n h => (nn h : cdZ257 n = none))
  exact ⟨by decide +kernel, rfl, inT (i := 1733) (by decide +kernel) rfl, h1, h2, h3, Nat.le_of_ble_eq_true rfl, ⟨by decide +kernel, by decide +kernel⟩, inT (i := 14) (by decide +kernel) rfl, rfl, Nat.lt_of_succ_le (Nat.le_of_ble_eq_true rfl)⟩
theorem chk_258 : chkM (methZ 258) (bZ 258) (yZ 258).name 63 = true := by decide +kernel
theorem mok_258 : MOK 258 := by
  obtain ⟨h1, h2, h3⟩ := chkM_ok chk_258 (fun n h => (nn h : cdZ258 n = none))
  exact ⟨by decide +kernel, rfl, inT (i := 1737) (by decide +kernel) rfl, h1, h2, h3, Nat.le_of_ble_eq_true rfl, ⟨by decide +kernel, by decide +kernel⟩, inT (i := 14) (by decide +kernel) rfl, rfl, Nat.lt_of_succ_le (Nat.le_of_ble_eq_true rfl)⟩
theorem chk_259 : chkM (methZ 259) (bZ 259) (yZ 259).name 38 = true := by decide +kernel
theorem mok_259 : MOK 259 := by
  obtain ⟨h1, h2, h3⟩ := chkM_ok chk_259 (fun n h => (nn h : cdZ259 n = none))
  exact ⟨by decide +kernel, rfl, inT (i := 1741) (by decide +kernel) rfl, h1, h2, h3, Nat.le_of_ble_eq_true rfl, ⟨by decide +kernel, by decide +kernel⟩, inT (i := 14) (by decide +kernel) rfl, rfl, Nat.lt_of_succ_le (Nat.le_of_ble_eq_true rfl)⟩
theorem chk_260 : chkM (methZ 260) (bZ 260) (yZ 260).name 36 = true := by decide +kernel
theorem mok_260 : MOK 260 := by
  obtain ⟨h1, h2, h3⟩ := chkM_ok chk_260 (fun n h => (nn h : cdZ260 n = none))
  exact ⟨by decide +kernel, rfl, inT (i := 1746) (by decide +kernel) rfl, h1, h2, h3, Nat.le_of_ble_eq_true rfl, ⟨by decide +kernel, by decide +kernel⟩, inT (i := 14) (by decide +kernel) rfl, rfl, Nat.lt_of_succ_le (Nat.le_of_ble_eq_true rfl)⟩
theorem chk_261 : chkM (methZ 261) (bZ 261) (yZ 261).name 65 = true := by decide +kernel
theorem mok_261 : MOK 261 := by
  obtain ⟨h1, h2, h3⟩ := chkM_ok chk_261 (fun n h => (nn h : cdZ261 n = none))
  exact ⟨by decide +kernel, rfl, inT (i := 1750) (by decide +kernel) rfl, h1, h2, h3, Nat.le_of_ble_eq_true rfl, ⟨by decide +kernel, by decide +kernel⟩, inT (i := 14) (by decide +kernel) rfl, rfl, Nat.lt_of_succ_le (Nat.le_of_ble_eq_true rfl)⟩
theorem chk_262 : chkM (methZ 262) (bZ 262) (yZ 262).name 10 = true := by decide +kernel
theorem mok_262 : MOK 262 := by
  obtain ⟨h1, h2, h3⟩ := chkM_ok chk_262 (fun n h => (nn h : cdZ262 n = none))
  exact ⟨by decide +kernel, rfl, inT (i := 1754) (by decide +kernel) rfl, h1, h2, h3, Nat.le_of_ble_eq_true rfl, ⟨by decide +kernel, by decide +kernel⟩, inT (i := 14) (by decide +kernel) rfl, rfl, Nat.lt_of_succ_le (Nat.le_of_ble_eq_true rfl)⟩
theorem chk_263 : chkM (methZ 263) (bZ 263) (yZ 263).name 268 = true := by decide +kernel
theorem mok_263 : MOK 263 := by
  obtain ⟨h1, h2, h3⟩ := chkM_ok chk_263 (fun n h => (nn h : cdZ263 n = none))
  exact ⟨by decide +kernel, rfl, inT (i := 1758) (by decide +kernel) rfl, h1, h2, h3, Nat.le_of_ble_eq_true rfl, ⟨by decide +kernel, by decide +kernel⟩, inT (i := 14) (by decide +kernel) rfl, rfl, Nat.lt_of_succ_le (Nat.le_of_ble_eq_true rfl)⟩
theorem chk_264 : chkM (methZ 264) (bZ 264) (yZ 264).name 29 = true := by decide +kernel
theorem mok_264 : MOK 264 := by
  obtain ⟨h1, h2, h3⟩ := chkM_ok chk_264 (fun n h => (nn h : cdZ264 n = none))
  exact ⟨by decide +kernel, rfl, inT (i := 1763) (by decide +kernel) rfl, h1, h2, h3, Nat.le_of_ble_eq_true rfl, ⟨by decide +kernel, by decide +kernel⟩, inT (i := 14) (by decide +kernel) rfl, rfl, Nat.lt_of_succ_le (Nat.le_of_ble_eq_true rfl)⟩
theorem chk_265 : chkM (methZ 265) (bZ 265) (yZ 265).name 90 = true := by decide +kernel
theorem mok_265 : MOK 265 := by
  obtain ⟨h1, h2, h3⟩ := chkM_ok chk_265 (fun n h => (nn h : cdZ265 n = none))
  exact ⟨by decide +kernel, rfl, inT (i := 1770) (by decide +kernel) rfl, h1, h2, h3, Nat.le_of_ble_eq_true rfl, ⟨by decide +kernel, by decide +kernel⟩, inT (i := 14) (by decide +kernel) rfl, rfl, Nat.lt_of_succ_le (Nat.le_of_ble_eq_true rfl)⟩
theorem chk_266 : chkM (methZ 266) (bZ 266) (yZ 266).name 46 = true := by decide +kernel
theorem mok_266 : MOK 266 := by
  obtain ⟨h1, h2, h3⟩ := chkM_ok chk_266 (fun n h => (nn h : cdZ266 n = none))
  exact ⟨by decide +kernel, rfl, inT (i := 1774) (by decide +kernel) rfl, h1, h2, h3, Nat.le_of_ble_eq_true rfl, ⟨by decide +kernel, by decide +kernel⟩, inT (i := 14) (by decide +kernel) rfl, rfl, Nat.lt_of_succ_le (Nat.le_of_ble_eq_true rfl)⟩
theorem chk_267 : chkM (methZ 267) (bZ 267) (yZ 267).name 184 = true := by decide +kernel
theorem mok_267 : MOK 267 := by
  obtain ⟨h1, h2, h3⟩ := chkM_ok chk_267 (fun n h => (nn h : cdZ267 n = none))
  exact ⟨by decide +kernel, rfl, inT (i := 1778) (by decide +kernel) rfl, h1, h2, h3, Nat.le_of_ble_eq_true rfl, ⟨by decide +kernel, by decide +kernel⟩, inT (i := 14) (by decide +kernel) rfl, rfl, Nat.lt_of_succ_le (Nat.le_of_ble_eq_true rfl)⟩
theorem chk_268 : chkM (methZ 268) (bZ 268) (yZ 268).name 39 = true := by decide +kernel
theorem mok_268 : MOK 268 := by
  obtain ⟨h1, h2, h3⟩ := chkM_ok chk_268 (fun n h => (nn h : cdZ268 n = none))
  exact ⟨by decide +kernel, rfl, inT (i := 1782) (by decide +kernel) rfl, h1, h2, h3, Nat.le_of_ble_eq_true rfl, ⟨by decide +kernel, by decide +kernel⟩, inT (i := 14) (by decide +kernel) rfl, rfl, Nat.lt_of_succ_le (Nat.le_of_ble_eq_true rfl)⟩
theorem chk_269 : chkM (methZ 269) (bZ 269) (yZ 269).name 36 = true := by decide +kernel
theorem mok_269 : MOK 269 := by
  obtain ⟨h1, h2, h3⟩ := chkM_ok chk_269 (fun n h => (nn h : cdZ269 n = none))
  exact ⟨by decide +kernel, rfl, inT (i := 1786) (by decide +kernel) rfl, h1, h2, h3, Nat.le_of_ble_eq_true rfl, ⟨by decide +kernel, by decide +kernel⟩, inT (i := 14) (by decide +kernel) rfl, rfl, Nat.lt_of_succ_le (Nat.le_of_ble_eq_true rfl)⟩
