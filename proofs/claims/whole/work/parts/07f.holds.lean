/-! the links -/
theorem lf_0 : ∀ k v, lkF0 k = some v → (k, v) ∈ ([(14, (0, 0, 3)), (18, (0, 1, 3)), (21, (0, 2, 3)), (27, (0, 3, 3)), (34, (0, 4, 3)), (41, (0, 5, 3)), (50, (0, 6, 3)), (54, (0, 7, 3)), (60, (0, 8, 3)), (69, (0, 9, 3)), (78, (0, 10, 3)), (84, (0, 11, 3)), (88, (0, 12, 3)), (92, (0, 13, 3)), (96, (0, 14, 0)), (100, (0, 15, 0)), (103, (0, 0, 9)), (110, (10, 0, 3)), (116, (8, 1, 0)), (122, (10, 2, 0)), (129, (7, 0, 3)), (146, (11, 3, 0)), (149, (11, 1, 3)), (159, (9, 3, 3)), (166, (9, 5, 0)), (169, (7, 7, 0)), (176, (10, 3, 0)), (183, (2, 3, 3)), (191, (2, 2, 3)), (222, (4, 2, 0)), (234, (8, 0, 3)), (237, (6, 3, 3)), (249, (6, 4, 3)), (252, (6, 0, 3)), (255, (6, 1, 3)), (258, (6, 2, 3)), (340, (3, 0, 3)), (341, (3, 1, 3))] : List (Nat × Nat × Nat × Nat)) := ent (by decide +kernel) (fun k h => nn h)
theorem lf2_0 : ∀ e ∈ ([(14, (0, 0, 3)), (18, (0, 1, 3)), (21, (0, 2, 3)), (27, (0, 3, 3)), (34, (0, 4, 3)), (41, (0, 5, 3)), (50, (0, 6, 3)), (54, (0, 7, 3)), (60, (0, 8, 3)), (69, (0, 9, 3)), (78, (0, 10, 3)), (84, (0, 11, 3)), (88, (0, 12, 3)), (92, (0, 13, 3)), (96, (0, 14, 0)), (100, (0, 15, 0)), (103, (0, 0, 9)), (110, (10, 0, 3)), (116, (8, 1, 0)), (122, (10, 2, 0)), (129, (7, 0, 3)), (146, (11, 3, 0)), (149, (11, 1, 3)), (159, (9, 3, 3)), (166, (9, 5, 0)), (169, (7, 7, 0)), (176, (10, 3, 0)), (183, (2, 3, 3)), (191, (2, 2, 3)), (222, (4, 2, 0)), (234, (8, 0, 3)), (237, (6, 3, 3)), (249, (6, 4, 3)), (252, (6, 0, 3)), (255, (6, 1, 3)), (258, (6, 2, 3)), (340, (3, 0, 3)), (341, (3, 1, 3))] : List (Nat × Nat × Nat × Nat)), e.2.2.2 ≠ 9 → e.2.1 < 13 ∧ (fkZ e.2.1)[e.2.2.1]? = some e.2.2.2 ∧ (Cond.fieldLink (ownZ 0) e.1 (clC e.2.1) (clT e.2.1 e.2.2.1).2.1 (clT e.2.1 e.2.2.1).2.2.1 ∈ TsZ ∨ ∃ h, Cond.fieldLinkNest (ownZ 0) e.1 (clC e.2.1) (clT e.2.1 e.2.2.1).2.1 (clT e.2.1 e.2.2.1).2.2.1 h ∈ nestZ ∧ clC e.2.1 ≠ ownZ 0) := by
  refine List.forall_mem_cons.mpr ⟨fun _ => ⟨by decide, rfl, Or.inl (inT (i := 320) (by decide +kernel) rfl)⟩, ?_⟩
  refine List.forall_mem_cons.mpr ⟨fun _ => ⟨by decide, rfl, Or.inl (inT (i := 321) (by decide +kernel) rfl)⟩, ?_⟩
  refine List.forall_mem_cons.mpr ⟨fun _ => ⟨by decide, rfl, Or.inl (inT (i := 322) (by decide +kernel) rfl)⟩, ?_⟩
  refine List.forall_mem_cons.mpr ⟨fun _ => ⟨by decide, rfl, Or.inl (inT (i := 323) (by decide +kernel) rfl)⟩, ?_⟩
  refine List.forall_mem_cons.mpr ⟨fun _ => ⟨by decide, rfl, Or.inl (inT (i := 324) (by decide +kernel) rfl)⟩, ?_⟩
  refine List.forall_mem_cons.mpr ⟨fun _ => ⟨by decide, rfl, Or.inl (inT (i := 325) (by decide +kernel) rfl)⟩, ?_⟩
  refine List.forall_mem_cons.mpr ⟨fun _ => ⟨by decide, rfl, Or.inl (inT (i := 326) (by decide +kernel) rfl)⟩, ?_⟩
  refine List.forall_mem_cons.mpr ⟨fun _ => ⟨by decide, rfl, Or.inl (inT (i := 327) (by decide +kernel) rfl)⟩, ?_⟩
  refine List.forall_mem_cons.mpr ⟨fun _ => ⟨by decide, rfl, Or.inl (inT (i := 328) (by decide +kernel) rfl)⟩, ?_⟩
  refine List.forall_mem_cons.mpr ⟨fun _ => ⟨by decide, rfl, Or.inl (inT (i := 329) (by decide +kernel) rfl)⟩, ?_⟩
  refine List.forall_mem_cons.mpr ⟨fun _ => ⟨by decide, rfl, Or.inl (inT (i := 330) (by decide +kernel) rfl)⟩, ?_⟩
  refine List.forall_mem_cons.mpr ⟨fun _ => ⟨by decide, rfl, Or.inl (inT (i := 331) (by decide +kernel) rfl)⟩, ?_⟩
  refine List.forall_mem_cons.mpr ⟨fun _ => ⟨by decide, rfl, Or.inl (inT (i := 332) (by decide +kernel) rfl)⟩, ?_⟩
  refine List.forall_mem_cons.mpr ⟨fun _ => ⟨by decide, rfl, Or.inl (inT (i := 333) (by decide +kernel) rfl)⟩, ?_⟩
  refine List.forall_mem_cons.mpr ⟨fun _ => ⟨by decide, rfl, Or.inl (inT (i := 334) (by decide +kernel) rfl)⟩, ?_⟩
  refine List.forall_mem_cons.mpr ⟨fun _ => ⟨by decide, rfl, Or.inl (inT (i := 335) (by decide +kernel) rfl)⟩, ?_⟩
  refine List.forall_mem_cons.mpr ⟨fun h => absurd rfl h, ?_⟩
  refine List.forall_mem_cons.mpr ⟨fun _ => ⟨by decide, rfl, Or.inr ⟨"RecordHeap", inN (i := 142) (by decide +kernel) rfl, by decide +kernel⟩⟩, ?_⟩
  refine List.forall_mem_cons.mpr ⟨fun _ => ⟨by decide, rfl, Or.inr ⟨"RecordHeap", inN (i := 46) (by decide +kernel) rfl, by decide +kernel⟩⟩, ?_⟩
  refine List.forall_mem_cons.mpr ⟨fun _ => ⟨by decide, rfl, Or.inr ⟨"RecordHeap", inN (i := 147) (by decide +kernel) rfl, by decide +kernel⟩⟩, ?_⟩
  refine List.forall_mem_cons.mpr ⟨fun _ => ⟨by decide, rfl, Or.inr ⟨"RecordHeap", inN (i := 91) (by decide +kernel) rfl, by decide +kernel⟩⟩, ?_⟩
  refine List.forall_mem_cons.mpr ⟨fun _ => ⟨by decide, rfl, Or.inr ⟨"RecordHeap", inN (i := 77) (by decide +kernel) rfl, by decide +kernel⟩⟩, ?_⟩
  refine List.forall_mem_cons.mpr ⟨fun _ => ⟨by decide, rfl, Or.inr ⟨"RecordHeap", inN (i := 71) (by decide +kernel) rfl, by decide +kernel⟩⟩, ?_⟩
  refine List.forall_mem_cons.mpr ⟨fun _ => ⟨by decide, rfl, Or.inr ⟨"RecordHeap", inN (i := 270) (by decide +kernel) rfl, by decide +kernel⟩⟩, ?_⟩
  refine List.forall_mem_cons.mpr ⟨fun _ => ⟨by decide, rfl, Or.inr ⟨"RecordHeap", inN (i := 273) (by decide +kernel) rfl, by decide +kernel⟩⟩, ?_⟩
  refine List.forall_mem_cons.mpr ⟨fun _ => ⟨by decide, rfl, Or.inr ⟨"RecordHeap", inN (i := 99) (by decide +kernel) rfl, by decide +kernel⟩⟩, ?_⟩
  refine List.forall_mem_cons.mpr ⟨fun _ => ⟨by decide, rfl, Or.inr ⟨"RecordHeap", inN (i := 149) (by decide +kernel) rfl, by decide +kernel⟩⟩, ?_⟩
  refine List.forall_mem_cons.mpr ⟨fun _ => ⟨by decide, rfl, Or.inr ⟨"RecordHeap", inN (i := 217) (by decide +kernel) rfl, by decide +kernel⟩⟩, ?_⟩
  refine List.forall_mem_cons.mpr ⟨fun _ => ⟨by decide, rfl, Or.inr ⟨"RecordHeap", inN (i := 214) (by decide +kernel) rfl, by decide +kernel⟩⟩, ?_⟩
  refine List.forall_mem_cons.mpr ⟨fun _ => ⟨by decide, rfl, Or.inr ⟨"RecordHeap", inN (i := 248) (by decide +kernel) rfl, by decide +kernel⟩⟩, ?_⟩
  refine List.forall_mem_cons.mpr ⟨fun _ => ⟨by decide, rfl, Or.inr ⟨"RecordHeap", inN (i := 41) (by decide +kernel) rfl, by decide +kernel⟩⟩, ?_⟩
  refine List.forall_mem_cons.mpr ⟨fun _ => ⟨by decide, rfl, Or.inr ⟨"RecordHeap", inN (i := 185) (by decide +kernel) rfl, by decide +kernel⟩⟩, ?_⟩
  refine List.forall_mem_cons.mpr ⟨fun _ => ⟨by decide, rfl, Or.inr ⟨"RecordHeap", inN (i := 190) (by decide +kernel) rfl, by decide +kernel⟩⟩, ?_⟩
  refine List.forall_mem_cons.mpr ⟨fun _ => ⟨by decide, rfl, Or.inr ⟨"RecordHeap", inN (i := 176) (by decide +kernel) rfl, by decide +kernel⟩⟩, ?_⟩
  refine List.forall_mem_cons.mpr ⟨fun _ => ⟨by decide, rfl, Or.inr ⟨"RecordHeap", inN (i := 179) (by decide +kernel) rfl, by decide +kernel⟩⟩, ?_⟩
  refine List.forall_mem_cons.mpr ⟨fun _ => ⟨by decide, rfl, Or.inr ⟨"RecordHeap", inN (i := 182) (by decide +kernel) rfl, by decide +kernel⟩⟩, ?_⟩
  refine List.forall_mem_cons.mpr ⟨fun _ => ⟨by decide, rfl, Or.inr ⟨"RecordHeap", inN (i := 1009) (by decide +kernel) rfl, by decide +kernel⟩⟩, ?_⟩
  refine List.forall_mem_cons.mpr ⟨fun _ => ⟨by decide, rfl, Or.inr ⟨"RecordHeap", inN (i := 1011) (by decide +kernel) rfl, by decide +kernel⟩⟩, ?_⟩
  exact fun _ h => absurd h List.not_mem_nil
theorem lc_0 : ∀ k v, lkC0 k = some v → (k, v) ∈ ([(3, (0, 0, 0)), (11, (3, 1, 1)), (26, (3, 2, 0)), (33, (3, 4, 0)), (40, (3, 5, 0)), (47, (3, 6, 2)), (59, (3, 9, 0)), (66, (3, 10, 3)), (75, (3, 11, 2)), (106, (2, 13, 1)), (113, (2, 14, 1)), (119, (2, 16, 1)), (125, (2, 20, 2)), (133, (2, 37, 0)), (139, (2, 39, 1)), (143, (2, 41, 0)), (152, (2, 43, 2)), (156, (2, 85, 0)), (162, (2, 86, 1)), (172, (2, 60, 1)), (179, (2, 55, 1)), (187, (2, 83, 2)), (194, (2, 51, 1)), (199, (2, 72, 2)), (203, (2, 93, 1)), (206, (2, 80, 1)), (209, (1, 53, 1)), (212, (2, 95, 1)), (215, (2, 81, 1)), (218, (2, 82, 0)), (223, (2, 98, 1)), (227, (2, 100, 2)), (231, (2, 17, 1)), (240, (2, 103, 1)), (243, (2, 47, 1)), (246, (2, 66, 1)), (261, (2, 76, 2)), (264, (0, 1, 2)), (269, (1, 107, 1)), (272, (2, 58, 0)), (275, (2, 61, 2)), (279, (2, 110, 1)), (282, (2, 74, 1)), (285, (1, 112, 1)), (290, (2, 114, 1)), (293, (2, 117, 2)), (297, (2, 42, 1)), (301, (2, 54, 2)), (305, (2, 120, 1)), (310, (1, 122, 2)), (320, (2, 59, 1)), (325, (2, 125, 1)), (327, (2, 126, 0)), (330, (2, 128, 0)), (333, (2, 45, 0)), (336, (2, 130, 2)), (339, (3, 132, 0)), (342, (2, 133, 1)), (345, (2, 136, 0)), (348, (2, 46, 1)), (351, (2, 137, 1))] : List (Nat × Nat × Nat × Nat)) := ent (by decide +kernel) (fun k h => nn h)
theorem lc2_0 : ∀ e ∈ ([(3, (0, 0, 0)), (11, (3, 1, 1)), (26, (3, 2, 0)), (33, (3, 4, 0)), (40, (3, 5, 0)), (47, (3, 6, 2)), (59, (3, 9, 0)), (66, (3, 10, 3)), (75, (3, 11, 2)), (106, (2, 13, 1)), (113, (2, 14, 1)), (119, (2, 16, 1)), (125, (2, 20, 2)), (133, (2, 37, 0)), (139, (2, 39, 1)), (143, (2, 41, 0)), (152, (2, 43, 2)), (156, (2, 85, 0)), (162, (2, 86, 1)), (172, (2, 60, 1)), (179, (2, 55, 1)), (187, (2, 83, 2)), (194, (2, 51, 1)), (199, (2, 72, 2)), (203, (2, 93, 1)), (206, (2, 80, 1)), (209, (1, 53, 1)), (212, (2, 95, 1)), (215, (2, 81, 1)), (218, (2, 82, 0)), (223, (2, 98, 1)), (227, (2, 100, 2)), (231, (2, 17, 1)), (240, (2, 103, 1)), (243, (2, 47, 1)), (246, (2, 66, 1)), (261, (2, 76, 2)), (264, (0, 1, 2)), (269, (1, 107, 1)), (272, (2, 58, 0)), (275, (2, 61, 2)), (279, (2, 110, 1)), (282, (2, 74, 1)), (285, (1, 112, 1)), (290, (2, 114, 1)), (293, (2, 117, 2)), (297, (2, 42, 1)), (301, (2, 54, 2)), (305, (2, 120, 1)), (310, (1, 122, 2)), (320, (2, 59, 1)), (325, (2, 125, 1)), (327, (2, 126, 0)), (330, (2, 128, 0)), (333, (2, 45, 0)), (336, (2, 130, 2)), (339, (3, 132, 0)), (342, (2, 133, 1)), (345, (2, 136, 0)), (348, (2, 46, 1)), (351, (2, 137, 1))] : List (Nat × Nat × Nat × Nat)), e.2.1 ≠ 0 → e.2.2.1 < 271 ∧ (parseMethodDescriptor (yZ e.2.2.1).desc).map (fun d => d.parameters.length) = some e.2.2.2 ∧ (Cond.methodLink (ownZ 0) e.1 (yZ e.2.2.1) ∈ TsZ ∨ ∃ h, Cond.methodLinkNest (ownZ 0) e.1 (yZ e.2.2.1) h ∈ nestZ) ∧ (e.2.1 = 1 → Cond.static (yZ e.2.2.1) ∈ TsZ) ∧ (e.2.1 = 2 → Cond.instanceMethod (yZ e.2.2.1) ∈ TsZ ∧ Cond.selects (yZ e.2.2.1).cls (yZ e.2.2.1) (yZ e.2.2.1) ∈ TsZ ∧ (methZ e.2.2.1).2.1 < 13) ∧ (e.2.1 = 3 → Cond.instanceMethod (yZ e.2.2.1) ∈ TsZ ∧ (yZ e.2.2.1).name = "<init>" ∧ rZ e.2.2.1 = none) := by
  refine List.forall_mem_cons.mpr ⟨fun h => absurd rfl h, ?_⟩
  refine List.forall_mem_cons.mpr ⟨fun _ => ⟨by decide, by decide +kernel, Or.inr ⟨"RecordHeap", inN (i := 32) (by decide +kernel) rfl⟩, fun h => absurd h (by decide), fun h => absurd h (by decide), fun _ => ⟨inT (i := 33) (by decide +kernel) rfl, rfl, rfl⟩⟩, ?_⟩
  refine List.forall_mem_cons.mpr ⟨fun _ => ⟨by decide, by decide +kernel, Or.inr ⟨"RecordHeap", inN (i := 56) (by decide +kernel) rfl⟩, fun h => absurd h (by decide), fun h => absurd h (by decide), fun _ => ⟨inT (i := 57) (by decide +kernel) rfl, rfl, rfl⟩⟩, ?_⟩
  refine List.forall_mem_cons.mpr ⟨fun _ => ⟨by decide, by decide +kernel, Or.inr ⟨"RecordHeap", inN (i := 119) (by decide +kernel) rfl⟩, fun h => absurd h (by decide), fun h => absurd h (by decide), fun _ => ⟨inT (i := 120) (by decide +kernel) rfl, rfl, rfl⟩⟩, ?_⟩
  refine List.forall_mem_cons.mpr ⟨fun _ => ⟨by decide, by decide +kernel, Or.inr ⟨"RecordHeap", inN (i := 135) (by decide +kernel) rfl⟩, fun h => absurd h (by decide), fun h => absurd h (by decide), fun _ => ⟨inT (i := 136) (by decide +kernel) rfl, rfl, rfl⟩⟩, ?_⟩
  refine List.forall_mem_cons.mpr ⟨fun _ => ⟨by decide, by decide +kernel, Or.inr ⟨"RecordHeap", inN (i := 161) (by decide +kernel) rfl⟩, fun h => absurd h (by decide), fun h => absurd h (by decide), fun _ => ⟨inT (i := 162) (by decide +kernel) rfl, rfl, rfl⟩⟩, ?_⟩
  refine List.forall_mem_cons.mpr ⟨fun _ => ⟨by decide, by decide +kernel, Or.inr ⟨"RecordHeap", inN (i := 238) (by decide +kernel) rfl⟩, fun h => absurd h (by decide), fun h => absurd h (by decide), fun _ => ⟨inT (i := 239) (by decide +kernel) rfl, rfl, rfl⟩⟩, ?_⟩
  refine List.forall_mem_cons.mpr ⟨fun _ => ⟨by decide, by decide +kernel, Or.inr ⟨"RecordHeap", inN (i := 258) (by decide +kernel) rfl⟩, fun h => absurd h (by decide), fun h => absurd h (by decide), fun _ => ⟨inT (i := 259) (by decide +kernel) rfl, rfl, rfl⟩⟩, ?_⟩
  refine List.forall_mem_cons.mpr ⟨fun _ => ⟨by decide, by decide +kernel, Or.inr ⟨"RecordHeap", inN (i := 292) (by decide +kernel) rfl⟩, fun h => absurd h (by decide), fun h => absurd h (by decide), fun _ => ⟨inT (i := 293) (by decide +kernel) rfl, rfl, rfl⟩⟩, ?_⟩
  refine List.forall_mem_cons.mpr ⟨fun _ => ⟨by decide, by decide +kernel, Or.inl (inT (i := 375) (by decide +kernel) rfl), fun h => absurd h (by decide), fun _ => ⟨inT (i := 377) (by decide +kernel) rfl, inS (i := 0) (n := 16) (by decide +kernel), Nat.lt_of_succ_le (Nat.le_of_ble_eq_true rfl)⟩, fun h => absurd h (by decide)⟩, ?_⟩
  refine List.forall_mem_cons.mpr ⟨fun _ => ⟨by decide, by decide +kernel, Or.inl (inT (i := 379) (by decide +kernel) rfl), fun h => absurd h (by decide), fun _ => ⟨inT (i := 381) (by decide +kernel) rfl, inS (i := 1) (n := 16) (by decide +kernel), Nat.lt_of_succ_le (Nat.le_of_ble_eq_true rfl)⟩, fun h => absurd h (by decide)⟩, ?_⟩
  refine List.forall_mem_cons.mpr ⟨fun _ => ⟨by decide, by decide +kernel, Or.inr ⟨"RecordHeap", inN (i := 387) (by decide +kernel) rfl⟩, fun h => absurd h (by decide), fun _ => ⟨inT (i := 389) (by decide +kernel) rfl, inS (i := 2) (n := 2) (by decide +kernel), Nat.lt_of_succ_le (Nat.le_of_ble_eq_true rfl)⟩, fun h => absurd h (by decide)⟩, ?_⟩
  refine List.forall_mem_cons.mpr ⟨fun _ => ⟨by decide, by decide +kernel, Or.inr ⟨"RecordHeap", inN (i := 403) (by decide +kernel) rfl⟩, fun h => absurd h (by decide), fun _ => ⟨inT (i := 405) (by decide +kernel) rfl, inS (i := 4) (n := 8) (by decide +kernel), Nat.lt_of_succ_le (Nat.le_of_ble_eq_true rfl)⟩, fun h => absurd h (by decide)⟩, ?_⟩
  refine List.forall_mem_cons.mpr ⟨fun _ => ⟨by decide, by decide +kernel, Or.inr ⟨"RecordHeap", inN (i := 540) (by decide +kernel) rfl⟩, fun h => absurd h (by decide), fun _ => ⟨inT (i := 542) (by decide +kernel) rfl, inS (i := 20) (n := 4) (by decide +kernel), Nat.lt_of_succ_le (Nat.le_of_ble_eq_true rfl)⟩, fun h => absurd h (by decide)⟩, ?_⟩
  refine List.forall_mem_cons.mpr ⟨fun _ => ⟨by decide, by decide +kernel, Or.inr ⟨"RecordHeap", inN (i := 560) (by decide +kernel) rfl⟩, fun h => absurd h (by decide), fun _ => ⟨inT (i := 562) (by decide +kernel) rfl, inS (i := 21) (n := 4) (by decide +kernel), Nat.lt_of_succ_le (Nat.le_of_ble_eq_true rfl)⟩, fun h => absurd h (by decide)⟩, ?_⟩
  refine List.forall_mem_cons.mpr ⟨fun _ => ⟨by decide, by decide +kernel, Or.inr ⟨"RecordHeap", inN (i := 569) (by decide +kernel) rfl⟩, fun h => absurd h (by decide), fun _ => ⟨inT (i := 571) (by decide +kernel) rfl, inS (i := 22) (n := 7) (by decide +kernel), Nat.lt_of_succ_le (Nat.le_of_ble_eq_true rfl)⟩, fun h => absurd h (by decide)⟩, ?_⟩
  refine List.forall_mem_cons.mpr ⟨fun _ => ⟨by decide, by decide +kernel, Or.inr ⟨"RecordHeap", inN (i := 578) (by decide +kernel) rfl⟩, fun h => absurd h (by decide), fun _ => ⟨inT (i := 580) (by decide +kernel) rfl, inS (i := 24) (n := 7) (by decide +kernel), Nat.lt_of_succ_le (Nat.le_of_ble_eq_true rfl)⟩, fun h => absurd h (by decide)⟩, ?_⟩
  refine List.forall_mem_cons.mpr ⟨fun _ => ⟨by decide, by decide +kernel, Or.inr ⟨"RecordHeap", inN (i := 769) (by decide +kernel) rfl⟩, fun h => absurd h (by decide), fun _ => ⟨inT (i := 771) (by decide +kernel) rfl, inS (i := 63) (n := 7) (by decide +kernel), Nat.lt_of_succ_le (Nat.le_of_ble_eq_true rfl)⟩, fun h => absurd h (by decide)⟩, ?_⟩
  refine List.forall_mem_cons.mpr ⟨fun _ => ⟨by decide, by decide +kernel, Or.inr ⟨"RecordHeap", inN (i := 773) (by decide +kernel) rfl⟩, fun h => absurd h (by decide), fun _ => ⟨inT (i := 775) (by decide +kernel) rfl, inS (i := 64) (n := 3) (by decide +kernel), Nat.lt_of_succ_le (Nat.le_of_ble_eq_true rfl)⟩, fun h => absurd h (by decide)⟩, ?_⟩
  refine List.forall_mem_cons.mpr ⟨fun _ => ⟨by decide, by decide +kernel, Or.inr ⟨"RecordHeap", inN (i := 790) (by decide +kernel) rfl⟩, fun h => absurd h (by decide), fun _ => ⟨inT (i := 651) (by decide +kernel) rfl, inS (i := 38) (n := 4) (by decide +kernel), Nat.lt_of_succ_le (Nat.le_of_ble_eq_true rfl)⟩, fun h => absurd h (by decide)⟩, ?_⟩
  refine List.forall_mem_cons.mpr ⟨fun _ => ⟨by decide, by decide +kernel, Or.inr ⟨"RecordHeap", inN (i := 795) (by decide +kernel) rfl⟩, fun h => absurd h (by decide), fun _ => ⟨inT (i := 630) (by decide +kernel) rfl, inS (i := 33) (n := 7) (by decide +kernel), Nat.lt_of_succ_le (Nat.le_of_ble_eq_true rfl)⟩, fun h => absurd h (by decide)⟩, ?_⟩
  refine List.forall_mem_cons.mpr ⟨fun _ => ⟨by decide, by decide +kernel, Or.inr ⟨"RecordHeap", inN (i := 796) (by decide +kernel) rfl⟩, fun h => absurd h (by decide), fun _ => ⟨inT (i := 761) (by decide +kernel) rfl, inS (i := 61) (n := 3) (by decide +kernel), Nat.lt_of_succ_le (Nat.le_of_ble_eq_true rfl)⟩, fun h => absurd h (by decide)⟩, ?_⟩
  refine List.forall_mem_cons.mpr ⟨fun _ => ⟨by decide, by decide +kernel, Or.inr ⟨"RecordHeap", inN (i := 801) (by decide +kernel) rfl⟩, fun h => absurd h (by decide), fun _ => ⟨inT (i := 616) (by decide +kernel) rfl, inS (i := 31) (n := 6) (by decide +kernel), Nat.lt_of_succ_le (Nat.le_of_ble_eq_true rfl)⟩, fun h => absurd h (by decide)⟩, ?_⟩
  refine List.forall_mem_cons.mpr ⟨fun _ => ⟨by decide, by decide +kernel, Or.inr ⟨"RecordHeap", inN (i := 802) (by decide +kernel) rfl⟩, fun h => absurd h (by decide), fun _ => ⟨inT (i := 715) (by decide +kernel) rfl, inS (i := 50) (n := 7) (by decide +kernel), Nat.lt_of_succ_le (Nat.le_of_ble_eq_true rfl)⟩, fun h => absurd h (by decide)⟩, ?_⟩
  refine List.forall_mem_cons.mpr ⟨fun _ => ⟨by decide, by decide +kernel, Or.inr ⟨"RecordHeap", inN (i := 807) (by decide +kernel) rfl⟩, fun h => absurd h (by decide), fun _ => ⟨inT (i := 809) (by decide +kernel) rfl, inS (i := 65) (n := 6) (by decide +kernel), Nat.lt_of_succ_le (Nat.le_of_ble_eq_true rfl)⟩, fun h => absurd h (by decide)⟩, ?_⟩
  refine List.forall_mem_cons.mpr ⟨fun _ => ⟨by decide, by decide +kernel, Or.inr ⟨"RecordHeap", inN (i := 812) (by decide +kernel) rfl⟩, fun h => absurd h (by decide), fun _ => ⟨inT (i := 749) (by decide +kernel) rfl, inS (i := 58) (n := 7) (by decide +kernel), Nat.lt_of_succ_le (Nat.le_of_ble_eq_true rfl)⟩, fun h => absurd h (by decide)⟩, ?_⟩
  refine List.forall_mem_cons.mpr ⟨fun _ => ⟨by decide, by decide +kernel, Or.inl (inT (i := 817) (by decide +kernel) rfl), fun _ => inT (i := 622) (by decide +kernel) rfl, fun h => absurd h (by decide), fun h => absurd h (by decide)⟩, ?_⟩
  refine List.forall_mem_cons.mpr ⟨fun _ => ⟨by decide, by decide +kernel, Or.inr ⟨"RecordHeap", inN (i := 818) (by decide +kernel) rfl⟩, fun h => absurd h (by decide), fun _ => ⟨inT (i := 820) (by decide +kernel) rfl, inS (i := 66) (n := 6) (by decide +kernel), Nat.lt_of_succ_le (Nat.le_of_ble_eq_true rfl)⟩, fun h => absurd h (by decide)⟩, ?_⟩
  refine List.forall_mem_cons.mpr ⟨fun _ => ⟨by decide, by decide +kernel, Or.inr ⟨"RecordHeap", inN (i := 823) (by decide +kernel) rfl⟩, fun h => absurd h (by decide), fun _ => ⟨inT (i := 753) (by decide +kernel) rfl, inS (i := 59) (n := 7) (by decide +kernel), Nat.lt_of_succ_le (Nat.le_of_ble_eq_true rfl)⟩, fun h => absurd h (by decide)⟩, ?_⟩
  refine List.forall_mem_cons.mpr ⟨fun _ => ⟨by decide, by decide +kernel, Or.inr ⟨"RecordHeap", inN (i := 828) (by decide +kernel) rfl⟩, fun h => absurd h (by decide), fun _ => ⟨inT (i := 757) (by decide +kernel) rfl, inS (i := 60) (n := 7) (by decide +kernel), Nat.lt_of_succ_le (Nat.le_of_ble_eq_true rfl)⟩, fun h => absurd h (by decide)⟩, ?_⟩
  refine List.forall_mem_cons.mpr ⟨fun _ => ⟨by decide, by decide +kernel, Or.inr ⟨"RecordHeap", inN (i := 833) (by decide +kernel) rfl⟩, fun h => absurd h (by decide), fun _ => ⟨inT (i := 835) (by decide +kernel) rfl, inS (i := 67) (n := 3) (by decide +kernel), Nat.lt_of_succ_le (Nat.le_of_ble_eq_true rfl)⟩, fun h => absurd h (by decide)⟩, ?_⟩
  refine List.forall_mem_cons.mpr ⟨fun _ => ⟨by decide, by decide +kernel, Or.inr ⟨"RecordHeap", inN (i := 841) (by decide +kernel) rfl⟩, fun h => absurd h (by decide), fun _ => ⟨inT (i := 843) (by decide +kernel) rfl, inS (i := 68) (n := 6) (by decide +kernel), Nat.lt_of_succ_le (Nat.le_of_ble_eq_true rfl)⟩, fun h => absurd h (by decide)⟩, ?_⟩
  refine List.forall_mem_cons.mpr ⟨fun _ => ⟨by decide, by decide +kernel, Or.inr ⟨"RecordHeap", inN (i := 845) (by decide +kernel) rfl⟩, fun h => absurd h (by decide), fun _ => ⟨inT (i := 393) (by decide +kernel) rfl, inS (i := 3) (n := 2) (by decide +kernel), Nat.lt_of_succ_le (Nat.le_of_ble_eq_true rfl)⟩, fun h => absurd h (by decide)⟩, ?_⟩
  refine List.forall_mem_cons.mpr ⟨fun _ => ⟨by decide, by decide +kernel, Or.inr ⟨"RecordHeap", inN (i := 854) (by decide +kernel) rfl⟩, fun h => absurd h (by decide), fun _ => ⟨inT (i := 856) (by decide +kernel) rfl, inS (i := 69) (n := 6) (by decide +kernel), Nat.lt_of_succ_le (Nat.le_of_ble_eq_true rfl)⟩, fun h => absurd h (by decide)⟩, ?_⟩
  refine List.forall_mem_cons.mpr ⟨fun _ => ⟨by decide, by decide +kernel, Or.inr ⟨"RecordHeap", inN (i := 858) (by decide +kernel) rfl⟩, fun h => absurd h (by decide), fun _ => ⟨inT (i := 596) (by decide +kernel) rfl, inS (i := 28) (n := 6) (by decide +kernel), Nat.lt_of_succ_le (Nat.le_of_ble_eq_true rfl)⟩, fun h => absurd h (by decide)⟩, ?_⟩
  refine List.forall_mem_cons.mpr ⟨fun _ => ⟨by decide, by decide +kernel, Or.inr ⟨"RecordHeap", inN (i := 859) (by decide +kernel) rfl⟩, fun h => absurd h (by decide), fun _ => ⟨inT (i := 687) (by decide +kernel) rfl, inS (i := 44) (n := 6) (by decide +kernel), Nat.lt_of_succ_le (Nat.le_of_ble_eq_true rfl)⟩, fun h => absurd h (by decide)⟩, ?_⟩
  refine List.forall_mem_cons.mpr ⟨fun _ => ⟨by decide, by decide +kernel, Or.inr ⟨"RecordHeap", inN (i := 864) (by decide +kernel) rfl⟩, fun h => absurd h (by decide), fun _ => ⟨inT (i := 731) (by decide +kernel) rfl, inS (i := 54) (n := 6) (by decide +kernel), Nat.lt_of_succ_le (Nat.le_of_ble_eq_true rfl)⟩, fun h => absurd h (by decide)⟩, ?_⟩
  refine List.forall_mem_cons.mpr ⟨fun h => absurd rfl h, ?_⟩
  refine List.forall_mem_cons.mpr ⟨fun _ => ⟨by decide, by decide +kernel, Or.inl (inT (i := 874) (by decide +kernel) rfl), fun _ => inT (i := 875) (by decide +kernel) rfl, fun h => absurd h (by decide), fun h => absurd h (by decide)⟩, ?_⟩
  refine List.forall_mem_cons.mpr ⟨fun _ => ⟨by decide, by decide +kernel, Or.inr ⟨"RecordHeap", inN (i := 877) (by decide +kernel) rfl⟩, fun h => absurd h (by decide), fun _ => ⟨inT (i := 643) (by decide +kernel) rfl, inS (i := 36) (n := 4) (by decide +kernel), Nat.lt_of_succ_le (Nat.le_of_ble_eq_true rfl)⟩, fun h => absurd h (by decide)⟩, ?_⟩
  refine List.forall_mem_cons.mpr ⟨fun _ => ⟨by decide, by decide +kernel, Or.inr ⟨"RecordHeap", inN (i := 878) (by decide +kernel) rfl⟩, fun h => absurd h (by decide), fun _ => ⟨inT (i := 655) (by decide +kernel) rfl, inS (i := 39) (n := 7) (by decide +kernel), Nat.lt_of_succ_le (Nat.le_of_ble_eq_true rfl)⟩, fun h => absurd h (by decide)⟩, ?_⟩
  refine List.forall_mem_cons.mpr ⟨fun _ => ⟨by decide, by decide +kernel, Or.inr ⟨"RecordHeap", inN (i := 887) (by decide +kernel) rfl⟩, fun h => absurd h (by decide), fun _ => ⟨inT (i := 889) (by decide +kernel) rfl, inS (i := 70) (n := 6) (by decide +kernel), Nat.lt_of_succ_le (Nat.le_of_ble_eq_true rfl)⟩, fun h => absurd h (by decide)⟩, ?_⟩
  refine List.forall_mem_cons.mpr ⟨fun _ => ⟨by decide, by decide +kernel, Or.inr ⟨"RecordHeap", inN (i := 897) (by decide +kernel) rfl⟩, fun h => absurd h (by decide), fun _ => ⟨inT (i := 723) (by decide +kernel) rfl, inS (i := 52) (n := 6) (by decide +kernel), Nat.lt_of_succ_le (Nat.le_of_ble_eq_true rfl)⟩, fun h => absurd h (by decide)⟩, ?_⟩
  refine List.forall_mem_cons.mpr ⟨fun _ => ⟨by decide, by decide +kernel, Or.inl (inT (i := 898) (by decide +kernel) rfl), fun _ => inT (i := 899) (by decide +kernel) rfl, fun h => absurd h (by decide), fun h => absurd h (by decide)⟩, ?_⟩
  refine List.forall_mem_cons.mpr ⟨fun _ => ⟨by decide, by decide +kernel, Or.inr ⟨"RecordHeap", inN (i := 908) (by decide +kernel) rfl⟩, fun h => absurd h (by decide), fun _ => ⟨inT (i := 910) (by decide +kernel) rfl, inS (i := 71) (n := 6) (by decide +kernel), Nat.lt_of_succ_le (Nat.le_of_ble_eq_true rfl)⟩, fun h => absurd h (by decide)⟩, ?_⟩
  refine List.forall_mem_cons.mpr ⟨fun _ => ⟨by decide, by decide +kernel, Or.inr ⟨"RecordHeap", inN (i := 921) (by decide +kernel) rfl⟩, fun h => absurd h (by decide), fun _ => ⟨inT (i := 923) (by decide +kernel) rfl, inS (i := 73) (n := 6) (by decide +kernel), Nat.lt_of_succ_le (Nat.le_of_ble_eq_true rfl)⟩, fun h => absurd h (by decide)⟩, ?_⟩
  refine List.forall_mem_cons.mpr ⟨fun _ => ⟨by decide, by decide +kernel, Or.inr ⟨"RecordHeap", inN (i := 930) (by decide +kernel) rfl⟩, fun h => absurd h (by decide), fun _ => ⟨inT (i := 575) (by decide +kernel) rfl, inS (i := 23) (n := 6) (by decide +kernel), Nat.lt_of_succ_le (Nat.le_of_ble_eq_true rfl)⟩, fun h => absurd h (by decide)⟩, ?_⟩
  refine List.forall_mem_cons.mpr ⟨fun _ => ⟨by decide, by decide +kernel, Or.inr ⟨"RecordHeap", inN (i := 931) (by decide +kernel) rfl⟩, fun h => absurd h (by decide), fun _ => ⟨inT (i := 626) (by decide +kernel) rfl, inS (i := 32) (n := 2) (by decide +kernel), Nat.lt_of_succ_le (Nat.le_of_ble_eq_true rfl)⟩, fun h => absurd h (by decide)⟩, ?_⟩
  refine List.forall_mem_cons.mpr ⟨fun _ => ⟨by decide, by decide +kernel, Or.inr ⟨"RecordHeap", inN (i := 936) (by decide +kernel) rfl⟩, fun h => absurd h (by decide), fun _ => ⟨inT (i := 938) (by decide +kernel) rfl, inS (i := 74) (n := 6) (by decide +kernel), Nat.lt_of_succ_le (Nat.le_of_ble_eq_true rfl)⟩, fun h => absurd h (by decide)⟩, ?_⟩
  refine List.forall_mem_cons.mpr ⟨fun _ => ⟨by decide, by decide +kernel, Or.inl (inT (i := 946) (by decide +kernel) rfl), fun _ => inT (i := 947) (by decide +kernel) rfl, fun h => absurd h (by decide), fun h => absurd h (by decide)⟩, ?_⟩
  refine List.forall_mem_cons.mpr ⟨fun _ => ⟨by decide, by decide +kernel, Or.inr ⟨"RecordHeap", inN (i := 955) (by decide +kernel) rfl⟩, fun h => absurd h (by decide), fun _ => ⟨inT (i := 647) (by decide +kernel) rfl, inS (i := 37) (n := 4) (by decide +kernel), Nat.lt_of_succ_le (Nat.le_of_ble_eq_true rfl)⟩, fun h => absurd h (by decide)⟩, ?_⟩
  refine List.forall_mem_cons.mpr ⟨fun _ => ⟨by decide, by decide +kernel, Or.inr ⟨"RecordHeap", inN (i := 961) (by decide +kernel) rfl⟩, fun h => absurd h (by decide), fun _ => ⟨inT (i := 963) (by decide +kernel) rfl, inS (i := 75) (n := 7) (by decide +kernel), Nat.lt_of_succ_le (Nat.le_of_ble_eq_true rfl)⟩, fun h => absurd h (by decide)⟩, ?_⟩
  refine List.forall_mem_cons.mpr ⟨fun _ => ⟨by decide, by decide +kernel, Or.inr ⟨"RecordHeap", inN (i := 965) (by decide +kernel) rfl⟩, fun h => absurd h (by decide), fun _ => ⟨inT (i := 967) (by decide +kernel) rfl, inS (i := 76) (n := 7) (by decide +kernel), Nat.lt_of_succ_le (Nat.le_of_ble_eq_true rfl)⟩, fun h => absurd h (by decide)⟩, ?_⟩
  refine List.forall_mem_cons.mpr ⟨fun _ => ⟨by decide, by decide +kernel, Or.inr ⟨"RecordHeap", inN (i := 980) (by decide +kernel) rfl⟩, fun h => absurd h (by decide), fun _ => ⟨inT (i := 982) (by decide +kernel) rfl, inS (i := 78) (n := 7) (by decide +kernel), Nat.lt_of_succ_le (Nat.le_of_ble_eq_true rfl)⟩, fun h => absurd h (by decide)⟩, ?_⟩
  refine List.forall_mem_cons.mpr ⟨fun _ => ⟨by decide, by decide +kernel, Or.inr ⟨"RecordHeap", inN (i := 986) (by decide +kernel) rfl⟩, fun h => absurd h (by decide), fun _ => ⟨inT (i := 588) (by decide +kernel) rfl, inS (i := 26) (n := 6) (by decide +kernel), Nat.lt_of_succ_le (Nat.le_of_ble_eq_true rfl)⟩, fun h => absurd h (by decide)⟩, ?_⟩
  refine List.forall_mem_cons.mpr ⟨fun _ => ⟨by decide, by decide +kernel, Or.inr ⟨"RecordHeap", inN (i := 991) (by decide +kernel) rfl⟩, fun h => absurd h (by decide), fun _ => ⟨inT (i := 993) (by decide +kernel) rfl, inS (i := 79) (n := 7) (by decide +kernel), Nat.lt_of_succ_le (Nat.le_of_ble_eq_true rfl)⟩, fun h => absurd h (by decide)⟩, ?_⟩
  refine List.forall_mem_cons.mpr ⟨fun _ => ⟨by decide, by decide +kernel, Or.inr ⟨"RecordHeap", inN (i := 1000) (by decide +kernel) rfl⟩, fun h => absurd h (by decide), fun h => absurd h (by decide), fun _ => ⟨inT (i := 1001) (by decide +kernel) rfl, rfl, rfl⟩⟩, ?_⟩
  refine List.forall_mem_cons.mpr ⟨fun _ => ⟨by decide, by decide +kernel, Or.inr ⟨"RecordHeap", inN (i := 1017) (by decide +kernel) rfl⟩, fun h => absurd h (by decide), fun _ => ⟨inT (i := 1019) (by decide +kernel) rfl, inS (i := 80) (n := 4) (by decide +kernel), Nat.lt_of_succ_le (Nat.le_of_ble_eq_true rfl)⟩, fun h => absurd h (by decide)⟩, ?_⟩
  refine List.forall_mem_cons.mpr ⟨fun _ => ⟨by decide, by decide +kernel, Or.inr ⟨"RecordHeap", inN (i := 1030) (by decide +kernel) rfl⟩, fun h => absurd h (by decide), fun _ => ⟨inT (i := 1032) (by decide +kernel) rfl, inS (i := 81) (n := 6) (by decide +kernel), Nat.lt_of_succ_le (Nat.le_of_ble_eq_true rfl)⟩, fun h => absurd h (by decide)⟩, ?_⟩
  refine List.forall_mem_cons.mpr ⟨fun _ => ⟨by decide, by decide +kernel, Or.inr ⟨"RecordHeap", inN (i := 1034) (by decide +kernel) rfl⟩, fun h => absurd h (by decide), fun _ => ⟨inT (i := 592) (by decide +kernel) rfl, inS (i := 27) (n := 6) (by decide +kernel), Nat.lt_of_succ_le (Nat.le_of_ble_eq_true rfl)⟩, fun h => absurd h (by decide)⟩, ?_⟩
  refine List.forall_mem_cons.mpr ⟨fun _ => ⟨by decide, by decide +kernel, Or.inl (inT (i := 1035) (by decide +kernel) rfl), fun h => absurd h (by decide), fun _ => ⟨inT (i := 1037) (by decide +kernel) rfl, inS (i := 82) (n := 16) (by decide +kernel), Nat.lt_of_succ_le (Nat.le_of_ble_eq_true rfl)⟩, fun h => absurd h (by decide)⟩, ?_⟩
  exact fun _ h => absurd h List.not_mem_nil
theorem cok_0 : COK 0 := fun k how x na h h0 => lc2_0 _ (lc_0 k _ h) h0
theorem pok_0 : POK 0 := by
  intro k x na h
  have hm := lc_0 k _ h
  simp only [List.mem_cons, List.not_mem_nil, or_false, Prod.mk.injEq] at hm
  rcases hm with ⟨rfl, h0, rfl, rfl⟩ | ⟨rfl, h0, rfl, rfl⟩ | ⟨rfl, h0, rfl, rfl⟩ | ⟨rfl, h0, rfl, rfl⟩ | ⟨rfl, h0, rfl, rfl⟩ | ⟨rfl, h0, rfl, rfl⟩ | ⟨rfl, h0, rfl, rfl⟩ | ⟨rfl, h0, rfl, rfl⟩ | ⟨rfl, h0, rfl, rfl⟩ | ⟨rfl, h0, rfl, rfl⟩ | ⟨rfl, h0, rfl, rfl⟩ | ⟨rfl, h0, rfl, rfl⟩ | ⟨rfl, h0, rfl, rfl⟩ | ⟨rfl, h0, rfl, rfl⟩ | ⟨rfl, h0, rfl, rfl⟩ | ⟨rfl, h0, rfl, rfl⟩ | ⟨rfl, h0, rfl, rfl⟩ | ⟨rfl, h0, rfl, rfl⟩ | ⟨rfl, h0, rfl, rfl⟩ | ⟨rfl, h0, rfl, rfl⟩ | ⟨rfl, h0, rfl, rfl⟩ | ⟨rfl, h0, rfl, rfl⟩ | ⟨rfl, h0, rfl, rfl⟩ | ⟨rfl, h0, rfl, rfl⟩ | ⟨rfl, h0, rfl, rfl⟩ | ⟨rfl, h0, rfl, rfl⟩ | ⟨rfl, h0, rfl, rfl⟩ | ⟨rfl, h0, rfl, rfl⟩ | ⟨rfl, h0, rfl, rfl⟩ | ⟨rfl, h0, rfl, rfl⟩ | ⟨rfl, h0, rfl, rfl⟩ | ⟨rfl, h0, rfl, rfl⟩ | ⟨rfl, h0, rfl, rfl⟩ | ⟨rfl, h0, rfl, rfl⟩ | ⟨rfl, h0, rfl, rfl⟩ | ⟨rfl, h0, rfl, rfl⟩ | ⟨rfl, h0, rfl, rfl⟩ | ⟨rfl, h0, rfl, rfl⟩ | ⟨rfl, h0, rfl, rfl⟩ | ⟨rfl, h0, rfl, rfl⟩ | ⟨rfl, h0, rfl, rfl⟩ | ⟨rfl, h0, rfl, rfl⟩ | ⟨rfl, h0, rfl, rfl⟩ | ⟨rfl, h0, rfl, rfl⟩ | ⟨rfl, h0, rfl, rfl⟩ | ⟨rfl, h0, rfl, rfl⟩ | ⟨rfl, h0, rfl, rfl⟩ | ⟨rfl, h0, rfl, rfl⟩ | ⟨rfl, h0, rfl, rfl⟩ | ⟨rfl, h0, rfl, rfl⟩ | ⟨rfl, h0, rfl, rfl⟩ | ⟨rfl, h0, rfl, rfl⟩ | ⟨rfl, h0, rfl, rfl⟩ | ⟨rfl, h0, rfl, rfl⟩ | ⟨rfl, h0, rfl, rfl⟩ | ⟨rfl, h0, rfl, rfl⟩ | ⟨rfl, h0, rfl, rfl⟩ | ⟨rfl, h0, rfl, rfl⟩ | ⟨rfl, h0, rfl, rfl⟩ | ⟨rfl, h0, rfl, rfl⟩ | ⟨rfl, h0, rfl, rfl⟩
  · exact ⟨inT (i := 27) (by decide +kernel) rfl, inT (i := 28) (by decide +kernel) rfl, inT (i := 29) (by decide +kernel) rfl⟩
  · exact absurd h0 (by decide)
  · exact absurd h0 (by decide)
  · exact absurd h0 (by decide)
  · exact absurd h0 (by decide)
  · exact absurd h0 (by decide)
  · exact absurd h0 (by decide)
  · exact absurd h0 (by decide)
  · exact absurd h0 (by decide)
  · exact absurd h0 (by decide)
  · exact absurd h0 (by decide)
  · exact absurd h0 (by decide)
  · exact absurd h0 (by decide)
  · exact absurd h0 (by decide)
  · exact absurd h0 (by decide)
  · exact absurd h0 (by decide)
  · exact absurd h0 (by decide)
  · exact absurd h0 (by decide)
  · exact absurd h0 (by decide)
  · exact absurd h0 (by decide)
  · exact absurd h0 (by decide)
  · exact absurd h0 (by decide)
  · exact absurd h0 (by decide)
  · exact absurd h0 (by decide)
  · exact absurd h0 (by decide)
  · exact absurd h0 (by decide)
  · exact absurd h0 (by decide)
  · exact absurd h0 (by decide)
  · exact absurd h0 (by decide)
  · exact absurd h0 (by decide)
  · exact absurd h0 (by decide)
  · exact absurd h0 (by decide)
  · exact absurd h0 (by decide)
  · exact absurd h0 (by decide)
  · exact absurd h0 (by decide)
  · exact absurd h0 (by decide)
  · exact absurd h0 (by decide)
  · exact ⟨inT (i := 869) (by decide +kernel) rfl, inT (i := 37) (by decide +kernel) rfl, inT (i := 3) (by decide +kernel) rfl, inT (i := 38) (by decide +kernel) rfl⟩
  · exact absurd h0 (by decide)
  · exact absurd h0 (by decide)
  · exact absurd h0 (by decide)
  · exact absurd h0 (by decide)
  · exact absurd h0 (by decide)
  · exact absurd h0 (by decide)
  · exact absurd h0 (by decide)
  · exact absurd h0 (by decide)
  · exact absurd h0 (by decide)
  · exact absurd h0 (by decide)
  · exact absurd h0 (by decide)
  · exact absurd h0 (by decide)
  · exact absurd h0 (by decide)
  · exact absurd h0 (by decide)
  · exact absurd h0 (by decide)
  · exact absurd h0 (by decide)
  · exact absurd h0 (by decide)
  · exact absurd h0 (by decide)
  · exact absurd h0 (by decide)
  · exact absurd h0 (by decide)
  · exact absurd h0 (by decide)
  · exact absurd h0 (by decide)
  · exact absurd h0 (by decide)
theorem ln_0 : ∀ k v, lkN0 k = some v → (k, v) ∈ ([(9, 8), (24, 7), (31, 5), (38, 10), (45, 2), (57, 4), (64, 9), (73, 1), (82, 3)] : List (Nat × Nat)) := ent (by decide +kernel) (fun k h => nn h)
theorem ln2_0 : ∀ e ∈ ([(9, 8), (24, 7), (31, 5), (38, 10), (45, 2), (57, 4), (64, 9), (73, 1), (82, 3)] : List (Nat × Nat)), (e.2 < 13 ∧ Cond.classLink (ownZ 0) e.1 (clC e.2) ∈ TsZ) ∨ (e.2 = 99 ∧ Cond.classLink (ownZ 0) e.1 "[I" ∈ TsZ) := by
  refine List.forall_mem_cons.mpr ⟨Or.inl ⟨by decide, inT (i := 30) (by decide +kernel) rfl⟩, ?_⟩
  refine List.forall_mem_cons.mpr ⟨Or.inl ⟨by decide, inT (i := 54) (by decide +kernel) rfl⟩, ?_⟩
  refine List.forall_mem_cons.mpr ⟨Or.inl ⟨by decide, inT (i := 117) (by decide +kernel) rfl⟩, ?_⟩
  refine List.forall_mem_cons.mpr ⟨Or.inl ⟨by decide, inT (i := 133) (by decide +kernel) rfl⟩, ?_⟩
  refine List.forall_mem_cons.mpr ⟨Or.inl ⟨by decide, inT (i := 159) (by decide +kernel) rfl⟩, ?_⟩
  refine List.forall_mem_cons.mpr ⟨Or.inl ⟨by decide, inT (i := 236) (by decide +kernel) rfl⟩, ?_⟩
  refine List.forall_mem_cons.mpr ⟨Or.inl ⟨by decide, inT (i := 256) (by decide +kernel) rfl⟩, ?_⟩
  refine List.forall_mem_cons.mpr ⟨Or.inl ⟨by decide, inT (i := 290) (by decide +kernel) rfl⟩, ?_⟩
  refine List.forall_mem_cons.mpr ⟨Or.inl ⟨by decide, inT (i := 318) (by decide +kernel) rfl⟩, ?_⟩
  exact fun _ h => absurd h List.not_mem_nil
theorem lI_0 : ∀ k v, lkI0 k = some v → (k, v) ∈ ([(324, 1000000)] : List (Nat × Int32)) := ent (by decide +kernel) (fun k h => nn h)
theorem lI2_0 : ∀ e ∈ ([(324, 1000000)] : List (Nat × Int32)), Cond.constant (ownZ 0) e.1 e.2 ∈ TsZ := by
  refine List.forall_mem_cons.mpr ⟨inT (i := 960) (by decide +kernel) rfl, ?_⟩
  exact fun _ h => absurd h List.not_mem_nil
theorem lL_0 : ∀ k v, lkL0 k = some v → (k, v) ∈ ([(308, -1), (316, 1000000000000), (318, 10)] : List (Nat × Int64)) := ent (by decide +kernel) (fun k h => nn h)
theorem lL2_0 : ∀ e ∈ ([(308, -1), (316, 1000000000000), (318, 10)] : List (Nat × Int64)), Cond.constantLong (ownZ 0) e.1 e.2 ∈ TsZ := by
  refine List.forall_mem_cons.mpr ⟨inT (i := 945) (by decide +kernel) rfl, ?_⟩
  refine List.forall_mem_cons.mpr ⟨inT (i := 949) (by decide +kernel) rfl, ?_⟩
  refine List.forall_mem_cons.mpr ⟨inT (i := 950) (by decide +kernel) rfl, ?_⟩
  exact fun _ h => absurd h List.not_mem_nil
theorem lS_0 : ∀ k v, lkS0 k = some v → (k, v) ∈ ([] : List (Nat × Nat)) := ent (by decide +kernel) (fun k h => nn h)
theorem lS2_0 : ∀ e ∈ ([] : List (Nat × Nat)), e.2 < 18 ∧ ownZ 0 = "RecordHeap$Reader" ∧ e.1 = siZ.getD e.2 0 := by
  exact fun _ h => absurd h List.not_mem_nil
theorem l9_0 : ∀ k x, lkF0 k = some x → x.2.2 = 9 → Cond.fieldLink (ownZ 0) k "RecordHeap" "TERM_MOST" "[I" ∈ TsZ := by
  intro k x h h9
  have hm := lf_0 k x h
  rcases List.mem_cons.mp hm with hm | hm
  · cases hm; exact absurd h9 (by decide)
  rcases List.mem_cons.mp hm with hm | hm
  · cases hm; exact absurd h9 (by decide)
  rcases List.mem_cons.mp hm with hm | hm
  · cases hm; exact absurd h9 (by decide)
  rcases List.mem_cons.mp hm with hm | hm
  · cases hm; exact absurd h9 (by decide)
  rcases List.mem_cons.mp hm with hm | hm
  · cases hm; exact absurd h9 (by decide)
  rcases List.mem_cons.mp hm with hm | hm
  · cases hm; exact absurd h9 (by decide)
  rcases List.mem_cons.mp hm with hm | hm
  · cases hm; exact absurd h9 (by decide)
  rcases List.mem_cons.mp hm with hm | hm
  · cases hm; exact absurd h9 (by decide)
  rcases List.mem_cons.mp hm with hm | hm
  · cases hm; exact absurd h9 (by decide)
  rcases List.mem_cons.mp hm with hm | hm
  · cases hm; exact absurd h9 (by decide)
  rcases List.mem_cons.mp hm with hm | hm
  · cases hm; exact absurd h9 (by decide)
  rcases List.mem_cons.mp hm with hm | hm
  · cases hm; exact absurd h9 (by decide)
  rcases List.mem_cons.mp hm with hm | hm
  · cases hm; exact absurd h9 (by decide)
  rcases List.mem_cons.mp hm with hm | hm
  · cases hm; exact absurd h9 (by decide)
  rcases List.mem_cons.mp hm with hm | hm
  · cases hm; exact absurd h9 (by decide)
  rcases List.mem_cons.mp hm with hm | hm
  · cases hm; exact absurd h9 (by decide)
  rcases List.mem_cons.mp hm with hm | hm
  · cases hm; exact inT (i := 373) (by decide +kernel) rfl
  rcases List.mem_cons.mp hm with hm | hm
  · cases hm; exact absurd h9 (by decide)
  rcases List.mem_cons.mp hm with hm | hm
  · cases hm; exact absurd h9 (by decide)
  rcases List.mem_cons.mp hm with hm | hm
  · cases hm; exact absurd h9 (by decide)
  rcases List.mem_cons.mp hm with hm | hm
  · cases hm; exact absurd h9 (by decide)
  rcases List.mem_cons.mp hm with hm | hm
  · cases hm; exact absurd h9 (by decide)
  rcases List.mem_cons.mp hm with hm | hm
  · cases hm; exact absurd h9 (by decide)
  rcases List.mem_cons.mp hm with hm | hm
  · cases hm; exact absurd h9 (by decide)
  rcases List.mem_cons.mp hm with hm | hm
  · cases hm; exact absurd h9 (by decide)
  rcases List.mem_cons.mp hm with hm | hm
  · cases hm; exact absurd h9 (by decide)
  rcases List.mem_cons.mp hm with hm | hm
  · cases hm; exact absurd h9 (by decide)
  rcases List.mem_cons.mp hm with hm | hm
  · cases hm; exact absurd h9 (by decide)
  rcases List.mem_cons.mp hm with hm | hm
  · cases hm; exact absurd h9 (by decide)
  rcases List.mem_cons.mp hm with hm | hm
  · cases hm; exact absurd h9 (by decide)
  rcases List.mem_cons.mp hm with hm | hm
  · cases hm; exact absurd h9 (by decide)
  rcases List.mem_cons.mp hm with hm | hm
  · cases hm; exact absurd h9 (by decide)
  rcases List.mem_cons.mp hm with hm | hm
  · cases hm; exact absurd h9 (by decide)
  rcases List.mem_cons.mp hm with hm | hm
  · cases hm; exact absurd h9 (by decide)
  rcases List.mem_cons.mp hm with hm | hm
  · cases hm; exact absurd h9 (by decide)
  rcases List.mem_cons.mp hm with hm | hm
  · cases hm; exact absurd h9 (by decide)
  rcases List.mem_cons.mp hm with hm | hm
  · cases hm; exact absurd h9 (by decide)
  rcases List.mem_cons.mp hm with hm | hm
  · cases hm; exact absurd h9 (by decide)
  exact absurd hm List.not_mem_nil
theorem lok_0 : LOK 0 := ⟨fun k x h h9 => lf2_0 _ (lf_0 k x h) h9, l9_0, fun k x h => ln2_0 _ (ln_0 k x h), fun k x h => lI2_0 _ (lI_0 k x h), fun k x h => lL2_0 _ (lL_0 k x h), fun k x h => lS2_0 _ (lS_0 k x h)⟩
theorem lf_1 : ∀ k v, lkF1 k = some v → (k, v) ∈ ([(9, (1, 2, 3)), (15, (1, 3, 3)), (18, (1, 4, 3)), (21, (1, 5, 1)), (25, (1, 6, 0)), (29, (1, 0, 3)), (33, (1, 1, 3)), (42, (2, 2, 3)), (77, (6, 4, 3))] : List (Nat × Nat × Nat × Nat)) := ent (by decide +kernel) (fun k h => nn h)
theorem lf2_1 : ∀ e ∈ ([(9, (1, 2, 3)), (15, (1, 3, 3)), (18, (1, 4, 3)), (21, (1, 5, 1)), (25, (1, 6, 0)), (29, (1, 0, 3)), (33, (1, 1, 3)), (42, (2, 2, 3)), (77, (6, 4, 3))] : List (Nat × Nat × Nat × Nat)), e.2.2.2 ≠ 9 → e.2.1 < 13 ∧ (fkZ e.2.1)[e.2.2.1]? = some e.2.2.2 ∧ (Cond.fieldLink (ownZ 1) e.1 (clC e.2.1) (clT e.2.1 e.2.2.1).2.1 (clT e.2.1 e.2.2.1).2.2.1 ∈ TsZ ∨ ∃ h, Cond.fieldLinkNest (ownZ 1) e.1 (clC e.2.1) (clT e.2.1 e.2.2.1).2.1 (clT e.2.1 e.2.2.1).2.2.1 h ∈ nestZ ∧ clC e.2.1 ≠ ownZ 1) := by
  refine List.forall_mem_cons.mpr ⟨fun _ => ⟨by decide, rfl, Or.inl (inT (i := 298) (by decide +kernel) rfl)⟩, ?_⟩
  refine List.forall_mem_cons.mpr ⟨fun _ => ⟨by decide, rfl, Or.inl (inT (i := 299) (by decide +kernel) rfl)⟩, ?_⟩
  refine List.forall_mem_cons.mpr ⟨fun _ => ⟨by decide, rfl, Or.inl (inT (i := 300) (by decide +kernel) rfl)⟩, ?_⟩
  refine List.forall_mem_cons.mpr ⟨fun _ => ⟨by decide, rfl, Or.inl (inT (i := 301) (by decide +kernel) rfl)⟩, ?_⟩
  refine List.forall_mem_cons.mpr ⟨fun _ => ⟨by decide, rfl, Or.inl (inT (i := 302) (by decide +kernel) rfl)⟩, ?_⟩
  refine List.forall_mem_cons.mpr ⟨fun _ => ⟨by decide, rfl, Or.inl (inT (i := 296) (by decide +kernel) rfl)⟩, ?_⟩
  refine List.forall_mem_cons.mpr ⟨fun _ => ⟨by decide, rfl, Or.inl (inT (i := 297) (by decide +kernel) rfl)⟩, ?_⟩
  refine List.forall_mem_cons.mpr ⟨fun _ => ⟨by decide, rfl, Or.inr ⟨"RecordHeap", inN (i := 213) (by decide +kernel) rfl, by decide +kernel⟩⟩, ?_⟩
  refine List.forall_mem_cons.mpr ⟨fun _ => ⟨by decide, rfl, Or.inr ⟨"RecordHeap", inN (i := 187) (by decide +kernel) rfl, by decide +kernel⟩⟩, ?_⟩
  exact fun _ h => absurd h List.not_mem_nil
theorem lc_1 : ∀ k v, lkC1 k = some v → (k, v) ∈ ([(3, (0, 0, 0)), (38, (2, 127, 1)), (48, (2, 110, 1)), (53, (2, 54, 2)), (59, (2, 55, 1)), (63, (2, 81, 1)), (67, (2, 80, 1)), (70, (2, 72, 2)), (74, (2, 47, 1)), (78, (2, 103, 1))] : List (Nat × Nat × Nat × Nat)) := ent (by decide +kernel) (fun k h => nn h)
theorem lc2_1 : ∀ e ∈ ([(3, (0, 0, 0)), (38, (2, 127, 1)), (48, (2, 110, 1)), (53, (2, 54, 2)), (59, (2, 55, 1)), (63, (2, 81, 1)), (67, (2, 80, 1)), (70, (2, 72, 2)), (74, (2, 47, 1)), (78, (2, 103, 1))] : List (Nat × Nat × Nat × Nat)), e.2.1 ≠ 0 → e.2.2.1 < 271 ∧ (parseMethodDescriptor (yZ e.2.2.1).desc).map (fun d => d.parameters.length) = some e.2.2.2 ∧ (Cond.methodLink (ownZ 1) e.1 (yZ e.2.2.1) ∈ TsZ ∨ ∃ h, Cond.methodLinkNest (ownZ 1) e.1 (yZ e.2.2.1) h ∈ nestZ) ∧ (e.2.1 = 1 → Cond.static (yZ e.2.2.1) ∈ TsZ) ∧ (e.2.1 = 2 → Cond.instanceMethod (yZ e.2.2.1) ∈ TsZ ∧ Cond.selects (yZ e.2.2.1).cls (yZ e.2.2.1) (yZ e.2.2.1) ∈ TsZ ∧ (methZ e.2.2.1).2.1 < 13) ∧ (e.2.1 = 3 → Cond.instanceMethod (yZ e.2.2.1) ∈ TsZ ∧ (yZ e.2.2.1).name = "<init>" ∧ rZ e.2.2.1 = none) := by
  refine List.forall_mem_cons.mpr ⟨fun h => absurd rfl h, ?_⟩
  refine List.forall_mem_cons.mpr ⟨fun _ => ⟨by decide, by decide +kernel, Or.inl (inT (i := 969) (by decide +kernel) rfl), fun h => absurd h (by decide), fun _ => ⟨inT (i := 971) (by decide +kernel) rfl, inS (i := 77) (n := 7) (by decide +kernel), Nat.lt_of_succ_le (Nat.le_of_ble_eq_true rfl)⟩, fun h => absurd h (by decide)⟩, ?_⟩
  refine List.forall_mem_cons.mpr ⟨fun _ => ⟨by decide, by decide +kernel, Or.inr ⟨"RecordHeap", inN (i := 974) (by decide +kernel) rfl⟩, fun h => absurd h (by decide), fun _ => ⟨inT (i := 889) (by decide +kernel) rfl, inS (i := 70) (n := 6) (by decide +kernel), Nat.lt_of_succ_le (Nat.le_of_ble_eq_true rfl)⟩, fun h => absurd h (by decide)⟩, ?_⟩
  refine List.forall_mem_cons.mpr ⟨fun _ => ⟨by decide, by decide +kernel, Or.inr ⟨"RecordHeap", inN (i := 975) (by decide +kernel) rfl⟩, fun h => absurd h (by decide), fun _ => ⟨inT (i := 626) (by decide +kernel) rfl, inS (i := 32) (n := 2) (by decide +kernel), Nat.lt_of_succ_le (Nat.le_of_ble_eq_true rfl)⟩, fun h => absurd h (by decide)⟩, ?_⟩
  refine List.forall_mem_cons.mpr ⟨fun _ => ⟨by decide, by decide +kernel, Or.inr ⟨"RecordHeap", inN (i := 976) (by decide +kernel) rfl⟩, fun h => absurd h (by decide), fun _ => ⟨inT (i := 630) (by decide +kernel) rfl, inS (i := 33) (n := 7) (by decide +kernel), Nat.lt_of_succ_le (Nat.le_of_ble_eq_true rfl)⟩, fun h => absurd h (by decide)⟩, ?_⟩
  refine List.forall_mem_cons.mpr ⟨fun _ => ⟨by decide, by decide +kernel, Or.inr ⟨"RecordHeap", inN (i := 977) (by decide +kernel) rfl⟩, fun h => absurd h (by decide), fun _ => ⟨inT (i := 753) (by decide +kernel) rfl, inS (i := 59) (n := 7) (by decide +kernel), Nat.lt_of_succ_le (Nat.le_of_ble_eq_true rfl)⟩, fun h => absurd h (by decide)⟩, ?_⟩
  refine List.forall_mem_cons.mpr ⟨fun _ => ⟨by decide, by decide +kernel, Or.inr ⟨"RecordHeap", inN (i := 978) (by decide +kernel) rfl⟩, fun h => absurd h (by decide), fun _ => ⟨inT (i := 749) (by decide +kernel) rfl, inS (i := 58) (n := 7) (by decide +kernel), Nat.lt_of_succ_le (Nat.le_of_ble_eq_true rfl)⟩, fun h => absurd h (by decide)⟩, ?_⟩
  refine List.forall_mem_cons.mpr ⟨fun _ => ⟨by decide, by decide +kernel, Or.inr ⟨"RecordHeap", inN (i := 979) (by decide +kernel) rfl⟩, fun h => absurd h (by decide), fun _ => ⟨inT (i := 715) (by decide +kernel) rfl, inS (i := 50) (n := 7) (by decide +kernel), Nat.lt_of_succ_le (Nat.le_of_ble_eq_true rfl)⟩, fun h => absurd h (by decide)⟩, ?_⟩
  refine List.forall_mem_cons.mpr ⟨fun _ => ⟨by decide, by decide +kernel, Or.inr ⟨"RecordHeap", inN (i := 984) (by decide +kernel) rfl⟩, fun h => absurd h (by decide), fun _ => ⟨inT (i := 596) (by decide +kernel) rfl, inS (i := 28) (n := 6) (by decide +kernel), Nat.lt_of_succ_le (Nat.le_of_ble_eq_true rfl)⟩, fun h => absurd h (by decide)⟩, ?_⟩
  refine List.forall_mem_cons.mpr ⟨fun _ => ⟨by decide, by decide +kernel, Or.inr ⟨"RecordHeap", inN (i := 985) (by decide +kernel) rfl⟩, fun h => absurd h (by decide), fun _ => ⟨inT (i := 856) (by decide +kernel) rfl, inS (i := 69) (n := 6) (by decide +kernel), Nat.lt_of_succ_le (Nat.le_of_ble_eq_true rfl)⟩, fun h => absurd h (by decide)⟩, ?_⟩
  exact fun _ h => absurd h List.not_mem_nil
theorem cok_1 : COK 1 := fun k how x na h h0 => lc2_1 _ (lc_1 k _ h) h0
theorem pok_1 : POK 1 := by
  intro k x na h
  have hm := lc_1 k _ h
  simp only [List.mem_cons, List.not_mem_nil, or_false, Prod.mk.injEq] at hm
  rcases hm with ⟨rfl, h0, rfl, rfl⟩ | ⟨rfl, h0, rfl, rfl⟩ | ⟨rfl, h0, rfl, rfl⟩ | ⟨rfl, h0, rfl, rfl⟩ | ⟨rfl, h0, rfl, rfl⟩ | ⟨rfl, h0, rfl, rfl⟩ | ⟨rfl, h0, rfl, rfl⟩ | ⟨rfl, h0, rfl, rfl⟩ | ⟨rfl, h0, rfl, rfl⟩ | ⟨rfl, h0, rfl, rfl⟩
  · exact ⟨inT (i := 295) (by decide +kernel) rfl, inT (i := 28) (by decide +kernel) rfl, inT (i := 29) (by decide +kernel) rfl⟩
  · exact absurd h0 (by decide)
  · exact absurd h0 (by decide)
  · exact absurd h0 (by decide)
  · exact absurd h0 (by decide)
  · exact absurd h0 (by decide)
  · exact absurd h0 (by decide)
  · exact absurd h0 (by decide)
  · exact absurd h0 (by decide)
  · exact absurd h0 (by decide)
theorem ln_1 : ∀ k v, lkN1 k = some v → (k, v) ∈ ([] : List (Nat × Nat)) := ent (by decide +kernel) (fun k h => nn h)
theorem ln2_1 : ∀ e ∈ ([] : List (Nat × Nat)), (e.2 < 13 ∧ Cond.classLink (ownZ 1) e.1 (clC e.2) ∈ TsZ) ∨ (e.2 = 99 ∧ Cond.classLink (ownZ 1) e.1 "[I" ∈ TsZ) := by
  exact fun _ h => absurd h List.not_mem_nil
theorem lI_1 : ∀ k v, lkI1 k = some v → (k, v) ∈ ([(37, 1000003)] : List (Nat × Int32)) := ent (by decide +kernel) (fun k h => nn h)
theorem lI2_1 : ∀ e ∈ ([(37, 1000003)] : List (Nat × Int32)), Cond.constant (ownZ 1) e.1 e.2 ∈ TsZ := by
  refine List.forall_mem_cons.mpr ⟨inT (i := 973) (by decide +kernel) rfl, ?_⟩
  exact fun _ h => absurd h List.not_mem_nil
theorem lL_1 : ∀ k v, lkL1 k = some v → (k, v) ∈ ([] : List (Nat × Int64)) := ent (by decide +kernel) (fun k h => nn h)
theorem lL2_1 : ∀ e ∈ ([] : List (Nat × Int64)), Cond.constantLong (ownZ 1) e.1 e.2 ∈ TsZ := by
  exact fun _ h => absurd h List.not_mem_nil
theorem lS_1 : ∀ k v, lkS1 k = some v → (k, v) ∈ ([] : List (Nat × Nat)) := ent (by decide +kernel) (fun k h => nn h)
theorem lS2_1 : ∀ e ∈ ([] : List (Nat × Nat)), e.2 < 18 ∧ ownZ 1 = "RecordHeap$Reader" ∧ e.1 = siZ.getD e.2 0 := by
  exact fun _ h => absurd h List.not_mem_nil
theorem l9_1 : ∀ k x, lkF1 k = some x → x.2.2 = 9 → Cond.fieldLink (ownZ 1) k "RecordHeap" "TERM_MOST" "[I" ∈ TsZ := by
  intro k x h h9
  have hm := lf_1 k x h
  rcases List.mem_cons.mp hm with hm | hm
  · cases hm; exact absurd h9 (by decide)
  rcases List.mem_cons.mp hm with hm | hm
  · cases hm; exact absurd h9 (by decide)
  rcases List.mem_cons.mp hm with hm | hm
  · cases hm; exact absurd h9 (by decide)
  rcases List.mem_cons.mp hm with hm | hm
  · cases hm; exact absurd h9 (by decide)
  rcases List.mem_cons.mp hm with hm | hm
  · cases hm; exact absurd h9 (by decide)
  rcases List.mem_cons.mp hm with hm | hm
  · cases hm; exact absurd h9 (by decide)
  rcases List.mem_cons.mp hm with hm | hm
  · cases hm; exact absurd h9 (by decide)
  rcases List.mem_cons.mp hm with hm | hm
  · cases hm; exact absurd h9 (by decide)
  rcases List.mem_cons.mp hm with hm | hm
  · cases hm; exact absurd h9 (by decide)
  exact absurd hm List.not_mem_nil
theorem lok_1 : LOK 1 := ⟨fun k x h h9 => lf2_1 _ (lf_1 k x h) h9, l9_1, fun k x h => ln2_1 _ (ln_1 k x h), fun k x h => lI2_1 _ (lI_1 k x h), fun k x h => lL2_1 _ (lL_1 k x h), fun k x h => lS2_1 _ (lS_1 k x h)⟩
theorem lf_2 : ∀ k v, lkF2 k = some v → (k, v) ∈ ([(12, (2, 2, 3)), (18, (2, 3, 3)), (26, (2, 4, 3)), (30, (2, 5, 3)), (34, (2, 6, 0)), (38, (2, 0, 3)), (42, (2, 1, 3)), (50, (8, 1, 0)), (106, (6, 3, 3)), (130, (6, 5, 3)), (139, (6, 0, 3)), (142, (6, 2, 3)), (145, (6, 1, 3)), (148, (6, 4, 3)), (161, (5, 0, 3)), (167, (10, 0, 3)), (170, (11, 3, 0)), (179, (11, 1, 3))] : List (Nat × Nat × Nat × Nat)) := ent (by decide +kernel) (fun k h => nn h)
theorem lf2_2 : ∀ e ∈ ([(12, (2, 2, 3)), (18, (2, 3, 3)), (26, (2, 4, 3)), (30, (2, 5, 3)), (34, (2, 6, 0)), (38, (2, 0, 3)), (42, (2, 1, 3)), (50, (8, 1, 0)), (106, (6, 3, 3)), (130, (6, 5, 3)), (139, (6, 0, 3)), (142, (6, 2, 3)), (145, (6, 1, 3)), (148, (6, 4, 3)), (161, (5, 0, 3)), (167, (10, 0, 3)), (170, (11, 3, 0)), (179, (11, 1, 3))] : List (Nat × Nat × Nat × Nat)), e.2.2.2 ≠ 9 → e.2.1 < 13 ∧ (fkZ e.2.1)[e.2.2.1]? = some e.2.2.2 ∧ (Cond.fieldLink (ownZ 2) e.1 (clC e.2.1) (clT e.2.1 e.2.2.1).2.1 (clT e.2.1 e.2.2.1).2.2.1 ∈ TsZ ∨ ∃ h, Cond.fieldLinkNest (ownZ 2) e.1 (clC e.2.1) (clT e.2.1 e.2.2.1).2.1 (clT e.2.1 e.2.2.1).2.2.1 h ∈ nestZ ∧ clC e.2.1 ≠ ownZ 2) := by
  refine List.forall_mem_cons.mpr ⟨fun _ => ⟨by decide, rfl, Or.inl (inT (i := 211) (by decide +kernel) rfl)⟩, ?_⟩
  refine List.forall_mem_cons.mpr ⟨fun _ => ⟨by decide, rfl, Or.inl (inT (i := 215) (by decide +kernel) rfl)⟩, ?_⟩
  refine List.forall_mem_cons.mpr ⟨fun _ => ⟨by decide, rfl, Or.inl (inT (i := 218) (by decide +kernel) rfl)⟩, ?_⟩
  refine List.forall_mem_cons.mpr ⟨fun _ => ⟨by decide, rfl, Or.inl (inT (i := 219) (by decide +kernel) rfl)⟩, ?_⟩
  refine List.forall_mem_cons.mpr ⟨fun _ => ⟨by decide, rfl, Or.inl (inT (i := 220) (by decide +kernel) rfl)⟩, ?_⟩
  refine List.forall_mem_cons.mpr ⟨fun _ => ⟨by decide, rfl, Or.inl (inT (i := 208) (by decide +kernel) rfl)⟩, ?_⟩
  refine List.forall_mem_cons.mpr ⟨fun _ => ⟨by decide, rfl, Or.inl (inT (i := 210) (by decide +kernel) rfl)⟩, ?_⟩
  refine List.forall_mem_cons.mpr ⟨fun _ => ⟨by decide, rfl, Or.inr ⟨"RecordHeap", inN (i := 44) (by decide +kernel) rfl, by decide +kernel⟩⟩, ?_⟩
  refine List.forall_mem_cons.mpr ⟨fun _ => ⟨by decide, rfl, Or.inr ⟨"RecordHeap", inN (i := 184) (by decide +kernel) rfl, by decide +kernel⟩⟩, ?_⟩
  refine List.forall_mem_cons.mpr ⟨fun _ => ⟨by decide, rfl, Or.inr ⟨"RecordHeap", inN (i := 192) (by decide +kernel) rfl, by decide +kernel⟩⟩, ?_⟩
  refine List.forall_mem_cons.mpr ⟨fun _ => ⟨by decide, rfl, Or.inr ⟨"RecordHeap", inN (i := 175) (by decide +kernel) rfl, by decide +kernel⟩⟩, ?_⟩
  refine List.forall_mem_cons.mpr ⟨fun _ => ⟨by decide, rfl, Or.inr ⟨"RecordHeap", inN (i := 181) (by decide +kernel) rfl, by decide +kernel⟩⟩, ?_⟩
  refine List.forall_mem_cons.mpr ⟨fun _ => ⟨by decide, rfl, Or.inr ⟨"RecordHeap", inN (i := 178) (by decide +kernel) rfl, by decide +kernel⟩⟩, ?_⟩
  refine List.forall_mem_cons.mpr ⟨fun _ => ⟨by decide, rfl, Or.inr ⟨"RecordHeap", inN (i := 189) (by decide +kernel) rfl, by decide +kernel⟩⟩, ?_⟩
  refine List.forall_mem_cons.mpr ⟨fun _ => ⟨by decide, rfl, Or.inr ⟨"RecordHeap", inN (i := 125) (by decide +kernel) rfl, by decide +kernel⟩⟩, ?_⟩
  refine List.forall_mem_cons.mpr ⟨fun _ => ⟨by decide, rfl, Or.inr ⟨"RecordHeap", inN (i := 144) (by decide +kernel) rfl, by decide +kernel⟩⟩, ?_⟩
  refine List.forall_mem_cons.mpr ⟨fun _ => ⟨by decide, rfl, Or.inr ⟨"RecordHeap", inN (i := 78) (by decide +kernel) rfl, by decide +kernel⟩⟩, ?_⟩
  refine List.forall_mem_cons.mpr ⟨fun _ => ⟨by decide, rfl, Or.inr ⟨"RecordHeap", inN (i := 72) (by decide +kernel) rfl, by decide +kernel⟩⟩, ?_⟩
  exact fun _ h => absurd h List.not_mem_nil
theorem lc_2 : ∀ k v, lkC2 k = some v → (k, v) ∈ ([(3, (0, 0, 0)), (11, (3, 7, 0)), (23, (3, 1, 1)), (46, (2, 42, 1)), (53, (2, 56, 4)), (57, (2, 58, 0)), (63, (2, 61, 2)), (67, (2, 64, 2)), (71, (2, 71, 1)), (75, (2, 73, 1)), (78, (2, 78, 1)), (82, (2, 79, 0)), (86, (2, 57, 1)), (89, (1, 53, 1)), (92, (2, 62, 2)), (95, (2, 65, 2)), (99, (1, 52, 1)), (102, (2, 47, 1)), (109, (0, 1, 2)), (114, (2, 66, 1)), (117, (2, 68, 1)), (120, (2, 67, 1)), (123, (2, 69, 4)), (127, (2, 70, 1)), (133, (0, 5, 5)), (151, (2, 74, 1)), (154, (2, 77, 2)), (157, (2, 63, 3)), (175, (2, 48, 3)), (186, (0, 4, 2)), (190, (0, 3, 2))] : List (Nat × Nat × Nat × Nat)) := ent (by decide +kernel) (fun k h => nn h)
theorem lc2_2 : ∀ e ∈ ([(3, (0, 0, 0)), (11, (3, 7, 0)), (23, (3, 1, 1)), (46, (2, 42, 1)), (53, (2, 56, 4)), (57, (2, 58, 0)), (63, (2, 61, 2)), (67, (2, 64, 2)), (71, (2, 71, 1)), (75, (2, 73, 1)), (78, (2, 78, 1)), (82, (2, 79, 0)), (86, (2, 57, 1)), (89, (1, 53, 1)), (92, (2, 62, 2)), (95, (2, 65, 2)), (99, (1, 52, 1)), (102, (2, 47, 1)), (109, (0, 1, 2)), (114, (2, 66, 1)), (117, (2, 68, 1)), (120, (2, 67, 1)), (123, (2, 69, 4)), (127, (2, 70, 1)), (133, (0, 5, 5)), (151, (2, 74, 1)), (154, (2, 77, 2)), (157, (2, 63, 3)), (175, (2, 48, 3)), (186, (0, 4, 2)), (190, (0, 3, 2))] : List (Nat × Nat × Nat × Nat)), e.2.1 ≠ 0 → e.2.2.1 < 271 ∧ (parseMethodDescriptor (yZ e.2.2.1).desc).map (fun d => d.parameters.length) = some e.2.2.2 ∧ (Cond.methodLink (ownZ 2) e.1 (yZ e.2.2.1) ∈ TsZ ∨ ∃ h, Cond.methodLinkNest (ownZ 2) e.1 (yZ e.2.2.1) h ∈ nestZ) ∧ (e.2.1 = 1 → Cond.static (yZ e.2.2.1) ∈ TsZ) ∧ (e.2.1 = 2 → Cond.instanceMethod (yZ e.2.2.1) ∈ TsZ ∧ Cond.selects (yZ e.2.2.1).cls (yZ e.2.2.1) (yZ e.2.2.1) ∈ TsZ ∧ (methZ e.2.2.1).2.1 < 13) ∧ (e.2.1 = 3 → Cond.instanceMethod (yZ e.2.2.1) ∈ TsZ ∧ (yZ e.2.2.1).name = "<init>" ∧ rZ e.2.2.1 = none) := by
  refine List.forall_mem_cons.mpr ⟨fun h => absurd rfl h, ?_⟩
  refine List.forall_mem_cons.mpr ⟨fun _ => ⟨by decide, by decide +kernel, Or.inr ⟨"RecordHeap", inN (i := 167) (by decide +kernel) rfl⟩, fun h => absurd h (by decide), fun h => absurd h (by decide), fun _ => ⟨inT (i := 168) (by decide +kernel) rfl, rfl, rfl⟩⟩, ?_⟩
  refine List.forall_mem_cons.mpr ⟨fun _ => ⟨by decide, by decide +kernel, Or.inr ⟨"RecordHeap", inN (i := 207) (by decide +kernel) rfl⟩, fun h => absurd h (by decide), fun h => absurd h (by decide), fun _ => ⟨inT (i := 33) (by decide +kernel) rfl, rfl, rfl⟩⟩, ?_⟩
  refine List.forall_mem_cons.mpr ⟨fun _ => ⟨by decide, by decide +kernel, Or.inr ⟨"RecordHeap", inN (i := 632) (by decide +kernel) rfl⟩, fun h => absurd h (by decide), fun _ => ⟨inT (i := 575) (by decide +kernel) rfl, inS (i := 23) (n := 6) (by decide +kernel), Nat.lt_of_succ_le (Nat.le_of_ble_eq_true rfl)⟩, fun h => absurd h (by decide)⟩, ?_⟩
  refine List.forall_mem_cons.mpr ⟨fun _ => ⟨by decide, by decide +kernel, Or.inr ⟨"RecordHeap", inN (i := 633) (by decide +kernel) rfl⟩, fun h => absurd h (by decide), fun _ => ⟨inT (i := 635) (by decide +kernel) rfl, inS (i := 34) (n := 2) (by decide +kernel), Nat.lt_of_succ_le (Nat.le_of_ble_eq_true rfl)⟩, fun h => absurd h (by decide)⟩, ?_⟩
  refine List.forall_mem_cons.mpr ⟨fun _ => ⟨by decide, by decide +kernel, Or.inr ⟨"RecordHeap", inN (i := 641) (by decide +kernel) rfl⟩, fun h => absurd h (by decide), fun _ => ⟨inT (i := 643) (by decide +kernel) rfl, inS (i := 36) (n := 4) (by decide +kernel), Nat.lt_of_succ_le (Nat.le_of_ble_eq_true rfl)⟩, fun h => absurd h (by decide)⟩, ?_⟩
  refine List.forall_mem_cons.mpr ⟨fun _ => ⟨by decide, by decide +kernel, Or.inl (inT (i := 653) (by decide +kernel) rfl), fun h => absurd h (by decide), fun _ => ⟨inT (i := 655) (by decide +kernel) rfl, inS (i := 39) (n := 7) (by decide +kernel), Nat.lt_of_succ_le (Nat.le_of_ble_eq_true rfl)⟩, fun h => absurd h (by decide)⟩, ?_⟩
  refine List.forall_mem_cons.mpr ⟨fun _ => ⟨by decide, by decide +kernel, Or.inl (inT (i := 675) (by decide +kernel) rfl), fun h => absurd h (by decide), fun _ => ⟨inT (i := 677) (by decide +kernel) rfl, inS (i := 42) (n := 7) (by decide +kernel), Nat.lt_of_succ_le (Nat.le_of_ble_eq_true rfl)⟩, fun h => absurd h (by decide)⟩, ?_⟩
  refine List.forall_mem_cons.mpr ⟨fun _ => ⟨by decide, by decide +kernel, Or.inl (inT (i := 709) (by decide +kernel) rfl), fun h => absurd h (by decide), fun _ => ⟨inT (i := 711) (by decide +kernel) rfl, inS (i := 49) (n := 7) (by decide +kernel), Nat.lt_of_succ_le (Nat.le_of_ble_eq_true rfl)⟩, fun h => absurd h (by decide)⟩, ?_⟩
  refine List.forall_mem_cons.mpr ⟨fun _ => ⟨by decide, by decide +kernel, Or.inl (inT (i := 717) (by decide +kernel) rfl), fun h => absurd h (by decide), fun _ => ⟨inT (i := 719) (by decide +kernel) rfl, inS (i := 51) (n := 7) (by decide +kernel), Nat.lt_of_succ_le (Nat.le_of_ble_eq_true rfl)⟩, fun h => absurd h (by decide)⟩, ?_⟩
  refine List.forall_mem_cons.mpr ⟨fun _ => ⟨by decide, by decide +kernel, Or.inl (inT (i := 737) (by decide +kernel) rfl), fun h => absurd h (by decide), fun _ => ⟨inT (i := 739) (by decide +kernel) rfl, inS (i := 56) (n := 7) (by decide +kernel), Nat.lt_of_succ_le (Nat.le_of_ble_eq_true rfl)⟩, fun h => absurd h (by decide)⟩, ?_⟩
  refine List.forall_mem_cons.mpr ⟨fun _ => ⟨by decide, by decide +kernel, Or.inl (inT (i := 742) (by decide +kernel) rfl), fun h => absurd h (by decide), fun _ => ⟨inT (i := 744) (by decide +kernel) rfl, inS (i := 57) (n := 7) (by decide +kernel), Nat.lt_of_succ_le (Nat.le_of_ble_eq_true rfl)⟩, fun h => absurd h (by decide)⟩, ?_⟩
  refine List.forall_mem_cons.mpr ⟨fun _ => ⟨by decide, by decide +kernel, Or.inr ⟨"RecordHeap", inN (i := 746) (by decide +kernel) rfl⟩, fun h => absurd h (by decide), fun _ => ⟨inT (i := 639) (by decide +kernel) rfl, inS (i := 35) (n := 2) (by decide +kernel), Nat.lt_of_succ_le (Nat.le_of_ble_eq_true rfl)⟩, fun h => absurd h (by decide)⟩, ?_⟩
  refine List.forall_mem_cons.mpr ⟨fun _ => ⟨by decide, by decide +kernel, Or.inr ⟨"RecordHeap", inN (i := 679) (by decide +kernel) rfl⟩, fun _ => inT (i := 622) (by decide +kernel) rfl, fun h => absurd h (by decide), fun h => absurd h (by decide)⟩, ?_⟩
  refine List.forall_mem_cons.mpr ⟨fun _ => ⟨by decide, by decide +kernel, Or.inr ⟨"RecordHeap", inN (i := 657) (by decide +kernel) rfl⟩, fun h => absurd h (by decide), fun _ => ⟨inT (i := 659) (by decide +kernel) rfl, inS (i := 40) (n := 6) (by decide +kernel), Nat.lt_of_succ_le (Nat.le_of_ble_eq_true rfl)⟩, fun h => absurd h (by decide)⟩, ?_⟩
  refine List.forall_mem_cons.mpr ⟨fun _ => ⟨by decide, by decide +kernel, Or.inl (inT (i := 680) (by decide +kernel) rfl), fun h => absurd h (by decide), fun _ => ⟨inT (i := 682) (by decide +kernel) rfl, inS (i := 43) (n := 7) (by decide +kernel), Nat.lt_of_succ_le (Nat.le_of_ble_eq_true rfl)⟩, fun h => absurd h (by decide)⟩, ?_⟩
  refine List.forall_mem_cons.mpr ⟨fun _ => ⟨by decide, by decide +kernel, Or.inr ⟨"RecordHeap", inN (i := 741) (by decide +kernel) rfl⟩, fun _ => inT (i := 619) (by decide +kernel) rfl, fun h => absurd h (by decide), fun h => absurd h (by decide)⟩, ?_⟩
  refine List.forall_mem_cons.mpr ⟨fun _ => ⟨by decide, by decide +kernel, Or.inr ⟨"RecordHeap", inN (i := 661) (by decide +kernel) rfl⟩, fun h => absurd h (by decide), fun _ => ⟨inT (i := 596) (by decide +kernel) rfl, inS (i := 28) (n := 6) (by decide +kernel), Nat.lt_of_succ_le (Nat.le_of_ble_eq_true rfl)⟩, fun h => absurd h (by decide)⟩, ?_⟩
  refine List.forall_mem_cons.mpr ⟨fun h => absurd rfl h, ?_⟩
  refine List.forall_mem_cons.mpr ⟨fun _ => ⟨by decide, by decide +kernel, Or.inr ⟨"RecordHeap", inN (i := 685) (by decide +kernel) rfl⟩, fun h => absurd h (by decide), fun _ => ⟨inT (i := 687) (by decide +kernel) rfl, inS (i := 44) (n := 6) (by decide +kernel), Nat.lt_of_succ_le (Nat.le_of_ble_eq_true rfl)⟩, fun h => absurd h (by decide)⟩, ?_⟩
  refine List.forall_mem_cons.mpr ⟨fun _ => ⟨by decide, by decide +kernel, Or.inl (inT (i := 694) (by decide +kernel) rfl), fun h => absurd h (by decide), fun _ => ⟨inT (i := 696) (by decide +kernel) rfl, inS (i := 46) (n := 7) (by decide +kernel), Nat.lt_of_succ_le (Nat.le_of_ble_eq_true rfl)⟩, fun h => absurd h (by decide)⟩, ?_⟩
  refine List.forall_mem_cons.mpr ⟨fun _ => ⟨by decide, by decide +kernel, Or.inr ⟨"RecordHeap", inN (i := 699) (by decide +kernel) rfl⟩, fun h => absurd h (by decide), fun _ => ⟨inT (i := 691) (by decide +kernel) rfl, inS (i := 45) (n := 6) (by decide +kernel), Nat.lt_of_succ_le (Nat.le_of_ble_eq_true rfl)⟩, fun h => absurd h (by decide)⟩, ?_⟩
  refine List.forall_mem_cons.mpr ⟨fun _ => ⟨by decide, by decide +kernel, Or.inr ⟨"RecordHeap", inN (i := 700) (by decide +kernel) rfl⟩, fun h => absurd h (by decide), fun _ => ⟨inT (i := 702) (by decide +kernel) rfl, inS (i := 47) (n := 6) (by decide +kernel), Nat.lt_of_succ_le (Nat.le_of_ble_eq_true rfl)⟩, fun h => absurd h (by decide)⟩, ?_⟩
  refine List.forall_mem_cons.mpr ⟨fun _ => ⟨by decide, by decide +kernel, Or.inr ⟨"RecordHeap", inN (i := 704) (by decide +kernel) rfl⟩, fun h => absurd h (by decide), fun _ => ⟨inT (i := 706) (by decide +kernel) rfl, inS (i := 48) (n := 6) (by decide +kernel), Nat.lt_of_succ_le (Nat.le_of_ble_eq_true rfl)⟩, fun h => absurd h (by decide)⟩, ?_⟩
  refine List.forall_mem_cons.mpr ⟨fun h => absurd rfl h, ?_⟩
  refine List.forall_mem_cons.mpr ⟨fun _ => ⟨by decide, by decide +kernel, Or.inr ⟨"RecordHeap", inN (i := 721) (by decide +kernel) rfl⟩, fun h => absurd h (by decide), fun _ => ⟨inT (i := 723) (by decide +kernel) rfl, inS (i := 52) (n := 6) (by decide +kernel), Nat.lt_of_succ_le (Nat.le_of_ble_eq_true rfl)⟩, fun h => absurd h (by decide)⟩, ?_⟩
  refine List.forall_mem_cons.mpr ⟨fun _ => ⟨by decide, by decide +kernel, Or.inr ⟨"RecordHeap", inN (i := 733) (by decide +kernel) rfl⟩, fun h => absurd h (by decide), fun _ => ⟨inT (i := 735) (by decide +kernel) rfl, inS (i := 55) (n := 6) (by decide +kernel), Nat.lt_of_succ_le (Nat.le_of_ble_eq_true rfl)⟩, fun h => absurd h (by decide)⟩, ?_⟩
  refine List.forall_mem_cons.mpr ⟨fun _ => ⟨by decide, by decide +kernel, Or.inl (inT (i := 662) (by decide +kernel) rfl), fun h => absurd h (by decide), fun _ => ⟨inT (i := 664) (by decide +kernel) rfl, inS (i := 41) (n := 7) (by decide +kernel), Nat.lt_of_succ_le (Nat.le_of_ble_eq_true rfl)⟩, fun h => absurd h (by decide)⟩, ?_⟩
  refine List.forall_mem_cons.mpr ⟨fun _ => ⟨by decide, by decide +kernel, Or.inr ⟨"RecordHeap", inN (i := 666) (by decide +kernel) rfl⟩, fun h => absurd h (by decide), fun _ => ⟨inT (i := 600) (by decide +kernel) rfl, inS (i := 29) (n := 2) (by decide +kernel), Nat.lt_of_succ_le (Nat.le_of_ble_eq_true rfl)⟩, fun h => absurd h (by decide)⟩, ?_⟩
  refine List.forall_mem_cons.mpr ⟨fun h => absurd rfl h, ?_⟩
  refine List.forall_mem_cons.mpr ⟨fun h => absurd rfl h, ?_⟩
  exact fun _ h => absurd h List.not_mem_nil
theorem cok_2 : COK 2 := fun k how x na h h0 => lc2_2 _ (lc_2 k _ h) h0
theorem pok_2 : POK 2 := by
  intro k x na h
  have hm := lc_2 k _ h
  simp only [List.mem_cons, List.not_mem_nil, or_false, Prod.mk.injEq] at hm
  rcases hm with ⟨rfl, h0, rfl, rfl⟩ | ⟨rfl, h0, rfl, rfl⟩ | ⟨rfl, h0, rfl, rfl⟩ | ⟨rfl, h0, rfl, rfl⟩ | ⟨rfl, h0, rfl, rfl⟩ | ⟨rfl, h0, rfl, rfl⟩ | ⟨rfl, h0, rfl, rfl⟩ | ⟨rfl, h0, rfl, rfl⟩ | ⟨rfl, h0, rfl, rfl⟩ | ⟨rfl, h0, rfl, rfl⟩ | ⟨rfl, h0, rfl, rfl⟩ | ⟨rfl, h0, rfl, rfl⟩ | ⟨rfl, h0, rfl, rfl⟩ | ⟨rfl, h0, rfl, rfl⟩ | ⟨rfl, h0, rfl, rfl⟩ | ⟨rfl, h0, rfl, rfl⟩ | ⟨rfl, h0, rfl, rfl⟩ | ⟨rfl, h0, rfl, rfl⟩ | ⟨rfl, h0, rfl, rfl⟩ | ⟨rfl, h0, rfl, rfl⟩ | ⟨rfl, h0, rfl, rfl⟩ | ⟨rfl, h0, rfl, rfl⟩ | ⟨rfl, h0, rfl, rfl⟩ | ⟨rfl, h0, rfl, rfl⟩ | ⟨rfl, h0, rfl, rfl⟩ | ⟨rfl, h0, rfl, rfl⟩ | ⟨rfl, h0, rfl, rfl⟩ | ⟨rfl, h0, rfl, rfl⟩ | ⟨rfl, h0, rfl, rfl⟩ | ⟨rfl, h0, rfl, rfl⟩ | ⟨rfl, h0, rfl, rfl⟩
  · exact ⟨inT (i := 164) (by decide +kernel) rfl, inT (i := 28) (by decide +kernel) rfl, inT (i := 29) (by decide +kernel) rfl⟩
  · exact absurd h0 (by decide)
  · exact absurd h0 (by decide)
  · exact absurd h0 (by decide)
  · exact absurd h0 (by decide)
  · exact absurd h0 (by decide)
  · exact absurd h0 (by decide)
  · exact absurd h0 (by decide)
  · exact absurd h0 (by decide)
  · exact absurd h0 (by decide)
  · exact absurd h0 (by decide)
  · exact absurd h0 (by decide)
  · exact absurd h0 (by decide)
  · exact absurd h0 (by decide)
  · exact absurd h0 (by decide)
  · exact absurd h0 (by decide)
  · exact absurd h0 (by decide)
  · exact absurd h0 (by decide)
  · exact ⟨inT (i := 684) (by decide +kernel) rfl, inT (i := 37) (by decide +kernel) rfl, inT (i := 3) (by decide +kernel) rfl, inT (i := 38) (by decide +kernel) rfl⟩
  · exact absurd h0 (by decide)
  · exact absurd h0 (by decide)
  · exact absurd h0 (by decide)
  · exact absurd h0 (by decide)
  · exact absurd h0 (by decide)
  · exact ⟨inT (i := 698) (by decide +kernel) rfl, inT (i := 558) (by decide +kernel) rfl, inT (i := 557) (by decide +kernel) rfl, inT (i := 19) (by decide +kernel) rfl⟩
  · exact absurd h0 (by decide)
  · exact absurd h0 (by decide)
  · exact absurd h0 (by decide)
  · exact absurd h0 (by decide)
  · exact ⟨inT (i := 669) (by decide +kernel) rfl, inT (i := 670) (by decide +kernel) rfl, inT (i := 3) (by decide +kernel) rfl, inT (i := 671) (by decide +kernel) rfl⟩
  · exact ⟨inT (i := 672) (by decide +kernel) rfl, inT (i := 673) (by decide +kernel) rfl, inT (i := 3) (by decide +kernel) rfl, inT (i := 674) (by decide +kernel) rfl⟩
theorem ln_2 : ∀ k v, lkN2 k = some v → (k, v) ∈ ([(9, 6), (21, 8)] : List (Nat × Nat)) := ent (by decide +kernel) (fun k h => nn h)
theorem ln2_2 : ∀ e ∈ ([(9, 6), (21, 8)] : List (Nat × Nat)), (e.2 < 13 ∧ Cond.classLink (ownZ 2) e.1 (clC e.2) ∈ TsZ) ∨ (e.2 = 99 ∧ Cond.classLink (ownZ 2) e.1 "[I" ∈ TsZ) := by
  refine List.forall_mem_cons.mpr ⟨Or.inl ⟨by decide, inT (i := 165) (by decide +kernel) rfl⟩, ?_⟩
  refine List.forall_mem_cons.mpr ⟨Or.inl ⟨by decide, inT (i := 206) (by decide +kernel) rfl⟩, ?_⟩
  exact fun _ h => absurd h List.not_mem_nil
theorem lI_2 : ∀ k v, lkI2 k = some v → (k, v) ∈ ([] : List (Nat × Int32)) := ent (by decide +kernel) (fun k h => nn h)
theorem lI2_2 : ∀ e ∈ ([] : List (Nat × Int32)), Cond.constant (ownZ 2) e.1 e.2 ∈ TsZ := by
  exact fun _ h => absurd h List.not_mem_nil
theorem lL_2 : ∀ k v, lkL2 k = some v → (k, v) ∈ ([(182, -9000000000000000000), (184, 64)] : List (Nat × Int64)) := ent (by decide +kernel) (fun k h => nn h)
theorem lL2_2 : ∀ e ∈ ([(182, -9000000000000000000), (184, 64)] : List (Nat × Int64)), Cond.constantLong (ownZ 2) e.1 e.2 ∈ TsZ := by
  refine List.forall_mem_cons.mpr ⟨inT (i := 667) (by decide +kernel) rfl, ?_⟩
  refine List.forall_mem_cons.mpr ⟨inT (i := 668) (by decide +kernel) rfl, ?_⟩
  exact fun _ h => absurd h List.not_mem_nil
theorem lS_2 : ∀ k v, lkS2 k = some v → (k, v) ∈ ([] : List (Nat × Nat)) := ent (by decide +kernel) (fun k h => nn h)
theorem lS2_2 : ∀ e ∈ ([] : List (Nat × Nat)), e.2 < 18 ∧ ownZ 2 = "RecordHeap$Reader" ∧ e.1 = siZ.getD e.2 0 := by
  exact fun _ h => absurd h List.not_mem_nil
theorem l9_2 : ∀ k x, lkF2 k = some x → x.2.2 = 9 → Cond.fieldLink (ownZ 2) k "RecordHeap" "TERM_MOST" "[I" ∈ TsZ := by
  intro k x h h9
  have hm := lf_2 k x h
  rcases List.mem_cons.mp hm with hm | hm
  · cases hm; exact absurd h9 (by decide)
  rcases List.mem_cons.mp hm with hm | hm
  · cases hm; exact absurd h9 (by decide)
  rcases List.mem_cons.mp hm with hm | hm
  · cases hm; exact absurd h9 (by decide)
  rcases List.mem_cons.mp hm with hm | hm
  · cases hm; exact absurd h9 (by decide)
  rcases List.mem_cons.mp hm with hm | hm
  · cases hm; exact absurd h9 (by decide)
  rcases List.mem_cons.mp hm with hm | hm
  · cases hm; exact absurd h9 (by decide)
  rcases List.mem_cons.mp hm with hm | hm
  · cases hm; exact absurd h9 (by decide)
  rcases List.mem_cons.mp hm with hm | hm
  · cases hm; exact absurd h9 (by decide)
  rcases List.mem_cons.mp hm with hm | hm
  · cases hm; exact absurd h9 (by decide)
  rcases List.mem_cons.mp hm with hm | hm
  · cases hm; exact absurd h9 (by decide)
  rcases List.mem_cons.mp hm with hm | hm
  · cases hm; exact absurd h9 (by decide)
  rcases List.mem_cons.mp hm with hm | hm
  · cases hm; exact absurd h9 (by decide)
  rcases List.mem_cons.mp hm with hm | hm
  · cases hm; exact absurd h9 (by decide)
  rcases List.mem_cons.mp hm with hm | hm
  · cases hm; exact absurd h9 (by decide)
  rcases List.mem_cons.mp hm with hm | hm
  · cases hm; exact absurd h9 (by decide)
  rcases List.mem_cons.mp hm with hm | hm
  · cases hm; exact absurd h9 (by decide)
  rcases List.mem_cons.mp hm with hm | hm
  · cases hm; exact absurd h9 (by decide)
  rcases List.mem_cons.mp hm with hm | hm
  · cases hm; exact absurd h9 (by decide)
  exact absurd hm List.not_mem_nil
theorem lok_2 : LOK 2 := ⟨fun k x h h9 => lf2_2 _ (lf_2 k x h) h9, l9_2, fun k x h => ln2_2 _ (ln_2 k x h), fun k x h => lI2_2 _ (lI_2 k x h), fun k x h => lL2_2 _ (lL_2 k x h), fun k x h => lS2_2 _ (lS_2 k x h)⟩
theorem lf_3 : ∀ k v, lkF3 k = some v → (k, v) ∈ ([(10, (3, 0, 3)), (19, (3, 1, 3))] : List (Nat × Nat × Nat × Nat)) := ent (by decide +kernel) (fun k h => nn h)
theorem lf2_3 : ∀ e ∈ ([(10, (3, 0, 3)), (19, (3, 1, 3))] : List (Nat × Nat × Nat × Nat)), e.2.2.2 ≠ 9 → e.2.1 < 13 ∧ (fkZ e.2.1)[e.2.2.1]? = some e.2.2.2 ∧ (Cond.fieldLink (ownZ 3) e.1 (clC e.2.1) (clT e.2.1 e.2.2.1).2.1 (clT e.2.1 e.2.2.1).2.2.1 ∈ TsZ ∨ ∃ h, Cond.fieldLinkNest (ownZ 3) e.1 (clC e.2.1) (clT e.2.1 e.2.2.1).2.1 (clT e.2.1 e.2.2.1).2.2.1 h ∈ nestZ ∧ clC e.2.1 ≠ ownZ 3) := by
  refine List.forall_mem_cons.mpr ⟨fun _ => ⟨by decide, rfl, Or.inl (inT (i := 1008) (by decide +kernel) rfl)⟩, ?_⟩
  refine List.forall_mem_cons.mpr ⟨fun _ => ⟨by decide, rfl, Or.inl (inT (i := 1010) (by decide +kernel) rfl)⟩, ?_⟩
  exact fun _ h => absurd h List.not_mem_nil
theorem lc_3 : ∀ k v, lkC3 k = some v → (k, v) ∈ ([(1, (0, 0, 0)), (9, (3, 7, 0)), (18, (3, 5, 0))] : List (Nat × Nat × Nat × Nat)) := ent (by decide +kernel) (fun k h => nn h)
theorem lc2_3 : ∀ e ∈ ([(1, (0, 0, 0)), (9, (3, 7, 0)), (18, (3, 5, 0))] : List (Nat × Nat × Nat × Nat)), e.2.1 ≠ 0 → e.2.2.1 < 271 ∧ (parseMethodDescriptor (yZ e.2.2.1).desc).map (fun d => d.parameters.length) = some e.2.2.2 ∧ (Cond.methodLink (ownZ 3) e.1 (yZ e.2.2.1) ∈ TsZ ∨ ∃ h, Cond.methodLinkNest (ownZ 3) e.1 (yZ e.2.2.1) h ∈ nestZ) ∧ (e.2.1 = 1 → Cond.static (yZ e.2.2.1) ∈ TsZ) ∧ (e.2.1 = 2 → Cond.instanceMethod (yZ e.2.2.1) ∈ TsZ ∧ Cond.selects (yZ e.2.2.1).cls (yZ e.2.2.1) (yZ e.2.2.1) ∈ TsZ ∧ (methZ e.2.2.1).2.1 < 13) ∧ (e.2.1 = 3 → Cond.instanceMethod (yZ e.2.2.1) ∈ TsZ ∧ (yZ e.2.2.1).name = "<init>" ∧ rZ e.2.2.1 = none) := by
  refine List.forall_mem_cons.mpr ⟨fun h => absurd rfl h, ?_⟩
  refine List.forall_mem_cons.mpr ⟨fun _ => ⟨by decide, by decide +kernel, Or.inr ⟨"RecordHeap", inN (i := 1005) (by decide +kernel) rfl⟩, fun h => absurd h (by decide), fun h => absurd h (by decide), fun _ => ⟨inT (i := 168) (by decide +kernel) rfl, rfl, rfl⟩⟩, ?_⟩
  refine List.forall_mem_cons.mpr ⟨fun _ => ⟨by decide, by decide +kernel, Or.inr ⟨"RecordHeap", inN (i := 1007) (by decide +kernel) rfl⟩, fun h => absurd h (by decide), fun h => absurd h (by decide), fun _ => ⟨inT (i := 136) (by decide +kernel) rfl, rfl, rfl⟩⟩, ?_⟩
  exact fun _ h => absurd h List.not_mem_nil
theorem cok_3 : COK 3 := fun k how x na h h0 => lc2_3 _ (lc_3 k _ h) h0
theorem pok_3 : POK 3 := by
  intro k x na h
  have hm := lc_3 k _ h
  simp only [List.mem_cons, List.not_mem_nil, or_false, Prod.mk.injEq] at hm
  rcases hm with ⟨rfl, h0, rfl, rfl⟩ | ⟨rfl, h0, rfl, rfl⟩ | ⟨rfl, h0, rfl, rfl⟩
  · exact ⟨inT (i := 1003) (by decide +kernel) rfl, inT (i := 28) (by decide +kernel) rfl, inT (i := 29) (by decide +kernel) rfl⟩
  · exact absurd h0 (by decide)
  · exact absurd h0 (by decide)
theorem ln_3 : ∀ k v, lkN3 k = some v → (k, v) ∈ ([(7, 6), (16, 10)] : List (Nat × Nat)) := ent (by decide +kernel) (fun k h => nn h)
theorem ln2_3 : ∀ e ∈ ([(7, 6), (16, 10)] : List (Nat × Nat)), (e.2 < 13 ∧ Cond.classLink (ownZ 3) e.1 (clC e.2) ∈ TsZ) ∨ (e.2 = 99 ∧ Cond.classLink (ownZ 3) e.1 "[I" ∈ TsZ) := by
  refine List.forall_mem_cons.mpr ⟨Or.inl ⟨by decide, inT (i := 1004) (by decide +kernel) rfl⟩, ?_⟩
  refine List.forall_mem_cons.mpr ⟨Or.inl ⟨by decide, inT (i := 1006) (by decide +kernel) rfl⟩, ?_⟩
  exact fun _ h => absurd h List.not_mem_nil
theorem lI_3 : ∀ k v, lkI3 k = some v → (k, v) ∈ ([] : List (Nat × Int32)) := ent (by decide +kernel) (fun k h => nn h)
theorem lI2_3 : ∀ e ∈ ([] : List (Nat × Int32)), Cond.constant (ownZ 3) e.1 e.2 ∈ TsZ := by
  exact fun _ h => absurd h List.not_mem_nil
theorem lL_3 : ∀ k v, lkL3 k = some v → (k, v) ∈ ([] : List (Nat × Int64)) := ent (by decide +kernel) (fun k h => nn h)
theorem lL2_3 : ∀ e ∈ ([] : List (Nat × Int64)), Cond.constantLong (ownZ 3) e.1 e.2 ∈ TsZ := by
  exact fun _ h => absurd h List.not_mem_nil
theorem lS_3 : ∀ k v, lkS3 k = some v → (k, v) ∈ ([] : List (Nat × Nat)) := ent (by decide +kernel) (fun k h => nn h)
theorem lS2_3 : ∀ e ∈ ([] : List (Nat × Nat)), e.2 < 18 ∧ ownZ 3 = "RecordHeap$Reader" ∧ e.1 = siZ.getD e.2 0 := by
  exact fun _ h => absurd h List.not_mem_nil
theorem l9_3 : ∀ k x, lkF3 k = some x → x.2.2 = 9 → Cond.fieldLink (ownZ 3) k "RecordHeap" "TERM_MOST" "[I" ∈ TsZ := by
  intro k x h h9
  have hm := lf_3 k x h
  rcases List.mem_cons.mp hm with hm | hm
  · cases hm; exact absurd h9 (by decide)
  rcases List.mem_cons.mp hm with hm | hm
  · cases hm; exact absurd h9 (by decide)
  exact absurd hm List.not_mem_nil
theorem lok_3 : LOK 3 := ⟨fun k x h h9 => lf2_3 _ (lf_3 k x h) h9, l9_3, fun k x h => ln2_3 _ (ln_3 k x h), fun k x h => lI2_3 _ (lI_3 k x h), fun k x h => lL2_3 _ (lL_3 k x h), fun k x h => lS2_3 _ (lS_3 k x h)⟩
theorem lf_4 : ∀ k v, lkF4 k = some v → (k, v) ∈ ([(9, (4, 0, 3)), (17, (4, 1, 3)), (21, (4, 2, 0))] : List (Nat × Nat × Nat × Nat)) := ent (by decide +kernel) (fun k h => nn h)
theorem lf2_4 : ∀ e ∈ ([(9, (4, 0, 3)), (17, (4, 1, 3)), (21, (4, 2, 0))] : List (Nat × Nat × Nat × Nat)), e.2.2.2 ≠ 9 → e.2.1 < 13 ∧ (fkZ e.2.1)[e.2.2.1]? = some e.2.2.2 ∧ (Cond.fieldLink (ownZ 4) e.1 (clC e.2.1) (clT e.2.1 e.2.2.1).2.1 (clT e.2.1 e.2.2.1).2.2.1 ∈ TsZ ∨ ∃ h, Cond.fieldLinkNest (ownZ 4) e.1 (clC e.2.1) (clT e.2.1 e.2.2.1).2.1 (clT e.2.1 e.2.2.1).2.2.1 h ∈ nestZ ∧ clC e.2.1 ≠ ownZ 4) := by
  refine List.forall_mem_cons.mpr ⟨fun _ => ⟨by decide, rfl, Or.inl (inT (i := 244) (by decide +kernel) rfl)⟩, ?_⟩
  refine List.forall_mem_cons.mpr ⟨fun _ => ⟨by decide, rfl, Or.inl (inT (i := 245) (by decide +kernel) rfl)⟩, ?_⟩
  refine List.forall_mem_cons.mpr ⟨fun _ => ⟨by decide, rfl, Or.inl (inT (i := 246) (by decide +kernel) rfl)⟩, ?_⟩
  exact fun _ h => absurd h List.not_mem_nil
theorem lc_4 : ∀ k v, lkC4 k = some v → (k, v) ∈ ([(3, (0, 0, 0)), (25, (2, 84, 0)), (28, (3, 7, 0)), (29, (2, 42, 1)), (33, (2, 83, 2))] : List (Nat × Nat × Nat × Nat)) := ent (by decide +kernel) (fun k h => nn h)
theorem lc2_4 : ∀ e ∈ ([(3, (0, 0, 0)), (25, (2, 84, 0)), (28, (3, 7, 0)), (29, (2, 42, 1)), (33, (2, 83, 2))] : List (Nat × Nat × Nat × Nat)), e.2.1 ≠ 0 → e.2.2.1 < 271 ∧ (parseMethodDescriptor (yZ e.2.2.1).desc).map (fun d => d.parameters.length) = some e.2.2.2 ∧ (Cond.methodLink (ownZ 4) e.1 (yZ e.2.2.1) ∈ TsZ ∨ ∃ h, Cond.methodLinkNest (ownZ 4) e.1 (yZ e.2.2.1) h ∈ nestZ) ∧ (e.2.1 = 1 → Cond.static (yZ e.2.2.1) ∈ TsZ) ∧ (e.2.1 = 2 → Cond.instanceMethod (yZ e.2.2.1) ∈ TsZ ∧ Cond.selects (yZ e.2.2.1).cls (yZ e.2.2.1) (yZ e.2.2.1) ∈ TsZ ∧ (methZ e.2.2.1).2.1 < 13) ∧ (e.2.1 = 3 → Cond.instanceMethod (yZ e.2.2.1) ∈ TsZ ∧ (yZ e.2.2.1).name = "<init>" ∧ rZ e.2.2.1 = none) := by
  refine List.forall_mem_cons.mpr ⟨fun h => absurd rfl h, ?_⟩
  refine List.forall_mem_cons.mpr ⟨fun _ => ⟨by decide, by decide +kernel, Or.inl (inT (i := 763) (by decide +kernel) rfl), fun h => absurd h (by decide), fun _ => ⟨inT (i := 765) (by decide +kernel) rfl, inS (i := 62) (n := 3) (by decide +kernel), Nat.lt_of_succ_le (Nat.le_of_ble_eq_true rfl)⟩, fun h => absurd h (by decide)⟩, ?_⟩
  refine List.forall_mem_cons.mpr ⟨fun _ => ⟨by decide, by decide +kernel, Or.inr ⟨"RecordHeap", inN (i := 767) (by decide +kernel) rfl⟩, fun h => absurd h (by decide), fun h => absurd h (by decide), fun _ => ⟨inT (i := 168) (by decide +kernel) rfl, rfl, rfl⟩⟩, ?_⟩
  refine List.forall_mem_cons.mpr ⟨fun _ => ⟨by decide, by decide +kernel, Or.inr ⟨"RecordHeap", inN (i := 768) (by decide +kernel) rfl⟩, fun h => absurd h (by decide), fun _ => ⟨inT (i := 575) (by decide +kernel) rfl, inS (i := 23) (n := 6) (by decide +kernel), Nat.lt_of_succ_le (Nat.le_of_ble_eq_true rfl)⟩, fun h => absurd h (by decide)⟩, ?_⟩
  refine List.forall_mem_cons.mpr ⟨fun _ => ⟨by decide, by decide +kernel, Or.inl (inT (i := 777) (by decide +kernel) rfl), fun h => absurd h (by decide), fun _ => ⟨inT (i := 761) (by decide +kernel) rfl, inS (i := 61) (n := 3) (by decide +kernel), Nat.lt_of_succ_le (Nat.le_of_ble_eq_true rfl)⟩, fun h => absurd h (by decide)⟩, ?_⟩
  exact fun _ h => absurd h List.not_mem_nil
theorem cok_4 : COK 4 := fun k how x na h h0 => lc2_4 _ (lc_4 k _ h) h0
theorem pok_4 : POK 4 := by
  intro k x na h
  have hm := lc_4 k _ h
  simp only [List.mem_cons, List.not_mem_nil, or_false, Prod.mk.injEq] at hm
  rcases hm with ⟨rfl, h0, rfl, rfl⟩ | ⟨rfl, h0, rfl, rfl⟩ | ⟨rfl, h0, rfl, rfl⟩ | ⟨rfl, h0, rfl, rfl⟩ | ⟨rfl, h0, rfl, rfl⟩
  · exact ⟨inT (i := 241) (by decide +kernel) rfl, inT (i := 28) (by decide +kernel) rfl, inT (i := 29) (by decide +kernel) rfl⟩
  · exact absurd h0 (by decide)
  · exact absurd h0 (by decide)
  · exact absurd h0 (by decide)
  · exact absurd h0 (by decide)
theorem ln_4 : ∀ k v, lkN4 k = some v → (k, v) ∈ ([(15, 6)] : List (Nat × Nat)) := ent (by decide +kernel) (fun k h => nn h)
theorem ln2_4 : ∀ e ∈ ([(15, 6)] : List (Nat × Nat)), (e.2 < 13 ∧ Cond.classLink (ownZ 4) e.1 (clC e.2) ∈ TsZ) ∨ (e.2 = 99 ∧ Cond.classLink (ownZ 4) e.1 "[I" ∈ TsZ) := by
  refine List.forall_mem_cons.mpr ⟨Or.inl ⟨by decide, inT (i := 242) (by decide +kernel) rfl⟩, ?_⟩
  exact fun _ h => absurd h List.not_mem_nil
theorem lI_4 : ∀ k v, lkI4 k = some v → (k, v) ∈ ([] : List (Nat × Int32)) := ent (by decide +kernel) (fun k h => nn h)
theorem lI2_4 : ∀ e ∈ ([] : List (Nat × Int32)), Cond.constant (ownZ 4) e.1 e.2 ∈ TsZ := by
  exact fun _ h => absurd h List.not_mem_nil
theorem lL_4 : ∀ k v, lkL4 k = some v → (k, v) ∈ ([] : List (Nat × Int64)) := ent (by decide +kernel) (fun k h => nn h)
theorem lL2_4 : ∀ e ∈ ([] : List (Nat × Int64)), Cond.constantLong (ownZ 4) e.1 e.2 ∈ TsZ := by
  exact fun _ h => absurd h List.not_mem_nil
theorem lS_4 : ∀ k v, lkS4 k = some v → (k, v) ∈ ([] : List (Nat × Nat)) := ent (by decide +kernel) (fun k h => nn h)
theorem lS2_4 : ∀ e ∈ ([] : List (Nat × Nat)), e.2 < 18 ∧ ownZ 4 = "RecordHeap$Reader" ∧ e.1 = siZ.getD e.2 0 := by
  exact fun _ h => absurd h List.not_mem_nil
theorem l9_4 : ∀ k x, lkF4 k = some x → x.2.2 = 9 → Cond.fieldLink (ownZ 4) k "RecordHeap" "TERM_MOST" "[I" ∈ TsZ := by
  intro k x h h9
  have hm := lf_4 k x h
  rcases List.mem_cons.mp hm with hm | hm
  · cases hm; exact absurd h9 (by decide)
  rcases List.mem_cons.mp hm with hm | hm
  · cases hm; exact absurd h9 (by decide)
  rcases List.mem_cons.mp hm with hm | hm
  · cases hm; exact absurd h9 (by decide)
  exact absurd hm List.not_mem_nil
theorem lok_4 : LOK 4 := ⟨fun k x h h9 => lf2_4 _ (lf_4 k x h) h9, l9_4, fun k x h => ln2_4 _ (ln_4 k x h), fun k x h => lI2_4 _ (lI_4 k x h), fun k x h => lL2_4 _ (lL_4 k x h), fun k x h => lS2_4 _ (lS_4 k x h)⟩
theorem lf_5 : ∀ k v, lkF5 k = some v → (k, v) ∈ ([(9, (5, 0, 3)), (15, (5, 1, 3)), (18, (11, 1, 3)), (24, (11, 0, 3))] : List (Nat × Nat × Nat × Nat)) := ent (by decide +kernel) (fun k h => nn h)
theorem lf2_5 : ∀ e ∈ ([(9, (5, 0, 3)), (15, (5, 1, 3)), (18, (11, 1, 3)), (24, (11, 0, 3))] : List (Nat × Nat × Nat × Nat)), e.2.2.2 ≠ 9 → e.2.1 < 13 ∧ (fkZ e.2.1)[e.2.2.1]? = some e.2.2.2 ∧ (Cond.fieldLink (ownZ 5) e.1 (clC e.2.1) (clT e.2.1 e.2.2.1).2.1 (clT e.2.1 e.2.2.1).2.2.1 ∈ TsZ ∨ ∃ h, Cond.fieldLinkNest (ownZ 5) e.1 (clC e.2.1) (clT e.2.1 e.2.2.1).2.1 (clT e.2.1 e.2.2.1).2.2.1 h ∈ nestZ ∧ clC e.2.1 ≠ ownZ 5) := by
  refine List.forall_mem_cons.mpr ⟨fun _ => ⟨by decide, rfl, Or.inl (inT (i := 123) (by decide +kernel) rfl)⟩, ?_⟩
  refine List.forall_mem_cons.mpr ⟨fun _ => ⟨by decide, rfl, Or.inl (inT (i := 126) (by decide +kernel) rfl)⟩, ?_⟩
  refine List.forall_mem_cons.mpr ⟨fun _ => ⟨by decide, rfl, Or.inr ⟨"RecordHeap", inN (i := 69) (by decide +kernel) rfl, by decide +kernel⟩⟩, ?_⟩
  refine List.forall_mem_cons.mpr ⟨fun _ => ⟨by decide, rfl, Or.inr ⟨"RecordHeap", inN (i := 67) (by decide +kernel) rfl, by decide +kernel⟩⟩, ?_⟩
  exact fun _ h => absurd h List.not_mem_nil
theorem lc_5 : ∀ k v, lkC5 k = some v → (k, v) ∈ ([(3, (0, 0, 0)), (29, (1, 49, 3)), (33, (0, 1, 2))] : List (Nat × Nat × Nat × Nat)) := ent (by decide +kernel) (fun k h => nn h)
theorem lc2_5 : ∀ e ∈ ([(3, (0, 0, 0)), (29, (1, 49, 3)), (33, (0, 1, 2))] : List (Nat × Nat × Nat × Nat)), e.2.1 ≠ 0 → e.2.2.1 < 271 ∧ (parseMethodDescriptor (yZ e.2.2.1).desc).map (fun d => d.parameters.length) = some e.2.2.2 ∧ (Cond.methodLink (ownZ 5) e.1 (yZ e.2.2.1) ∈ TsZ ∨ ∃ h, Cond.methodLinkNest (ownZ 5) e.1 (yZ e.2.2.1) h ∈ nestZ) ∧ (e.2.1 = 1 → Cond.static (yZ e.2.2.1) ∈ TsZ) ∧ (e.2.1 = 2 → Cond.instanceMethod (yZ e.2.2.1) ∈ TsZ ∧ Cond.selects (yZ e.2.2.1).cls (yZ e.2.2.1) (yZ e.2.2.1) ∈ TsZ ∧ (methZ e.2.2.1).2.1 < 13) ∧ (e.2.1 = 3 → Cond.instanceMethod (yZ e.2.2.1) ∈ TsZ ∧ (yZ e.2.2.1).name = "<init>" ∧ rZ e.2.2.1 = none) := by
  refine List.forall_mem_cons.mpr ⟨fun h => absurd rfl h, ?_⟩
  refine List.forall_mem_cons.mpr ⟨fun _ => ⟨by decide, by decide +kernel, Or.inl (inT (i := 603) (by decide +kernel) rfl), fun _ => inT (i := 604) (by decide +kernel) rfl, fun h => absurd h (by decide), fun h => absurd h (by decide)⟩, ?_⟩
  refine List.forall_mem_cons.mpr ⟨fun h => absurd rfl h, ?_⟩
  exact fun _ h => absurd h List.not_mem_nil
theorem cok_5 : COK 5 := fun k how x na h h0 => lc2_5 _ (lc_5 k _ h) h0
theorem pok_5 : POK 5 := by
  intro k x na h
  have hm := lc_5 k _ h
  simp only [List.mem_cons, List.not_mem_nil, or_false, Prod.mk.injEq] at hm
  rcases hm with ⟨rfl, h0, rfl, rfl⟩ | ⟨rfl, h0, rfl, rfl⟩ | ⟨rfl, h0, rfl, rfl⟩
  · exact ⟨inT (i := 122) (by decide +kernel) rfl, inT (i := 28) (by decide +kernel) rfl, inT (i := 29) (by decide +kernel) rfl⟩
  · exact absurd h0 (by decide)
  · exact ⟨inT (i := 608) (by decide +kernel) rfl, inT (i := 37) (by decide +kernel) rfl, inT (i := 3) (by decide +kernel) rfl, inT (i := 38) (by decide +kernel) rfl⟩
theorem ln_5 : ∀ k v, lkN5 k = some v → (k, v) ∈ ([] : List (Nat × Nat)) := ent (by decide +kernel) (fun k h => nn h)
theorem ln2_5 : ∀ e ∈ ([] : List (Nat × Nat)), (e.2 < 13 ∧ Cond.classLink (ownZ 5) e.1 (clC e.2) ∈ TsZ) ∨ (e.2 = 99 ∧ Cond.classLink (ownZ 5) e.1 "[I" ∈ TsZ) := by
  exact fun _ h => absurd h List.not_mem_nil
theorem lI_5 : ∀ k v, lkI5 k = some v → (k, v) ∈ ([] : List (Nat × Int32)) := ent (by decide +kernel) (fun k h => nn h)
theorem lI2_5 : ∀ e ∈ ([] : List (Nat × Int32)), Cond.constant (ownZ 5) e.1 e.2 ∈ TsZ := by
  exact fun _ h => absurd h List.not_mem_nil
theorem lL_5 : ∀ k v, lkL5 k = some v → (k, v) ∈ ([(27, -9000000000000000000), (39, -1000000000), (41, 1000000000)] : List (Nat × Int64)) := ent (by decide +kernel) (fun k h => nn h)
theorem lL2_5 : ∀ e ∈ ([(27, -9000000000000000000), (39, -1000000000), (41, 1000000000)] : List (Nat × Int64)), Cond.constantLong (ownZ 5) e.1 e.2 ∈ TsZ := by
  refine List.forall_mem_cons.mpr ⟨inT (i := 602) (by decide +kernel) rfl, ?_⟩
  refine List.forall_mem_cons.mpr ⟨inT (i := 606) (by decide +kernel) rfl, ?_⟩
  refine List.forall_mem_cons.mpr ⟨inT (i := 607) (by decide +kernel) rfl, ?_⟩
  exact fun _ h => absurd h List.not_mem_nil
theorem lS_5 : ∀ k v, lkS5 k = some v → (k, v) ∈ ([] : List (Nat × Nat)) := ent (by decide +kernel) (fun k h => nn h)
theorem lS2_5 : ∀ e ∈ ([] : List (Nat × Nat)), e.2 < 18 ∧ ownZ 5 = "RecordHeap$Reader" ∧ e.1 = siZ.getD e.2 0 := by
  exact fun _ h => absurd h List.not_mem_nil
theorem l9_5 : ∀ k x, lkF5 k = some x → x.2.2 = 9 → Cond.fieldLink (ownZ 5) k "RecordHeap" "TERM_MOST" "[I" ∈ TsZ := by
  intro k x h h9
  have hm := lf_5 k x h
  rcases List.mem_cons.mp hm with hm | hm
  · cases hm; exact absurd h9 (by decide)
  rcases List.mem_cons.mp hm with hm | hm
  · cases hm; exact absurd h9 (by decide)
  rcases List.mem_cons.mp hm with hm | hm
  · cases hm; exact absurd h9 (by decide)
  rcases List.mem_cons.mp hm with hm | hm
  · cases hm; exact absurd h9 (by decide)
  exact absurd hm List.not_mem_nil
theorem lok_5 : LOK 5 := ⟨fun k x h h9 => lf2_5 _ (lf_5 k x h) h9, l9_5, fun k x h => ln2_5 _ (ln_5 k x h), fun k x h => lI2_5 _ (lI_5 k x h), fun k x h => lL2_5 _ (lL_5 k x h), fun k x h => lS2_5 _ (lS_5 k x h)⟩
theorem lf_6 : ∀ k v, lkF6 k = some v → (k, v) ∈ ([(9, (6, 0, 3)), (15, (6, 1, 3)), (18, (6, 2, 3)), (21, (6, 3, 3)), (24, (6, 4, 3)), (27, (6, 5, 3)), (90, (8, 1, 0)), (96, (8, 0, 3))] : List (Nat × Nat × Nat × Nat)) := ent (by decide +kernel) (fun k h => nn h)
theorem lf2_6 : ∀ e ∈ ([(9, (6, 0, 3)), (15, (6, 1, 3)), (18, (6, 2, 3)), (21, (6, 3, 3)), (24, (6, 4, 3)), (27, (6, 5, 3)), (90, (8, 1, 0)), (96, (8, 0, 3))] : List (Nat × Nat × Nat × Nat)), e.2.2.2 ≠ 9 → e.2.1 < 13 ∧ (fkZ e.2.1)[e.2.2.1]? = some e.2.2.2 ∧ (Cond.fieldLink (ownZ 6) e.1 (clC e.2.1) (clT e.2.1 e.2.2.1).2.1 (clT e.2.1 e.2.2.1).2.2.1 ∈ TsZ ∨ ∃ h, Cond.fieldLinkNest (ownZ 6) e.1 (clC e.2.1) (clT e.2.1 e.2.2.1).2.1 (clT e.2.1 e.2.2.1).2.2.1 h ∈ nestZ ∧ clC e.2.1 ≠ ownZ 6) := by
  refine List.forall_mem_cons.mpr ⟨fun _ => ⟨by decide, rfl, Or.inl (inT (i := 174) (by decide +kernel) rfl)⟩, ?_⟩
  refine List.forall_mem_cons.mpr ⟨fun _ => ⟨by decide, rfl, Or.inl (inT (i := 177) (by decide +kernel) rfl)⟩, ?_⟩
  refine List.forall_mem_cons.mpr ⟨fun _ => ⟨by decide, rfl, Or.inl (inT (i := 180) (by decide +kernel) rfl)⟩, ?_⟩
  refine List.forall_mem_cons.mpr ⟨fun _ => ⟨by decide, rfl, Or.inl (inT (i := 183) (by decide +kernel) rfl)⟩, ?_⟩
  refine List.forall_mem_cons.mpr ⟨fun _ => ⟨by decide, rfl, Or.inl (inT (i := 186) (by decide +kernel) rfl)⟩, ?_⟩
  refine List.forall_mem_cons.mpr ⟨fun _ => ⟨by decide, rfl, Or.inl (inT (i := 191) (by decide +kernel) rfl)⟩, ?_⟩
  refine List.forall_mem_cons.mpr ⟨fun _ => ⟨by decide, rfl, Or.inr ⟨"RecordHeap", inN (i := 47) (by decide +kernel) rfl, by decide +kernel⟩⟩, ?_⟩
  refine List.forall_mem_cons.mpr ⟨fun _ => ⟨by decide, rfl, Or.inr ⟨"RecordHeap", inN (i := 42) (by decide +kernel) rfl, by decide +kernel⟩⟩, ?_⟩
  exact fun _ h => absurd h List.not_mem_nil
theorem lc_6 : ∀ k v, lkC6 k = some v → (k, v) ∈ ([(3, (0, 0, 0)), (30, (1, 8, 2)), (36, (0, 5, 5)), (42, (0, 2, 2)), (48, (2, 67, 1)), (52, (2, 47, 1)), (55, (2, 66, 1)), (58, (1, 52, 1)), (62, (2, 75, 1)), (65, (2, 76, 2)), (68, (2, 74, 1)), (71, (0, 1, 2)), (74, (2, 51, 1)), (77, (2, 46, 1)), (80, (2, 93, 1)), (83, (2, 115, 2)), (87, (2, 100, 2)), (97, (2, 95, 1))] : List (Nat × Nat × Nat × Nat)) := ent (by decide +kernel) (fun k h => nn h)
theorem lc2_6 : ∀ e ∈ ([(3, (0, 0, 0)), (30, (1, 8, 2)), (36, (0, 5, 5)), (42, (0, 2, 2)), (48, (2, 67, 1)), (52, (2, 47, 1)), (55, (2, 66, 1)), (58, (1, 52, 1)), (62, (2, 75, 1)), (65, (2, 76, 2)), (68, (2, 74, 1)), (71, (0, 1, 2)), (74, (2, 51, 1)), (77, (2, 46, 1)), (80, (2, 93, 1)), (83, (2, 115, 2)), (87, (2, 100, 2)), (97, (2, 95, 1))] : List (Nat × Nat × Nat × Nat)), e.2.1 ≠ 0 → e.2.2.1 < 271 ∧ (parseMethodDescriptor (yZ e.2.2.1).desc).map (fun d => d.parameters.length) = some e.2.2.2 ∧ (Cond.methodLink (ownZ 6) e.1 (yZ e.2.2.1) ∈ TsZ ∨ ∃ h, Cond.methodLinkNest (ownZ 6) e.1 (yZ e.2.2.1) h ∈ nestZ) ∧ (e.2.1 = 1 → Cond.static (yZ e.2.2.1) ∈ TsZ) ∧ (e.2.1 = 2 → Cond.instanceMethod (yZ e.2.2.1) ∈ TsZ ∧ Cond.selects (yZ e.2.2.1).cls (yZ e.2.2.1) (yZ e.2.2.1) ∈ TsZ ∧ (methZ e.2.2.1).2.1 < 13) ∧ (e.2.1 = 3 → Cond.instanceMethod (yZ e.2.2.1) ∈ TsZ ∧ (yZ e.2.2.1).name = "<init>" ∧ rZ e.2.2.1 = none) := by
  refine List.forall_mem_cons.mpr ⟨fun h => absurd rfl h, ?_⟩
  refine List.forall_mem_cons.mpr ⟨fun _ => ⟨by decide, by decide +kernel, Or.inl (inT (i := 171) (by decide +kernel) rfl), fun _ => inT (i := 172) (by decide +kernel) rfl, fun h => absurd h (by decide), fun h => absurd h (by decide)⟩, ?_⟩
  refine List.forall_mem_cons.mpr ⟨fun h => absurd rfl h, ?_⟩
  refine List.forall_mem_cons.mpr ⟨fun h => absurd rfl h, ?_⟩
  refine List.forall_mem_cons.mpr ⟨fun _ => ⟨by decide, by decide +kernel, Or.inl (inT (i := 689) (by decide +kernel) rfl), fun h => absurd h (by decide), fun _ => ⟨inT (i := 691) (by decide +kernel) rfl, inS (i := 45) (n := 6) (by decide +kernel), Nat.lt_of_succ_le (Nat.le_of_ble_eq_true rfl)⟩, fun h => absurd h (by decide)⟩, ?_⟩
  refine List.forall_mem_cons.mpr ⟨fun _ => ⟨by decide, by decide +kernel, Or.inl (inT (i := 708) (by decide +kernel) rfl), fun h => absurd h (by decide), fun _ => ⟨inT (i := 596) (by decide +kernel) rfl, inS (i := 28) (n := 6) (by decide +kernel), Nat.lt_of_succ_le (Nat.le_of_ble_eq_true rfl)⟩, fun h => absurd h (by decide)⟩, ?_⟩
  refine List.forall_mem_cons.mpr ⟨fun _ => ⟨by decide, by decide +kernel, Or.inl (inT (i := 822) (by decide +kernel) rfl), fun h => absurd h (by decide), fun _ => ⟨inT (i := 687) (by decide +kernel) rfl, inS (i := 44) (n := 6) (by decide +kernel), Nat.lt_of_succ_le (Nat.le_of_ble_eq_true rfl)⟩, fun h => absurd h (by decide)⟩, ?_⟩
  refine List.forall_mem_cons.mpr ⟨fun _ => ⟨by decide, by decide +kernel, Or.inr ⟨"RecordHeap", inN (i := 618) (by decide +kernel) rfl⟩, fun _ => inT (i := 619) (by decide +kernel) rfl, fun h => absurd h (by decide), fun h => absurd h (by decide)⟩, ?_⟩
  refine List.forall_mem_cons.mpr ⟨fun _ => ⟨by decide, by decide +kernel, Or.inl (inT (i := 725) (by decide +kernel) rfl), fun h => absurd h (by decide), fun _ => ⟨inT (i := 727) (by decide +kernel) rfl, inS (i := 53) (n := 6) (by decide +kernel), Nat.lt_of_succ_le (Nat.le_of_ble_eq_true rfl)⟩, fun h => absurd h (by decide)⟩, ?_⟩
  refine List.forall_mem_cons.mpr ⟨fun _ => ⟨by decide, by decide +kernel, Or.inl (inT (i := 729) (by decide +kernel) rfl), fun h => absurd h (by decide), fun _ => ⟨inT (i := 731) (by decide +kernel) rfl, inS (i := 54) (n := 6) (by decide +kernel), Nat.lt_of_succ_le (Nat.le_of_ble_eq_true rfl)⟩, fun h => absurd h (by decide)⟩, ?_⟩
  refine List.forall_mem_cons.mpr ⟨fun _ => ⟨by decide, by decide +kernel, Or.inl (inT (i := 811) (by decide +kernel) rfl), fun h => absurd h (by decide), fun _ => ⟨inT (i := 723) (by decide +kernel) rfl, inS (i := 52) (n := 6) (by decide +kernel), Nat.lt_of_succ_le (Nat.le_of_ble_eq_true rfl)⟩, fun h => absurd h (by decide)⟩, ?_⟩
  refine List.forall_mem_cons.mpr ⟨fun h => absurd rfl h, ?_⟩
  refine List.forall_mem_cons.mpr ⟨fun _ => ⟨by decide, by decide +kernel, Or.inl (inT (i := 892) (by decide +kernel) rfl), fun h => absurd h (by decide), fun _ => ⟨inT (i := 616) (by decide +kernel) rfl, inS (i := 31) (n := 6) (by decide +kernel), Nat.lt_of_succ_le (Nat.le_of_ble_eq_true rfl)⟩, fun h => absurd h (by decide)⟩, ?_⟩
  refine List.forall_mem_cons.mpr ⟨fun _ => ⟨by decide, by decide +kernel, Or.inl (inT (i := 590) (by decide +kernel) rfl), fun h => absurd h (by decide), fun _ => ⟨inT (i := 592) (by decide +kernel) rfl, inS (i := 27) (n := 6) (by decide +kernel), Nat.lt_of_succ_le (Nat.le_of_ble_eq_true rfl)⟩, fun h => absurd h (by decide)⟩, ?_⟩
  refine List.forall_mem_cons.mpr ⟨fun _ => ⟨by decide, by decide +kernel, Or.inl (inT (i := 925) (by decide +kernel) rfl), fun h => absurd h (by decide), fun _ => ⟨inT (i := 809) (by decide +kernel) rfl, inS (i := 65) (n := 6) (by decide +kernel), Nat.lt_of_succ_le (Nat.le_of_ble_eq_true rfl)⟩, fun h => absurd h (by decide)⟩, ?_⟩
  refine List.forall_mem_cons.mpr ⟨fun _ => ⟨by decide, by decide +kernel, Or.inl (inT (i := 912) (by decide +kernel) rfl), fun h => absurd h (by decide), fun _ => ⟨inT (i := 914) (by decide +kernel) rfl, inS (i := 72) (n := 6) (by decide +kernel), Nat.lt_of_succ_le (Nat.le_of_ble_eq_true rfl)⟩, fun h => absurd h (by decide)⟩, ?_⟩
  refine List.forall_mem_cons.mpr ⟨fun _ => ⟨by decide, by decide +kernel, Or.inl (inT (i := 916) (by decide +kernel) rfl), fun h => absurd h (by decide), fun _ => ⟨inT (i := 843) (by decide +kernel) rfl, inS (i := 68) (n := 6) (by decide +kernel), Nat.lt_of_succ_le (Nat.le_of_ble_eq_true rfl)⟩, fun h => absurd h (by decide)⟩, ?_⟩
  refine List.forall_mem_cons.mpr ⟨fun _ => ⟨by decide, by decide +kernel, Or.inl (inT (i := 940) (by decide +kernel) rfl), fun h => absurd h (by decide), fun _ => ⟨inT (i := 820) (by decide +kernel) rfl, inS (i := 66) (n := 6) (by decide +kernel), Nat.lt_of_succ_le (Nat.le_of_ble_eq_true rfl)⟩, fun h => absurd h (by decide)⟩, ?_⟩
  exact fun _ h => absurd h List.not_mem_nil
theorem cok_6 : COK 6 := fun k how x na h h0 => lc2_6 _ (lc_6 k _ h) h0
theorem pok_6 : POK 6 := by
  intro k x na h
  have hm := lc_6 k _ h
  simp only [List.mem_cons, List.not_mem_nil, or_false, Prod.mk.injEq] at hm
  rcases hm with ⟨rfl, h0, rfl, rfl⟩ | ⟨rfl, h0, rfl, rfl⟩ | ⟨rfl, h0, rfl, rfl⟩ | ⟨rfl, h0, rfl, rfl⟩ | ⟨rfl, h0, rfl, rfl⟩ | ⟨rfl, h0, rfl, rfl⟩ | ⟨rfl, h0, rfl, rfl⟩ | ⟨rfl, h0, rfl, rfl⟩ | ⟨rfl, h0, rfl, rfl⟩ | ⟨rfl, h0, rfl, rfl⟩ | ⟨rfl, h0, rfl, rfl⟩ | ⟨rfl, h0, rfl, rfl⟩ | ⟨rfl, h0, rfl, rfl⟩ | ⟨rfl, h0, rfl, rfl⟩ | ⟨rfl, h0, rfl, rfl⟩ | ⟨rfl, h0, rfl, rfl⟩ | ⟨rfl, h0, rfl, rfl⟩ | ⟨rfl, h0, rfl, rfl⟩
  · exact ⟨inT (i := 170) (by decide +kernel) rfl, inT (i := 28) (by decide +kernel) rfl, inT (i := 29) (by decide +kernel) rfl⟩
  · exact absurd h0 (by decide)
  · exact ⟨inT (i := 577) (by decide +kernel) rfl, inT (i := 558) (by decide +kernel) rfl, inT (i := 557) (by decide +kernel) rfl, inT (i := 19) (by decide +kernel) rfl⟩
  · exact ⟨inT (i := 693) (by decide +kernel) rfl, inT (i := 499) (by decide +kernel) rfl, inT (i := 3) (by decide +kernel) rfl, inT (i := 500) (by decide +kernel) rfl⟩
  · exact absurd h0 (by decide)
  · exact absurd h0 (by decide)
  · exact absurd h0 (by decide)
  · exact absurd h0 (by decide)
  · exact absurd h0 (by decide)
  · exact absurd h0 (by decide)
  · exact absurd h0 (by decide)
  · exact ⟨inT (i := 891) (by decide +kernel) rfl, inT (i := 37) (by decide +kernel) rfl, inT (i := 3) (by decide +kernel) rfl, inT (i := 38) (by decide +kernel) rfl⟩
  · exact absurd h0 (by decide)
  · exact absurd h0 (by decide)
  · exact absurd h0 (by decide)
  · exact absurd h0 (by decide)
  · exact absurd h0 (by decide)
  · exact absurd h0 (by decide)
theorem ln_6 : ∀ k v, lkN6 k = some v → (k, v) ∈ ([] : List (Nat × Nat)) := ent (by decide +kernel) (fun k h => nn h)
theorem ln2_6 : ∀ e ∈ ([] : List (Nat × Nat)), (e.2 < 13 ∧ Cond.classLink (ownZ 6) e.1 (clC e.2) ∈ TsZ) ∨ (e.2 = 99 ∧ Cond.classLink (ownZ 6) e.1 "[I" ∈ TsZ) := by
  exact fun _ h => absurd h List.not_mem_nil
theorem lI_6 : ∀ k v, lkI6 k = some v → (k, v) ∈ ([] : List (Nat × Int32)) := ent (by decide +kernel) (fun k h => nn h)
theorem lI2_6 : ∀ e ∈ ([] : List (Nat × Int32)), Cond.constant (ownZ 6) e.1 e.2 ∈ TsZ := by
  exact fun _ h => absurd h List.not_mem_nil
theorem lL_6 : ∀ k v, lkL6 k = some v → (k, v) ∈ ([] : List (Nat × Int64)) := ent (by decide +kernel) (fun k h => nn h)
theorem lL2_6 : ∀ e ∈ ([] : List (Nat × Int64)), Cond.constantLong (ownZ 6) e.1 e.2 ∈ TsZ := by
  exact fun _ h => absurd h List.not_mem_nil
theorem lS_6 : ∀ k v, lkS6 k = some v → (k, v) ∈ ([] : List (Nat × Nat)) := ent (by decide +kernel) (fun k h => nn h)
theorem lS2_6 : ∀ e ∈ ([] : List (Nat × Nat)), e.2 < 18 ∧ ownZ 6 = "RecordHeap$Reader" ∧ e.1 = siZ.getD e.2 0 := by
  exact fun _ h => absurd h List.not_mem_nil
theorem l9_6 : ∀ k x, lkF6 k = some x → x.2.2 = 9 → Cond.fieldLink (ownZ 6) k "RecordHeap" "TERM_MOST" "[I" ∈ TsZ := by
  intro k x h h9
  have hm := lf_6 k x h
  rcases List.mem_cons.mp hm with hm | hm
  · cases hm; exact absurd h9 (by decide)
  rcases List.mem_cons.mp hm with hm | hm
  · cases hm; exact absurd h9 (by decide)
  rcases List.mem_cons.mp hm with hm | hm
  · cases hm; exact absurd h9 (by decide)
  rcases List.mem_cons.mp hm with hm | hm
  · cases hm; exact absurd h9 (by decide)
  rcases List.mem_cons.mp hm with hm | hm
  · cases hm; exact absurd h9 (by decide)
  rcases List.mem_cons.mp hm with hm | hm
  · cases hm; exact absurd h9 (by decide)
  rcases List.mem_cons.mp hm with hm | hm
  · cases hm; exact absurd h9 (by decide)
  rcases List.mem_cons.mp hm with hm | hm
  · cases hm; exact absurd h9 (by decide)
  exact absurd hm List.not_mem_nil
theorem lok_6 : LOK 6 := ⟨fun k x h h9 => lf2_6 _ (lf_6 k x h) h9, l9_6, fun k x h => ln2_6 _ (ln_6 k x h), fun k x h => lI2_6 _ (lI_6 k x h), fun k x h => lL2_6 _ (lL_6 k x h), fun k x h => lS2_6 _ (lS_6 k x h)⟩
theorem lf_7 : ∀ k v, lkF7 k = some v → (k, v) ∈ ([(14, (7, 0, 3)), (20, (7, 1, 3)), (29, (7, 2, 3)), (33, (7, 3, 1)), (37, (7, 4, 0)), (41, (7, 5, 0)), (44, (7, 6, 0)), (47, (7, 7, 0)), (50, (8, 1, 0)), (53, (8, 0, 3)), (60, (11, 2, 0)), (61, (11, 3, 0))] : List (Nat × Nat × Nat × Nat)) := ent (by decide +kernel) (fun k h => nn h)
theorem lf2_7 : ∀ e ∈ ([(14, (7, 0, 3)), (20, (7, 1, 3)), (29, (7, 2, 3)), (33, (7, 3, 1)), (37, (7, 4, 0)), (41, (7, 5, 0)), (44, (7, 6, 0)), (47, (7, 7, 0)), (50, (8, 1, 0)), (53, (8, 0, 3)), (60, (11, 2, 0)), (61, (11, 3, 0))] : List (Nat × Nat × Nat × Nat)), e.2.2.2 ≠ 9 → e.2.1 < 13 ∧ (fkZ e.2.1)[e.2.2.1]? = some e.2.2.2 ∧ (Cond.fieldLink (ownZ 7) e.1 (clC e.2.1) (clT e.2.1 e.2.2.1).2.1 (clT e.2.1 e.2.2.1).2.2.1 ∈ TsZ ∨ ∃ h, Cond.fieldLinkNest (ownZ 7) e.1 (clC e.2.1) (clT e.2.1 e.2.2.1).2.1 (clT e.2.1 e.2.2.1).2.2.1 h ∈ nestZ ∧ clC e.2.1 ≠ ownZ 7) := by
  refine List.forall_mem_cons.mpr ⟨fun _ => ⟨by decide, rfl, Or.inl (inT (i := 90) (by decide +kernel) rfl)⟩, ?_⟩
  refine List.forall_mem_cons.mpr ⟨fun _ => ⟨by decide, rfl, Or.inl (inT (i := 92) (by decide +kernel) rfl)⟩, ?_⟩
  refine List.forall_mem_cons.mpr ⟨fun _ => ⟨by decide, rfl, Or.inl (inT (i := 93) (by decide +kernel) rfl)⟩, ?_⟩
  refine List.forall_mem_cons.mpr ⟨fun _ => ⟨by decide, rfl, Or.inl (inT (i := 94) (by decide +kernel) rfl)⟩, ?_⟩
  refine List.forall_mem_cons.mpr ⟨fun _ => ⟨by decide, rfl, Or.inl (inT (i := 95) (by decide +kernel) rfl)⟩, ?_⟩
  refine List.forall_mem_cons.mpr ⟨fun _ => ⟨by decide, rfl, Or.inl (inT (i := 96) (by decide +kernel) rfl)⟩, ?_⟩
  refine List.forall_mem_cons.mpr ⟨fun _ => ⟨by decide, rfl, Or.inl (inT (i := 97) (by decide +kernel) rfl)⟩, ?_⟩
  refine List.forall_mem_cons.mpr ⟨fun _ => ⟨by decide, rfl, Or.inl (inT (i := 98) (by decide +kernel) rfl)⟩, ?_⟩
  refine List.forall_mem_cons.mpr ⟨fun _ => ⟨by decide, rfl, Or.inr ⟨"RecordHeap", inN (i := 45) (by decide +kernel) rfl, by decide +kernel⟩⟩, ?_⟩
  refine List.forall_mem_cons.mpr ⟨fun _ => ⟨by decide, rfl, Or.inr ⟨"RecordHeap", inN (i := 40) (by decide +kernel) rfl, by decide +kernel⟩⟩, ?_⟩
  refine List.forall_mem_cons.mpr ⟨fun _ => ⟨by decide, rfl, Or.inr ⟨"RecordHeap", inN (i := 74) (by decide +kernel) rfl, by decide +kernel⟩⟩, ?_⟩
  refine List.forall_mem_cons.mpr ⟨fun _ => ⟨by decide, rfl, Or.inr ⟨"RecordHeap", inN (i := 75) (by decide +kernel) rfl, by decide +kernel⟩⟩, ?_⟩
  exact fun _ h => absurd h List.not_mem_nil
theorem lc_7 : ∀ k v, lkC7 k = some v → (k, v) ∈ ([(3, (0, 0, 0)), (11, (3, 3, 2)), (26, (3, 1, 1)), (56, (1, 21, 1)), (64, (2, 22, 0)), (67, (2, 23, 0)), (73, (2, 24, 1)), (77, (2, 25, 0)), (80, (0, 6, 0)), (85, (0, 7, 1)), (89, (0, 2, 2)), (99, (2, 26, 2)), (103, (2, 27, 1)), (107, (2, 32, 0)), (112, (2, 33, 1)), (115, (2, 28, 1)), (123, (2, 30, 2)), (126, (2, 34, 1)), (131, (2, 35, 1)), (134, (2, 36, 1)), (145, (2, 31, 2)), (148, (2, 29, 1))] : List (Nat × Nat × Nat × Nat)) := ent (by decide +kernel) (fun k h => nn h)
theorem lc2_7 : ∀ e ∈ ([(3, (0, 0, 0)), (11, (3, 3, 2)), (26, (3, 1, 1)), (56, (1, 21, 1)), (64, (2, 22, 0)), (67, (2, 23, 0)), (73, (2, 24, 1)), (77, (2, 25, 0)), (80, (0, 6, 0)), (85, (0, 7, 1)), (89, (0, 2, 2)), (99, (2, 26, 2)), (103, (2, 27, 1)), (107, (2, 32, 0)), (112, (2, 33, 1)), (115, (2, 28, 1)), (123, (2, 30, 2)), (126, (2, 34, 1)), (131, (2, 35, 1)), (134, (2, 36, 1)), (145, (2, 31, 2)), (148, (2, 29, 1))] : List (Nat × Nat × Nat × Nat)), e.2.1 ≠ 0 → e.2.2.1 < 271 ∧ (parseMethodDescriptor (yZ e.2.2.1).desc).map (fun d => d.parameters.length) = some e.2.2.2 ∧ (Cond.methodLink (ownZ 7) e.1 (yZ e.2.2.1) ∈ TsZ ∨ ∃ h, Cond.methodLinkNest (ownZ 7) e.1 (yZ e.2.2.1) h ∈ nestZ) ∧ (e.2.1 = 1 → Cond.static (yZ e.2.2.1) ∈ TsZ) ∧ (e.2.1 = 2 → Cond.instanceMethod (yZ e.2.2.1) ∈ TsZ ∧ Cond.selects (yZ e.2.2.1).cls (yZ e.2.2.1) (yZ e.2.2.1) ∈ TsZ ∧ (methZ e.2.2.1).2.1 < 13) ∧ (e.2.1 = 3 → Cond.instanceMethod (yZ e.2.2.1) ∈ TsZ ∧ (yZ e.2.2.1).name = "<init>" ∧ rZ e.2.2.1 = none) := by
  refine List.forall_mem_cons.mpr ⟨fun h => absurd rfl h, ?_⟩
  refine List.forall_mem_cons.mpr ⟨fun _ => ⟨by decide, by decide +kernel, Or.inr ⟨"RecordHeap", inN (i := 62) (by decide +kernel) rfl⟩, fun h => absurd h (by decide), fun h => absurd h (by decide), fun _ => ⟨inT (i := 63) (by decide +kernel) rfl, rfl, rfl⟩⟩, ?_⟩
  refine List.forall_mem_cons.mpr ⟨fun _ => ⟨by decide, by decide +kernel, Or.inr ⟨"RecordHeap", inN (i := 89) (by decide +kernel) rfl⟩, fun h => absurd h (by decide), fun h => absurd h (by decide), fun _ => ⟨inT (i := 33) (by decide +kernel) rfl, rfl, rfl⟩⟩, ?_⟩
  refine List.forall_mem_cons.mpr ⟨fun _ => ⟨by decide, by decide +kernel, Or.inl (inT (i := 407) (by decide +kernel) rfl), fun _ => inT (i := 408) (by decide +kernel) rfl, fun h => absurd h (by decide), fun h => absurd h (by decide)⟩, ?_⟩
  refine List.forall_mem_cons.mpr ⟨fun _ => ⟨by decide, by decide +kernel, Or.inl (inT (i := 410) (by decide +kernel) rfl), fun h => absurd h (by decide), fun _ => ⟨inT (i := 412) (by decide +kernel) rfl, inS (i := 5) (n := 8) (by decide +kernel), Nat.lt_of_succ_le (Nat.le_of_ble_eq_true rfl)⟩, fun h => absurd h (by decide)⟩, ?_⟩
  refine List.forall_mem_cons.mpr ⟨fun _ => ⟨by decide, by decide +kernel, Or.inl (inT (i := 414) (by decide +kernel) rfl), fun h => absurd h (by decide), fun _ => ⟨inT (i := 416) (by decide +kernel) rfl, inS (i := 6) (n := 8) (by decide +kernel), Nat.lt_of_succ_le (Nat.le_of_ble_eq_true rfl)⟩, fun h => absurd h (by decide)⟩, ?_⟩
  refine List.forall_mem_cons.mpr ⟨fun _ => ⟨by decide, by decide +kernel, Or.inl (inT (i := 420) (by decide +kernel) rfl), fun h => absurd h (by decide), fun _ => ⟨inT (i := 422) (by decide +kernel) rfl, inS (i := 7) (n := 8) (by decide +kernel), Nat.lt_of_succ_le (Nat.le_of_ble_eq_true rfl)⟩, fun h => absurd h (by decide)⟩, ?_⟩
  refine List.forall_mem_cons.mpr ⟨fun _ => ⟨by decide, by decide +kernel, Or.inl (inT (i := 472) (by decide +kernel) rfl), fun h => absurd h (by decide), fun _ => ⟨inT (i := 474) (by decide +kernel) rfl, inS (i := 8) (n := 8) (by decide +kernel), Nat.lt_of_succ_le (Nat.le_of_ble_eq_true rfl)⟩, fun h => absurd h (by decide)⟩, ?_⟩
  refine List.forall_mem_cons.mpr ⟨fun h => absurd rfl h, ?_⟩
  refine List.forall_mem_cons.mpr ⟨fun h => absurd rfl h, ?_⟩
  refine List.forall_mem_cons.mpr ⟨fun h => absurd rfl h, ?_⟩
  refine List.forall_mem_cons.mpr ⟨fun _ => ⟨by decide, by decide +kernel, Or.inr ⟨"RecordHeap", inN (i := 476) (by decide +kernel) rfl⟩, fun h => absurd h (by decide), fun _ => ⟨inT (i := 478) (by decide +kernel) rfl, inS (i := 9) (n := 4) (by decide +kernel), Nat.lt_of_succ_le (Nat.le_of_ble_eq_true rfl)⟩, fun h => absurd h (by decide)⟩, ?_⟩
  refine List.forall_mem_cons.mpr ⟨fun _ => ⟨by decide, by decide +kernel, Or.inl (inT (i := 480) (by decide +kernel) rfl), fun h => absurd h (by decide), fun _ => ⟨inT (i := 482) (by decide +kernel) rfl, inS (i := 10) (n := 8) (by decide +kernel), Nat.lt_of_succ_le (Nat.le_of_ble_eq_true rfl)⟩, fun h => absurd h (by decide)⟩, ?_⟩
  refine List.forall_mem_cons.mpr ⟨fun _ => ⟨by decide, by decide +kernel, Or.inl (inT (i := 511) (by decide +kernel) rfl), fun h => absurd h (by decide), fun _ => ⟨inT (i := 513) (by decide +kernel) rfl, inS (i := 15) (n := 8) (by decide +kernel), Nat.lt_of_succ_le (Nat.le_of_ble_eq_true rfl)⟩, fun h => absurd h (by decide)⟩, ?_⟩
  refine List.forall_mem_cons.mpr ⟨fun _ => ⟨by decide, by decide +kernel, Or.inl (inT (i := 517) (by decide +kernel) rfl), fun h => absurd h (by decide), fun _ => ⟨inT (i := 519) (by decide +kernel) rfl, inS (i := 16) (n := 8) (by decide +kernel), Nat.lt_of_succ_le (Nat.le_of_ble_eq_true rfl)⟩, fun h => absurd h (by decide)⟩, ?_⟩
  refine List.forall_mem_cons.mpr ⟨fun _ => ⟨by decide, by decide +kernel, Or.inl (inT (i := 484) (by decide +kernel) rfl), fun h => absurd h (by decide), fun _ => ⟨inT (i := 486) (by decide +kernel) rfl, inS (i := 11) (n := 8) (by decide +kernel), Nat.lt_of_succ_le (Nat.le_of_ble_eq_true rfl)⟩, fun h => absurd h (by decide)⟩, ?_⟩
  refine List.forall_mem_cons.mpr ⟨fun _ => ⟨by decide, by decide +kernel, Or.inl (inT (i := 494) (by decide +kernel) rfl), fun h => absurd h (by decide), fun _ => ⟨inT (i := 496) (by decide +kernel) rfl, inS (i := 13) (n := 8) (by decide +kernel), Nat.lt_of_succ_le (Nat.le_of_ble_eq_true rfl)⟩, fun h => absurd h (by decide)⟩, ?_⟩
  refine List.forall_mem_cons.mpr ⟨fun _ => ⟨by decide, by decide +kernel, Or.inl (inT (i := 521) (by decide +kernel) rfl), fun h => absurd h (by decide), fun _ => ⟨inT (i := 523) (by decide +kernel) rfl, inS (i := 17) (n := 8) (by decide +kernel), Nat.lt_of_succ_le (Nat.le_of_ble_eq_true rfl)⟩, fun h => absurd h (by decide)⟩, ?_⟩
  refine List.forall_mem_cons.mpr ⟨fun _ => ⟨by decide, by decide +kernel, Or.inr ⟨"RecordHeap", inN (i := 530) (by decide +kernel) rfl⟩, fun h => absurd h (by decide), fun _ => ⟨inT (i := 532) (by decide +kernel) rfl, inS (i := 18) (n := 4) (by decide +kernel), Nat.lt_of_succ_le (Nat.le_of_ble_eq_true rfl)⟩, fun h => absurd h (by decide)⟩, ?_⟩
  refine List.forall_mem_cons.mpr ⟨fun _ => ⟨by decide, by decide +kernel, Or.inr ⟨"RecordHeap", inN (i := 534) (by decide +kernel) rfl⟩, fun h => absurd h (by decide), fun _ => ⟨inT (i := 536) (by decide +kernel) rfl, inS (i := 19) (n := 4) (by decide +kernel), Nat.lt_of_succ_le (Nat.le_of_ble_eq_true rfl)⟩, fun h => absurd h (by decide)⟩, ?_⟩
  refine List.forall_mem_cons.mpr ⟨fun _ => ⟨by decide, by decide +kernel, Or.inr ⟨"RecordHeap", inN (i := 503) (by decide +kernel) rfl⟩, fun h => absurd h (by decide), fun _ => ⟨inT (i := 505) (by decide +kernel) rfl, inS (i := 14) (n := 4) (by decide +kernel), Nat.lt_of_succ_le (Nat.le_of_ble_eq_true rfl)⟩, fun h => absurd h (by decide)⟩, ?_⟩
  refine List.forall_mem_cons.mpr ⟨fun _ => ⟨by decide, by decide +kernel, Or.inl (inT (i := 488) (by decide +kernel) rfl), fun h => absurd h (by decide), fun _ => ⟨inT (i := 490) (by decide +kernel) rfl, inS (i := 12) (n := 8) (by decide +kernel), Nat.lt_of_succ_le (Nat.le_of_ble_eq_true rfl)⟩, fun h => absurd h (by decide)⟩, ?_⟩
  exact fun _ h => absurd h List.not_mem_nil
theorem cok_7 : COK 7 := fun k how x na h h0 => lc2_7 _ (lc_7 k _ h) h0
theorem pok_7 : POK 7 := by
  intro k x na h
  have hm := lc_7 k _ h
  simp only [List.mem_cons, List.not_mem_nil, or_false, Prod.mk.injEq] at hm
  rcases hm with ⟨rfl, h0, rfl, rfl⟩ | ⟨rfl, h0, rfl, rfl⟩ | ⟨rfl, h0, rfl, rfl⟩ | ⟨rfl, h0, rfl, rfl⟩ | ⟨rfl, h0, rfl, rfl⟩ | ⟨rfl, h0, rfl, rfl⟩ | ⟨rfl, h0, rfl, rfl⟩ | ⟨rfl, h0, rfl, rfl⟩ | ⟨rfl, h0, rfl, rfl⟩ | ⟨rfl, h0, rfl, rfl⟩ | ⟨rfl, h0, rfl, rfl⟩ | ⟨rfl, h0, rfl, rfl⟩ | ⟨rfl, h0, rfl, rfl⟩ | ⟨rfl, h0, rfl, rfl⟩ | ⟨rfl, h0, rfl, rfl⟩ | ⟨rfl, h0, rfl, rfl⟩ | ⟨rfl, h0, rfl, rfl⟩ | ⟨rfl, h0, rfl, rfl⟩ | ⟨rfl, h0, rfl, rfl⟩ | ⟨rfl, h0, rfl, rfl⟩ | ⟨rfl, h0, rfl, rfl⟩ | ⟨rfl, h0, rfl, rfl⟩
  · exact ⟨inT (i := 59) (by decide +kernel) rfl, inT (i := 28) (by decide +kernel) rfl, inT (i := 29) (by decide +kernel) rfl⟩
  · exact absurd h0 (by decide)
  · exact absurd h0 (by decide)
  · exact absurd h0 (by decide)
  · exact absurd h0 (by decide)
  · exact absurd h0 (by decide)
  · exact absurd h0 (by decide)
  · exact absurd h0 (by decide)
  · exact inT (i := 424) (by decide +kernel) rfl
  · exact inT (i := 434) (by decide +kernel) rfl
  · exact ⟨inT (i := 498) (by decide +kernel) rfl, inT (i := 499) (by decide +kernel) rfl, inT (i := 3) (by decide +kernel) rfl, inT (i := 500) (by decide +kernel) rfl⟩
  · exact absurd h0 (by decide)
  · exact absurd h0 (by decide)
  · exact absurd h0 (by decide)
  · exact absurd h0 (by decide)
  · exact absurd h0 (by decide)
  · exact absurd h0 (by decide)
  · exact absurd h0 (by decide)
  · exact absurd h0 (by decide)
  · exact absurd h0 (by decide)
  · exact absurd h0 (by decide)
  · exact absurd h0 (by decide)
theorem ln_7 : ∀ k v, lkN7 k = some v → (k, v) ∈ ([(9, 11), (24, 8)] : List (Nat × Nat)) := ent (by decide +kernel) (fun k h => nn h)
theorem ln2_7 : ∀ e ∈ ([(9, 11), (24, 8)] : List (Nat × Nat)), (e.2 < 13 ∧ Cond.classLink (ownZ 7) e.1 (clC e.2) ∈ TsZ) ∨ (e.2 = 99 ∧ Cond.classLink (ownZ 7) e.1 "[I" ∈ TsZ) := by
  refine List.forall_mem_cons.mpr ⟨Or.inl ⟨by decide, inT (i := 60) (by decide +kernel) rfl⟩, ?_⟩
  refine List.forall_mem_cons.mpr ⟨Or.inl ⟨by decide, inT (i := 88) (by decide +kernel) rfl⟩, ?_⟩
  exact fun _ h => absurd h List.not_mem_nil
theorem lI_7 : ∀ k v, lkI7 k = some v → (k, v) ∈ ([] : List (Nat × Int32)) := ent (by decide +kernel) (fun k h => nn h)
theorem lI2_7 : ∀ e ∈ ([] : List (Nat × Int32)), Cond.constant (ownZ 7) e.1 e.2 ∈ TsZ := by
  exact fun _ h => absurd h List.not_mem_nil
theorem lL_7 : ∀ k v, lkL7 k = some v → (k, v) ∈ ([] : List (Nat × Int64)) := ent (by decide +kernel) (fun k h => nn h)
theorem lL2_7 : ∀ e ∈ ([] : List (Nat × Int64)), Cond.constantLong (ownZ 7) e.1 e.2 ∈ TsZ := by
  exact fun _ h => absurd h List.not_mem_nil
theorem lS_7 : ∀ k v, lkS7 k = some v → (k, v) ∈ ([(71, 17), (95, 0), (97, 1), (110, 11), (118, 8), (120, 9), (121, 10), (129, 16), (137, 12), (139, 13), (141, 14), (143, 15), (151, 6), (153, 7), (155, 2), (157, 3), (159, 4), (161, 5)] : List (Nat × Nat)) := ent (by decide +kernel) (fun k h => nn h)
theorem lS2_7 : ∀ e ∈ ([(71, 17), (95, 0), (97, 1), (110, 11), (118, 8), (120, 9), (121, 10), (129, 16), (137, 12), (139, 13), (141, 14), (143, 15), (151, 6), (153, 7), (155, 2), (157, 3), (159, 4), (161, 5)] : List (Nat × Nat)), e.2 < 18 ∧ ownZ 7 = "RecordHeap$Reader" ∧ e.1 = siZ.getD e.2 0 := by
  refine List.forall_mem_cons.mpr ⟨⟨by decide, rfl, rfl⟩, ?_⟩
  refine List.forall_mem_cons.mpr ⟨⟨by decide, rfl, rfl⟩, ?_⟩
  refine List.forall_mem_cons.mpr ⟨⟨by decide, rfl, rfl⟩, ?_⟩
  refine List.forall_mem_cons.mpr ⟨⟨by decide, rfl, rfl⟩, ?_⟩
  refine List.forall_mem_cons.mpr ⟨⟨by decide, rfl, rfl⟩, ?_⟩
  refine List.forall_mem_cons.mpr ⟨⟨by decide, rfl, rfl⟩, ?_⟩
  refine List.forall_mem_cons.mpr ⟨⟨by decide, rfl, rfl⟩, ?_⟩
  refine List.forall_mem_cons.mpr ⟨⟨by decide, rfl, rfl⟩, ?_⟩
  refine List.forall_mem_cons.mpr ⟨⟨by decide, rfl, rfl⟩, ?_⟩
  refine List.forall_mem_cons.mpr ⟨⟨by decide, rfl, rfl⟩, ?_⟩
  refine List.forall_mem_cons.mpr ⟨⟨by decide, rfl, rfl⟩, ?_⟩
  refine List.forall_mem_cons.mpr ⟨⟨by decide, rfl, rfl⟩, ?_⟩
  refine List.forall_mem_cons.mpr ⟨⟨by decide, rfl, rfl⟩, ?_⟩
  refine List.forall_mem_cons.mpr ⟨⟨by decide, rfl, rfl⟩, ?_⟩
  refine List.forall_mem_cons.mpr ⟨⟨by decide, rfl, rfl⟩, ?_⟩
  refine List.forall_mem_cons.mpr ⟨⟨by decide, rfl, rfl⟩, ?_⟩
  refine List.forall_mem_cons.mpr ⟨⟨by decide, rfl, rfl⟩, ?_⟩
  refine List.forall_mem_cons.mpr ⟨⟨by decide, rfl, rfl⟩, ?_⟩
  exact fun _ h => absurd h List.not_mem_nil
theorem l9_7 : ∀ k x, lkF7 k = some x → x.2.2 = 9 → Cond.fieldLink (ownZ 7) k "RecordHeap" "TERM_MOST" "[I" ∈ TsZ := by
  intro k x h h9
  have hm := lf_7 k x h
  rcases List.mem_cons.mp hm with hm | hm
  · cases hm; exact absurd h9 (by decide)
  rcases List.mem_cons.mp hm with hm | hm
  · cases hm; exact absurd h9 (by decide)
  rcases List.mem_cons.mp hm with hm | hm
  · cases hm; exact absurd h9 (by decide)
  rcases List.mem_cons.mp hm with hm | hm
  · cases hm; exact absurd h9 (by decide)
  rcases List.mem_cons.mp hm with hm | hm
  · cases hm; exact absurd h9 (by decide)
  rcases List.mem_cons.mp hm with hm | hm
  · cases hm; exact absurd h9 (by decide)
  rcases List.mem_cons.mp hm with hm | hm
  · cases hm; exact absurd h9 (by decide)
  rcases List.mem_cons.mp hm with hm | hm
  · cases hm; exact absurd h9 (by decide)
  rcases List.mem_cons.mp hm with hm | hm
  · cases hm; exact absurd h9 (by decide)
  rcases List.mem_cons.mp hm with hm | hm
  · cases hm; exact absurd h9 (by decide)
  rcases List.mem_cons.mp hm with hm | hm
  · cases hm; exact absurd h9 (by decide)
  rcases List.mem_cons.mp hm with hm | hm
  · cases hm; exact absurd h9 (by decide)
  exact absurd hm List.not_mem_nil
theorem lok_7 : LOK 7 := ⟨fun k x h h9 => lf2_7 _ (lf_7 k x h) h9, l9_7, fun k x h => ln2_7 _ (ln_7 k x h), fun k x h => lI2_7 _ (lI_7 k x h), fun k x h => lL2_7 _ (lL_7 k x h), fun k x h => lS2_7 _ (lS_7 k x h)⟩
theorem lf_8 : ∀ k v, lkF8 k = some v → (k, v) ∈ ([(15, (8, 0, 3)), (21, (8, 1, 0))] : List (Nat × Nat × Nat × Nat)) := ent (by decide +kernel) (fun k h => nn h)
theorem lf2_8 : ∀ e ∈ ([(15, (8, 0, 3)), (21, (8, 1, 0))] : List (Nat × Nat × Nat × Nat)), e.2.2.2 ≠ 9 → e.2.1 < 13 ∧ (fkZ e.2.1)[e.2.2.1]? = some e.2.2.2 ∧ (Cond.fieldLink (ownZ 8) e.1 (clC e.2.1) (clT e.2.1 e.2.2.1).2.1 (clT e.2.1 e.2.2.1).2.2.1 ∈ TsZ ∨ ∃ h, Cond.fieldLinkNest (ownZ 8) e.1 (clC e.2.1) (clT e.2.1 e.2.2.1).2.1 (clT e.2.1 e.2.2.1).2.2.1 h ∈ nestZ ∧ clC e.2.1 ≠ ownZ 8) := by
  refine List.forall_mem_cons.mpr ⟨fun _ => ⟨by decide, rfl, Or.inl (inT (i := 39) (by decide +kernel) rfl)⟩, ?_⟩
  refine List.forall_mem_cons.mpr ⟨fun _ => ⟨by decide, rfl, Or.inl (inT (i := 43) (by decide +kernel) rfl)⟩, ?_⟩
  exact fun _ h => absurd h List.not_mem_nil
theorem lc_8 : ∀ k v, lkC8 k = some v → (k, v) ∈ ([(3, (0, 0, 0)), (9, (0, 1, 2)), (25, (2, 17, 1)), (29, (2, 57, 1))] : List (Nat × Nat × Nat × Nat)) := ent (by decide +kernel) (fun k h => nn h)
theorem lc2_8 : ∀ e ∈ ([(3, (0, 0, 0)), (9, (0, 1, 2)), (25, (2, 17, 1)), (29, (2, 57, 1))] : List (Nat × Nat × Nat × Nat)), e.2.1 ≠ 0 → e.2.2.1 < 271 ∧ (parseMethodDescriptor (yZ e.2.2.1).desc).map (fun d => d.parameters.length) = some e.2.2.2 ∧ (Cond.methodLink (ownZ 8) e.1 (yZ e.2.2.1) ∈ TsZ ∨ ∃ h, Cond.methodLinkNest (ownZ 8) e.1 (yZ e.2.2.1) h ∈ nestZ) ∧ (e.2.1 = 1 → Cond.static (yZ e.2.2.1) ∈ TsZ) ∧ (e.2.1 = 2 → Cond.instanceMethod (yZ e.2.2.1) ∈ TsZ ∧ Cond.selects (yZ e.2.2.1).cls (yZ e.2.2.1) (yZ e.2.2.1) ∈ TsZ ∧ (methZ e.2.2.1).2.1 < 13) ∧ (e.2.1 = 3 → Cond.instanceMethod (yZ e.2.2.1) ∈ TsZ ∧ (yZ e.2.2.1).name = "<init>" ∧ rZ e.2.2.1 = none) := by
  refine List.forall_mem_cons.mpr ⟨fun h => absurd rfl h, ?_⟩
  refine List.forall_mem_cons.mpr ⟨fun h => absurd rfl h, ?_⟩
  refine List.forall_mem_cons.mpr ⟨fun _ => ⟨by decide, by decide +kernel, Or.inl (inT (i := 391) (by decide +kernel) rfl), fun h => absurd h (by decide), fun _ => ⟨inT (i := 393) (by decide +kernel) rfl, inS (i := 3) (n := 2) (by decide +kernel), Nat.lt_of_succ_le (Nat.le_of_ble_eq_true rfl)⟩, fun h => absurd h (by decide)⟩, ?_⟩
  refine List.forall_mem_cons.mpr ⟨fun _ => ⟨by decide, by decide +kernel, Or.inl (inT (i := 637) (by decide +kernel) rfl), fun h => absurd h (by decide), fun _ => ⟨inT (i := 639) (by decide +kernel) rfl, inS (i := 35) (n := 2) (by decide +kernel), Nat.lt_of_succ_le (Nat.le_of_ble_eq_true rfl)⟩, fun h => absurd h (by decide)⟩, ?_⟩
  exact fun _ h => absurd h List.not_mem_nil
theorem cok_8 : COK 8 := fun k how x na h h0 => lc2_8 _ (lc_8 k _ h) h0
theorem pok_8 : POK 8 := by
  intro k x na h
  have hm := lc_8 k _ h
  simp only [List.mem_cons, List.not_mem_nil, or_false, Prod.mk.injEq] at hm
  rcases hm with ⟨rfl, h0, rfl, rfl⟩ | ⟨rfl, h0, rfl, rfl⟩ | ⟨rfl, h0, rfl, rfl⟩ | ⟨rfl, h0, rfl, rfl⟩
  · exact ⟨inT (i := 35) (by decide +kernel) rfl, inT (i := 28) (by decide +kernel) rfl, inT (i := 29) (by decide +kernel) rfl⟩
  · exact ⟨inT (i := 36) (by decide +kernel) rfl, inT (i := 37) (by decide +kernel) rfl, inT (i := 3) (by decide +kernel) rfl, inT (i := 38) (by decide +kernel) rfl⟩
  · exact absurd h0 (by decide)
  · exact absurd h0 (by decide)
theorem ln_8 : ∀ k v, lkN8 k = some v → (k, v) ∈ ([] : List (Nat × Nat)) := ent (by decide +kernel) (fun k h => nn h)
theorem ln2_8 : ∀ e ∈ ([] : List (Nat × Nat)), (e.2 < 13 ∧ Cond.classLink (ownZ 8) e.1 (clC e.2) ∈ TsZ) ∨ (e.2 = 99 ∧ Cond.classLink (ownZ 8) e.1 "[I" ∈ TsZ) := by
  exact fun _ h => absurd h List.not_mem_nil
theorem lI_8 : ∀ k v, lkI8 k = some v → (k, v) ∈ ([] : List (Nat × Int32)) := ent (by decide +kernel) (fun k h => nn h)
theorem lI2_8 : ∀ e ∈ ([] : List (Nat × Int32)), Cond.constant (ownZ 8) e.1 e.2 ∈ TsZ := by
  exact fun _ h => absurd h List.not_mem_nil
theorem lL_8 : ∀ k v, lkL8 k = some v → (k, v) ∈ ([] : List (Nat × Int64)) := ent (by decide +kernel) (fun k h => nn h)
theorem lL2_8 : ∀ e ∈ ([] : List (Nat × Int64)), Cond.constantLong (ownZ 8) e.1 e.2 ∈ TsZ := by
  exact fun _ h => absurd h List.not_mem_nil
theorem lS_8 : ∀ k v, lkS8 k = some v → (k, v) ∈ ([] : List (Nat × Nat)) := ent (by decide +kernel) (fun k h => nn h)
theorem lS2_8 : ∀ e ∈ ([] : List (Nat × Nat)), e.2 < 18 ∧ ownZ 8 = "RecordHeap$Reader" ∧ e.1 = siZ.getD e.2 0 := by
  exact fun _ h => absurd h List.not_mem_nil
theorem l9_8 : ∀ k x, lkF8 k = some x → x.2.2 = 9 → Cond.fieldLink (ownZ 8) k "RecordHeap" "TERM_MOST" "[I" ∈ TsZ := by
  intro k x h h9
  have hm := lf_8 k x h
  rcases List.mem_cons.mp hm with hm | hm
  · cases hm; exact absurd h9 (by decide)
  rcases List.mem_cons.mp hm with hm | hm
  · cases hm; exact absurd h9 (by decide)
  exact absurd hm List.not_mem_nil
theorem lok_8 : LOK 8 := ⟨fun k x h h9 => lf2_8 _ (lf_8 k x h) h9, l9_8, fun k x h => ln2_8 _ (ln_8 k x h), fun k x h => lI2_8 _ (lI_8 k x h), fun k x h => lL2_8 _ (lL_8 k x h), fun k x h => lS2_8 _ (lS_8 k x h)⟩
theorem lf_9 : ∀ k v, lkF9 k = some v → (k, v) ∈ ([(12, (9, 3, 3)), (21, (9, 4, 3)), (25, (9, 5, 0)), (29, (9, 6, 0)), (32, (9, 0, 3)), (36, (9, 1, 3)), (40, (9, 2, 3)), (44, (2, 2, 3)), (53, (4, 2, 0)), (65, (11, 1, 3)), (102, (2, 3, 3)), (116, (5, 0, 3)), (120, (2, 0, 3)), (124, (10, 0, 3)), (136, (6, 4, 3))] : List (Nat × Nat × Nat × Nat)) := ent (by decide +kernel) (fun k h => nn h)
theorem lf2_9 : ∀ e ∈ ([(12, (9, 3, 3)), (21, (9, 4, 3)), (25, (9, 5, 0)), (29, (9, 6, 0)), (32, (9, 0, 3)), (36, (9, 1, 3)), (40, (9, 2, 3)), (44, (2, 2, 3)), (53, (4, 2, 0)), (65, (11, 1, 3)), (102, (2, 3, 3)), (116, (5, 0, 3)), (120, (2, 0, 3)), (124, (10, 0, 3)), (136, (6, 4, 3))] : List (Nat × Nat × Nat × Nat)), e.2.2.2 ≠ 9 → e.2.1 < 13 ∧ (fkZ e.2.1)[e.2.2.1]? = some e.2.2.2 ∧ (Cond.fieldLink (ownZ 9) e.1 (clC e.2.1) (clT e.2.1 e.2.2.1).2.1 (clT e.2.1 e.2.2.1).2.2.1 ∈ TsZ ∨ ∃ h, Cond.fieldLinkNest (ownZ 9) e.1 (clC e.2.1) (clT e.2.1 e.2.2.1).2.1 (clT e.2.1 e.2.2.1).2.2.1 h ∈ nestZ ∧ clC e.2.1 ≠ ownZ 9) := by
  refine List.forall_mem_cons.mpr ⟨fun _ => ⟨by decide, rfl, Or.inl (inT (i := 269) (by decide +kernel) rfl)⟩, ?_⟩
  refine List.forall_mem_cons.mpr ⟨fun _ => ⟨by decide, rfl, Or.inl (inT (i := 271) (by decide +kernel) rfl)⟩, ?_⟩
  refine List.forall_mem_cons.mpr ⟨fun _ => ⟨by decide, rfl, Or.inl (inT (i := 272) (by decide +kernel) rfl)⟩, ?_⟩
  refine List.forall_mem_cons.mpr ⟨fun _ => ⟨by decide, rfl, Or.inl (inT (i := 274) (by decide +kernel) rfl)⟩, ?_⟩
  refine List.forall_mem_cons.mpr ⟨fun _ => ⟨by decide, rfl, Or.inl (inT (i := 266) (by decide +kernel) rfl)⟩, ?_⟩
  refine List.forall_mem_cons.mpr ⟨fun _ => ⟨by decide, rfl, Or.inl (inT (i := 267) (by decide +kernel) rfl)⟩, ?_⟩
  refine List.forall_mem_cons.mpr ⟨fun _ => ⟨by decide, rfl, Or.inl (inT (i := 268) (by decide +kernel) rfl)⟩, ?_⟩
  refine List.forall_mem_cons.mpr ⟨fun _ => ⟨by decide, rfl, Or.inr ⟨"RecordHeap", inN (i := 212) (by decide +kernel) rfl, by decide +kernel⟩⟩, ?_⟩
  refine List.forall_mem_cons.mpr ⟨fun _ => ⟨by decide, rfl, Or.inr ⟨"RecordHeap", inN (i := 247) (by decide +kernel) rfl, by decide +kernel⟩⟩, ?_⟩
  refine List.forall_mem_cons.mpr ⟨fun _ => ⟨by decide, rfl, Or.inr ⟨"RecordHeap", inN (i := 70) (by decide +kernel) rfl, by decide +kernel⟩⟩, ?_⟩
  refine List.forall_mem_cons.mpr ⟨fun _ => ⟨by decide, rfl, Or.inr ⟨"RecordHeap", inN (i := 216) (by decide +kernel) rfl, by decide +kernel⟩⟩, ?_⟩
  refine List.forall_mem_cons.mpr ⟨fun _ => ⟨by decide, rfl, Or.inr ⟨"RecordHeap", inN (i := 124) (by decide +kernel) rfl, by decide +kernel⟩⟩, ?_⟩
  refine List.forall_mem_cons.mpr ⟨fun _ => ⟨by decide, rfl, Or.inr ⟨"RecordHeap", inN (i := 209) (by decide +kernel) rfl, by decide +kernel⟩⟩, ?_⟩
  refine List.forall_mem_cons.mpr ⟨fun _ => ⟨by decide, rfl, Or.inr ⟨"RecordHeap", inN (i := 143) (by decide +kernel) rfl, by decide +kernel⟩⟩, ?_⟩
  refine List.forall_mem_cons.mpr ⟨fun _ => ⟨by decide, rfl, Or.inr ⟨"RecordHeap", inN (i := 188) (by decide +kernel) rfl, by decide +kernel⟩⟩, ?_⟩
  exact fun _ h => absurd h List.not_mem_nil
theorem lc_9 : ∀ k v, lkC9 k = some v → (k, v) ∈ ([(3, (0, 0, 0)), (11, (3, 9, 0)), (20, (3, 7, 0)), (49, (2, 42, 1)), (56, (2, 44, 0)), (59, (2, 48, 3)), (73, (2, 50, 3)), (77, (2, 54, 2)), (83, (2, 55, 1)), (87, (2, 72, 2)), (91, (2, 80, 1)), (95, (2, 81, 1)), (98, (2, 82, 0)), (105, (2, 83, 2)), (109, (2, 51, 1)), (113, (1, 53, 1)), (129, (2, 45, 0)), (132, (2, 47, 1))] : List (Nat × Nat × Nat × Nat)) := ent (by decide +kernel) (fun k h => nn h)
theorem lc2_9 : ∀ e ∈ ([(3, (0, 0, 0)), (11, (3, 9, 0)), (20, (3, 7, 0)), (49, (2, 42, 1)), (56, (2, 44, 0)), (59, (2, 48, 3)), (73, (2, 50, 3)), (77, (2, 54, 2)), (83, (2, 55, 1)), (87, (2, 72, 2)), (91, (2, 80, 1)), (95, (2, 81, 1)), (98, (2, 82, 0)), (105, (2, 83, 2)), (109, (2, 51, 1)), (113, (1, 53, 1)), (129, (2, 45, 0)), (132, (2, 47, 1))] : List (Nat × Nat × Nat × Nat)), e.2.1 ≠ 0 → e.2.2.1 < 271 ∧ (parseMethodDescriptor (yZ e.2.2.1).desc).map (fun d => d.parameters.length) = some e.2.2.2 ∧ (Cond.methodLink (ownZ 9) e.1 (yZ e.2.2.1) ∈ TsZ ∨ ∃ h, Cond.methodLinkNest (ownZ 9) e.1 (yZ e.2.2.1) h ∈ nestZ) ∧ (e.2.1 = 1 → Cond.static (yZ e.2.2.1) ∈ TsZ) ∧ (e.2.1 = 2 → Cond.instanceMethod (yZ e.2.2.1) ∈ TsZ ∧ Cond.selects (yZ e.2.2.1).cls (yZ e.2.2.1) (yZ e.2.2.1) ∈ TsZ ∧ (methZ e.2.2.1).2.1 < 13) ∧ (e.2.1 = 3 → Cond.instanceMethod (yZ e.2.2.1) ∈ TsZ ∧ (yZ e.2.2.1).name = "<init>" ∧ rZ e.2.2.1 = none) := by
  refine List.forall_mem_cons.mpr ⟨fun h => absurd rfl h, ?_⟩
  refine List.forall_mem_cons.mpr ⟨fun _ => ⟨by decide, by decide +kernel, Or.inr ⟨"RecordHeap", inN (i := 263) (by decide +kernel) rfl⟩, fun h => absurd h (by decide), fun h => absurd h (by decide), fun _ => ⟨inT (i := 239) (by decide +kernel) rfl, rfl, rfl⟩⟩, ?_⟩
  refine List.forall_mem_cons.mpr ⟨fun _ => ⟨by decide, by decide +kernel, Or.inr ⟨"RecordHeap", inN (i := 265) (by decide +kernel) rfl⟩, fun h => absurd h (by decide), fun h => absurd h (by decide), fun _ => ⟨inT (i := 168) (by decide +kernel) rfl, rfl, rfl⟩⟩, ?_⟩
  refine List.forall_mem_cons.mpr ⟨fun _ => ⟨by decide, by decide +kernel, Or.inr ⟨"RecordHeap", inN (i := 573) (by decide +kernel) rfl⟩, fun h => absurd h (by decide), fun _ => ⟨inT (i := 575) (by decide +kernel) rfl, inS (i := 23) (n := 6) (by decide +kernel), Nat.lt_of_succ_le (Nat.le_of_ble_eq_true rfl)⟩, fun h => absurd h (by decide)⟩, ?_⟩
  refine List.forall_mem_cons.mpr ⟨fun _ => ⟨by decide, by decide +kernel, Or.inl (inT (i := 582) (by decide +kernel) rfl), fun h => absurd h (by decide), fun _ => ⟨inT (i := 584) (by decide +kernel) rfl, inS (i := 25) (n := 7) (by decide +kernel), Nat.lt_of_succ_le (Nat.le_of_ble_eq_true rfl)⟩, fun h => absurd h (by decide)⟩, ?_⟩
  refine List.forall_mem_cons.mpr ⟨fun _ => ⟨by decide, by decide +kernel, Or.inr ⟨"RecordHeap", inN (i := 598) (by decide +kernel) rfl⟩, fun h => absurd h (by decide), fun _ => ⟨inT (i := 600) (by decide +kernel) rfl, inS (i := 29) (n := 2) (by decide +kernel), Nat.lt_of_succ_le (Nat.le_of_ble_eq_true rfl)⟩, fun h => absurd h (by decide)⟩, ?_⟩
  refine List.forall_mem_cons.mpr ⟨fun _ => ⟨by decide, by decide +kernel, Or.inl (inT (i := 610) (by decide +kernel) rfl), fun h => absurd h (by decide), fun _ => ⟨inT (i := 612) (by decide +kernel) rfl, inS (i := 30) (n := 7) (by decide +kernel), Nat.lt_of_succ_le (Nat.le_of_ble_eq_true rfl)⟩, fun h => absurd h (by decide)⟩, ?_⟩
  refine List.forall_mem_cons.mpr ⟨fun _ => ⟨by decide, by decide +kernel, Or.inr ⟨"RecordHeap", inN (i := 624) (by decide +kernel) rfl⟩, fun h => absurd h (by decide), fun _ => ⟨inT (i := 626) (by decide +kernel) rfl, inS (i := 32) (n := 2) (by decide +kernel), Nat.lt_of_succ_le (Nat.le_of_ble_eq_true rfl)⟩, fun h => absurd h (by decide)⟩, ?_⟩
  refine List.forall_mem_cons.mpr ⟨fun _ => ⟨by decide, by decide +kernel, Or.inr ⟨"RecordHeap", inN (i := 628) (by decide +kernel) rfl⟩, fun h => absurd h (by decide), fun _ => ⟨inT (i := 630) (by decide +kernel) rfl, inS (i := 33) (n := 7) (by decide +kernel), Nat.lt_of_succ_le (Nat.le_of_ble_eq_true rfl)⟩, fun h => absurd h (by decide)⟩, ?_⟩
  refine List.forall_mem_cons.mpr ⟨fun _ => ⟨by decide, by decide +kernel, Or.inr ⟨"RecordHeap", inN (i := 713) (by decide +kernel) rfl⟩, fun h => absurd h (by decide), fun _ => ⟨inT (i := 715) (by decide +kernel) rfl, inS (i := 50) (n := 7) (by decide +kernel), Nat.lt_of_succ_le (Nat.le_of_ble_eq_true rfl)⟩, fun h => absurd h (by decide)⟩, ?_⟩
  refine List.forall_mem_cons.mpr ⟨fun _ => ⟨by decide, by decide +kernel, Or.inr ⟨"RecordHeap", inN (i := 747) (by decide +kernel) rfl⟩, fun h => absurd h (by decide), fun _ => ⟨inT (i := 749) (by decide +kernel) rfl, inS (i := 58) (n := 7) (by decide +kernel), Nat.lt_of_succ_le (Nat.le_of_ble_eq_true rfl)⟩, fun h => absurd h (by decide)⟩, ?_⟩
  refine List.forall_mem_cons.mpr ⟨fun _ => ⟨by decide, by decide +kernel, Or.inr ⟨"RecordHeap", inN (i := 751) (by decide +kernel) rfl⟩, fun h => absurd h (by decide), fun _ => ⟨inT (i := 753) (by decide +kernel) rfl, inS (i := 59) (n := 7) (by decide +kernel), Nat.lt_of_succ_le (Nat.le_of_ble_eq_true rfl)⟩, fun h => absurd h (by decide)⟩, ?_⟩
  refine List.forall_mem_cons.mpr ⟨fun _ => ⟨by decide, by decide +kernel, Or.inr ⟨"RecordHeap", inN (i := 755) (by decide +kernel) rfl⟩, fun h => absurd h (by decide), fun _ => ⟨inT (i := 757) (by decide +kernel) rfl, inS (i := 60) (n := 7) (by decide +kernel), Nat.lt_of_succ_le (Nat.le_of_ble_eq_true rfl)⟩, fun h => absurd h (by decide)⟩, ?_⟩
  refine List.forall_mem_cons.mpr ⟨fun _ => ⟨by decide, by decide +kernel, Or.inr ⟨"RecordHeap", inN (i := 759) (by decide +kernel) rfl⟩, fun h => absurd h (by decide), fun _ => ⟨inT (i := 761) (by decide +kernel) rfl, inS (i := 61) (n := 3) (by decide +kernel), Nat.lt_of_succ_le (Nat.le_of_ble_eq_true rfl)⟩, fun h => absurd h (by decide)⟩, ?_⟩
  refine List.forall_mem_cons.mpr ⟨fun _ => ⟨by decide, by decide +kernel, Or.inr ⟨"RecordHeap", inN (i := 614) (by decide +kernel) rfl⟩, fun h => absurd h (by decide), fun _ => ⟨inT (i := 616) (by decide +kernel) rfl, inS (i := 31) (n := 6) (by decide +kernel), Nat.lt_of_succ_le (Nat.le_of_ble_eq_true rfl)⟩, fun h => absurd h (by decide)⟩, ?_⟩
  refine List.forall_mem_cons.mpr ⟨fun _ => ⟨by decide, by decide +kernel, Or.inr ⟨"RecordHeap", inN (i := 621) (by decide +kernel) rfl⟩, fun _ => inT (i := 622) (by decide +kernel) rfl, fun h => absurd h (by decide), fun h => absurd h (by decide)⟩, ?_⟩
  refine List.forall_mem_cons.mpr ⟨fun _ => ⟨by decide, by decide +kernel, Or.inr ⟨"RecordHeap", inN (i := 586) (by decide +kernel) rfl⟩, fun h => absurd h (by decide), fun _ => ⟨inT (i := 588) (by decide +kernel) rfl, inS (i := 26) (n := 6) (by decide +kernel), Nat.lt_of_succ_le (Nat.le_of_ble_eq_true rfl)⟩, fun h => absurd h (by decide)⟩, ?_⟩
  refine List.forall_mem_cons.mpr ⟨fun _ => ⟨by decide, by decide +kernel, Or.inr ⟨"RecordHeap", inN (i := 594) (by decide +kernel) rfl⟩, fun h => absurd h (by decide), fun _ => ⟨inT (i := 596) (by decide +kernel) rfl, inS (i := 28) (n := 6) (by decide +kernel), Nat.lt_of_succ_le (Nat.le_of_ble_eq_true rfl)⟩, fun h => absurd h (by decide)⟩, ?_⟩
  exact fun _ h => absurd h List.not_mem_nil
theorem cok_9 : COK 9 := fun k how x na h h0 => lc2_9 _ (lc_9 k _ h) h0
theorem pok_9 : POK 9 := by
  intro k x na h
  have hm := lc_9 k _ h
  simp only [List.mem_cons, List.not_mem_nil, or_false, Prod.mk.injEq] at hm
  rcases hm with ⟨rfl, h0, rfl, rfl⟩ | ⟨rfl, h0, rfl, rfl⟩ | ⟨rfl, h0, rfl, rfl⟩ | ⟨rfl, h0, rfl, rfl⟩ | ⟨rfl, h0, rfl, rfl⟩ | ⟨rfl, h0, rfl, rfl⟩ | ⟨rfl, h0, rfl, rfl⟩ | ⟨rfl, h0, rfl, rfl⟩ | ⟨rfl, h0, rfl, rfl⟩ | ⟨rfl, h0, rfl, rfl⟩ | ⟨rfl, h0, rfl, rfl⟩ | ⟨rfl, h0, rfl, rfl⟩ | ⟨rfl, h0, rfl, rfl⟩ | ⟨rfl, h0, rfl, rfl⟩ | ⟨rfl, h0, rfl, rfl⟩ | ⟨rfl, h0, rfl, rfl⟩ | ⟨rfl, h0, rfl, rfl⟩ | ⟨rfl, h0, rfl, rfl⟩
  · exact ⟨inT (i := 261) (by decide +kernel) rfl, inT (i := 28) (by decide +kernel) rfl, inT (i := 29) (by decide +kernel) rfl⟩
  · exact absurd h0 (by decide)
  · exact absurd h0 (by decide)
  · exact absurd h0 (by decide)
  · exact absurd h0 (by decide)
  · exact absurd h0 (by decide)
  · exact absurd h0 (by decide)
  · exact absurd h0 (by decide)
  · exact absurd h0 (by decide)
  · exact absurd h0 (by decide)
  · exact absurd h0 (by decide)
  · exact absurd h0 (by decide)
  · exact absurd h0 (by decide)
  · exact absurd h0 (by decide)
  · exact absurd h0 (by decide)
  · exact absurd h0 (by decide)
  · exact absurd h0 (by decide)
  · exact absurd h0 (by decide)
theorem ln_9 : ∀ k v, lkN9 k = some v → (k, v) ∈ ([(9, 4), (18, 6)] : List (Nat × Nat)) := ent (by decide +kernel) (fun k h => nn h)
theorem ln2_9 : ∀ e ∈ ([(9, 4), (18, 6)] : List (Nat × Nat)), (e.2 < 13 ∧ Cond.classLink (ownZ 9) e.1 (clC e.2) ∈ TsZ) ∨ (e.2 = 99 ∧ Cond.classLink (ownZ 9) e.1 "[I" ∈ TsZ) := by
  refine List.forall_mem_cons.mpr ⟨Or.inl ⟨by decide, inT (i := 262) (by decide +kernel) rfl⟩, ?_⟩
  refine List.forall_mem_cons.mpr ⟨Or.inl ⟨by decide, inT (i := 264) (by decide +kernel) rfl⟩, ?_⟩
  exact fun _ h => absurd h List.not_mem_nil
theorem lI_9 : ∀ k v, lkI9 k = some v → (k, v) ∈ ([] : List (Nat × Int32)) := ent (by decide +kernel) (fun k h => nn h)
theorem lI2_9 : ∀ e ∈ ([] : List (Nat × Int32)), Cond.constant (ownZ 9) e.1 e.2 ∈ TsZ := by
  exact fun _ h => absurd h List.not_mem_nil
theorem lL_9 : ∀ k v, lkL9 k = some v → (k, v) ∈ ([(71, -9000000000000000000)] : List (Nat × Int64)) := ent (by decide +kernel) (fun k h => nn h)
theorem lL2_9 : ∀ e ∈ ([(71, -9000000000000000000)] : List (Nat × Int64)), Cond.constantLong (ownZ 9) e.1 e.2 ∈ TsZ := by
  refine List.forall_mem_cons.mpr ⟨inT (i := 609) (by decide +kernel) rfl, ?_⟩
  exact fun _ h => absurd h List.not_mem_nil
theorem lS_9 : ∀ k v, lkS9 k = some v → (k, v) ∈ ([] : List (Nat × Nat)) := ent (by decide +kernel) (fun k h => nn h)
theorem lS2_9 : ∀ e ∈ ([] : List (Nat × Nat)), e.2 < 18 ∧ ownZ 9 = "RecordHeap$Reader" ∧ e.1 = siZ.getD e.2 0 := by
  exact fun _ h => absurd h List.not_mem_nil
theorem l9_9 : ∀ k x, lkF9 k = some x → x.2.2 = 9 → Cond.fieldLink (ownZ 9) k "RecordHeap" "TERM_MOST" "[I" ∈ TsZ := by
  intro k x h h9
  have hm := lf_9 k x h
  rcases List.mem_cons.mp hm with hm | hm
  · cases hm; exact absurd h9 (by decide)
  rcases List.mem_cons.mp hm with hm | hm
  · cases hm; exact absurd h9 (by decide)
  rcases List.mem_cons.mp hm with hm | hm
  · cases hm; exact absurd h9 (by decide)
  rcases List.mem_cons.mp hm with hm | hm
  · cases hm; exact absurd h9 (by decide)
  rcases List.mem_cons.mp hm with hm | hm
  · cases hm; exact absurd h9 (by decide)
  rcases List.mem_cons.mp hm with hm | hm
  · cases hm; exact absurd h9 (by decide)
  rcases List.mem_cons.mp hm with hm | hm
  · cases hm; exact absurd h9 (by decide)
  rcases List.mem_cons.mp hm with hm | hm
  · cases hm; exact absurd h9 (by decide)
  rcases List.mem_cons.mp hm with hm | hm
  · cases hm; exact absurd h9 (by decide)
  rcases List.mem_cons.mp hm with hm | hm
  · cases hm; exact absurd h9 (by decide)
  rcases List.mem_cons.mp hm with hm | hm
  · cases hm; exact absurd h9 (by decide)
  rcases List.mem_cons.mp hm with hm | hm
  · cases hm; exact absurd h9 (by decide)
  rcases List.mem_cons.mp hm with hm | hm
  · cases hm; exact absurd h9 (by decide)
  rcases List.mem_cons.mp hm with hm | hm
  · cases hm; exact absurd h9 (by decide)
  rcases List.mem_cons.mp hm with hm | hm
  · cases hm; exact absurd h9 (by decide)
  exact absurd hm List.not_mem_nil
theorem lok_9 : LOK 9 := ⟨fun k x h h9 => lf2_9 _ (lf_9 k x h) h9, l9_9, fun k x h => ln2_9 _ (ln_9 k x h), fun k x h => lI2_9 _ (lI_9 k x h), fun k x h => lL2_9 _ (lL_9 k x h), fun k x h => lS2_9 _ (lS_9 k x h)⟩
theorem lf_10 : ∀ k v, lkF10 k = some v → (k, v) ∈ ([(9, (10, 0, 3)), (17, (10, 1, 3)), (21, (10, 2, 0)), (25, (10, 3, 0))] : List (Nat × Nat × Nat × Nat)) := ent (by decide +kernel) (fun k h => nn h)
theorem lf2_10 : ∀ e ∈ ([(9, (10, 0, 3)), (17, (10, 1, 3)), (21, (10, 2, 0)), (25, (10, 3, 0))] : List (Nat × Nat × Nat × Nat)), e.2.2.2 ≠ 9 → e.2.1 < 13 ∧ (fkZ e.2.1)[e.2.2.1]? = some e.2.2.2 ∧ (Cond.fieldLink (ownZ 10) e.1 (clC e.2.1) (clT e.2.1 e.2.2.1).2.1 (clT e.2.1 e.2.2.1).2.2.1 ∈ TsZ ∨ ∃ h, Cond.fieldLinkNest (ownZ 10) e.1 (clC e.2.1) (clT e.2.1 e.2.2.1).2.1 (clT e.2.1 e.2.2.1).2.2.1 h ∈ nestZ ∧ clC e.2.1 ≠ ownZ 10) := by
  refine List.forall_mem_cons.mpr ⟨fun _ => ⟨by decide, rfl, Or.inl (inT (i := 141) (by decide +kernel) rfl)⟩, ?_⟩
  refine List.forall_mem_cons.mpr ⟨fun _ => ⟨by decide, rfl, Or.inl (inT (i := 145) (by decide +kernel) rfl)⟩, ?_⟩
  refine List.forall_mem_cons.mpr ⟨fun _ => ⟨by decide, rfl, Or.inl (inT (i := 146) (by decide +kernel) rfl)⟩, ?_⟩
  refine List.forall_mem_cons.mpr ⟨fun _ => ⟨by decide, rfl, Or.inl (inT (i := 148) (by decide +kernel) rfl)⟩, ?_⟩
  exact fun _ h => absurd h List.not_mem_nil
theorem lc_10 : ∀ k v, lkC10 k = some v → (k, v) ∈ ([(3, (0, 0, 0)), (28, (0, 5, 5)), (34, (2, 60, 1)), (38, (2, 59, 1))] : List (Nat × Nat × Nat × Nat)) := ent (by decide +kernel) (fun k h => nn h)
theorem lc2_10 : ∀ e ∈ ([(3, (0, 0, 0)), (28, (0, 5, 5)), (34, (2, 60, 1)), (38, (2, 59, 1))] : List (Nat × Nat × Nat × Nat)), e.2.1 ≠ 0 → e.2.2.1 < 271 ∧ (parseMethodDescriptor (yZ e.2.2.1).desc).map (fun d => d.parameters.length) = some e.2.2.2 ∧ (Cond.methodLink (ownZ 10) e.1 (yZ e.2.2.1) ∈ TsZ ∨ ∃ h, Cond.methodLinkNest (ownZ 10) e.1 (yZ e.2.2.1) h ∈ nestZ) ∧ (e.2.1 = 1 → Cond.static (yZ e.2.2.1) ∈ TsZ) ∧ (e.2.1 = 2 → Cond.instanceMethod (yZ e.2.2.1) ∈ TsZ ∧ Cond.selects (yZ e.2.2.1).cls (yZ e.2.2.1) (yZ e.2.2.1) ∈ TsZ ∧ (methZ e.2.2.1).2.1 < 13) ∧ (e.2.1 = 3 → Cond.instanceMethod (yZ e.2.2.1) ∈ TsZ ∧ (yZ e.2.2.1).name = "<init>" ∧ rZ e.2.2.1 = none) := by
  refine List.forall_mem_cons.mpr ⟨fun h => absurd rfl h, ?_⟩
  refine List.forall_mem_cons.mpr ⟨fun h => absurd rfl h, ?_⟩
  refine List.forall_mem_cons.mpr ⟨fun _ => ⟨by decide, by decide +kernel, Or.inl (inT (i := 649) (by decide +kernel) rfl), fun h => absurd h (by decide), fun _ => ⟨inT (i := 651) (by decide +kernel) rfl, inS (i := 38) (n := 4) (by decide +kernel), Nat.lt_of_succ_le (Nat.le_of_ble_eq_true rfl)⟩, fun h => absurd h (by decide)⟩, ?_⟩
  refine List.forall_mem_cons.mpr ⟨fun _ => ⟨by decide, by decide +kernel, Or.inl (inT (i := 645) (by decide +kernel) rfl), fun h => absurd h (by decide), fun _ => ⟨inT (i := 647) (by decide +kernel) rfl, inS (i := 37) (n := 4) (by decide +kernel), Nat.lt_of_succ_le (Nat.le_of_ble_eq_true rfl)⟩, fun h => absurd h (by decide)⟩, ?_⟩
  exact fun _ h => absurd h List.not_mem_nil
theorem cok_10 : COK 10 := fun k how x na h h0 => lc2_10 _ (lc_10 k _ h) h0
theorem pok_10 : POK 10 := by
  intro k x na h
  have hm := lc_10 k _ h
  simp only [List.mem_cons, List.not_mem_nil, or_false, Prod.mk.injEq] at hm
  rcases hm with ⟨rfl, h0, rfl, rfl⟩ | ⟨rfl, h0, rfl, rfl⟩ | ⟨rfl, h0, rfl, rfl⟩ | ⟨rfl, h0, rfl, rfl⟩
  · exact ⟨inT (i := 138) (by decide +kernel) rfl, inT (i := 28) (by decide +kernel) rfl, inT (i := 29) (by decide +kernel) rfl⟩
  · exact ⟨inT (i := 1021) (by decide +kernel) rfl, inT (i := 558) (by decide +kernel) rfl, inT (i := 557) (by decide +kernel) rfl, inT (i := 19) (by decide +kernel) rfl⟩
  · exact absurd h0 (by decide)
  · exact absurd h0 (by decide)
theorem ln_10 : ∀ k v, lkN10 k = some v → (k, v) ∈ ([(15, 11)] : List (Nat × Nat)) := ent (by decide +kernel) (fun k h => nn h)
theorem ln2_10 : ∀ e ∈ ([(15, 11)] : List (Nat × Nat)), (e.2 < 13 ∧ Cond.classLink (ownZ 10) e.1 (clC e.2) ∈ TsZ) ∨ (e.2 = 99 ∧ Cond.classLink (ownZ 10) e.1 "[I" ∈ TsZ) := by
  refine List.forall_mem_cons.mpr ⟨Or.inl ⟨by decide, inT (i := 139) (by decide +kernel) rfl⟩, ?_⟩
  exact fun _ h => absurd h List.not_mem_nil
theorem lI_10 : ∀ k v, lkI10 k = some v → (k, v) ∈ ([] : List (Nat × Int32)) := ent (by decide +kernel) (fun k h => nn h)
theorem lI2_10 : ∀ e ∈ ([] : List (Nat × Int32)), Cond.constant (ownZ 10) e.1 e.2 ∈ TsZ := by
  exact fun _ h => absurd h List.not_mem_nil
theorem lL_10 : ∀ k v, lkL10 k = some v → (k, v) ∈ ([] : List (Nat × Int64)) := ent (by decide +kernel) (fun k h => nn h)
theorem lL2_10 : ∀ e ∈ ([] : List (Nat × Int64)), Cond.constantLong (ownZ 10) e.1 e.2 ∈ TsZ := by
  exact fun _ h => absurd h List.not_mem_nil
theorem lS_10 : ∀ k v, lkS10 k = some v → (k, v) ∈ ([] : List (Nat × Nat)) := ent (by decide +kernel) (fun k h => nn h)
theorem lS2_10 : ∀ e ∈ ([] : List (Nat × Nat)), e.2 < 18 ∧ ownZ 10 = "RecordHeap$Reader" ∧ e.1 = siZ.getD e.2 0 := by
  exact fun _ h => absurd h List.not_mem_nil
theorem l9_10 : ∀ k x, lkF10 k = some x → x.2.2 = 9 → Cond.fieldLink (ownZ 10) k "RecordHeap" "TERM_MOST" "[I" ∈ TsZ := by
  intro k x h h9
  have hm := lf_10 k x h
  rcases List.mem_cons.mp hm with hm | hm
  · cases hm; exact absurd h9 (by decide)
  rcases List.mem_cons.mp hm with hm | hm
  · cases hm; exact absurd h9 (by decide)
  rcases List.mem_cons.mp hm with hm | hm
  · cases hm; exact absurd h9 (by decide)
  rcases List.mem_cons.mp hm with hm | hm
  · cases hm; exact absurd h9 (by decide)
  exact absurd hm List.not_mem_nil
theorem lok_10 : LOK 10 := ⟨fun k x h h9 => lf2_10 _ (lf_10 k x h) h9, l9_10, fun k x h => ln2_10 _ (ln_10 k x h), fun k x h => lI2_10 _ (lI_10 k x h), fun k x h => lL2_10 _ (lL_10 k x h), fun k x h => lS2_10 _ (lS_10 k x h)⟩
theorem lf_11 : ∀ k v, lkF11 k = some v → (k, v) ∈ ([(9, (11, 0, 3)), (15, (11, 1, 3)), (18, (11, 2, 0)), (26, (11, 3, 0))] : List (Nat × Nat × Nat × Nat)) := ent (by decide +kernel) (fun k h => nn h)
theorem lf2_11 : ∀ e ∈ ([(9, (11, 0, 3)), (15, (11, 1, 3)), (18, (11, 2, 0)), (26, (11, 3, 0))] : List (Nat × Nat × Nat × Nat)), e.2.2.2 ≠ 9 → e.2.1 < 13 ∧ (fkZ e.2.1)[e.2.2.1]? = some e.2.2.2 ∧ (Cond.fieldLink (ownZ 11) e.1 (clC e.2.1) (clT e.2.1 e.2.2.1).2.1 (clT e.2.1 e.2.2.1).2.2.1 ∈ TsZ ∨ ∃ h, Cond.fieldLinkNest (ownZ 11) e.1 (clC e.2.1) (clT e.2.1 e.2.2.1).2.1 (clT e.2.1 e.2.2.1).2.2.1 h ∈ nestZ ∧ clC e.2.1 ≠ ownZ 11) := by
  refine List.forall_mem_cons.mpr ⟨fun _ => ⟨by decide, rfl, Or.inl (inT (i := 66) (by decide +kernel) rfl)⟩, ?_⟩
  refine List.forall_mem_cons.mpr ⟨fun _ => ⟨by decide, rfl, Or.inl (inT (i := 68) (by decide +kernel) rfl)⟩, ?_⟩
  refine List.forall_mem_cons.mpr ⟨fun _ => ⟨by decide, rfl, Or.inl (inT (i := 73) (by decide +kernel) rfl)⟩, ?_⟩
  refine List.forall_mem_cons.mpr ⟨fun _ => ⟨by decide, rfl, Or.inl (inT (i := 76) (by decide +kernel) rfl)⟩, ?_⟩
  exact fun _ h => absurd h List.not_mem_nil
theorem lc_11 : ∀ k v, lkC11 k = some v → (k, v) ∈ ([(3, (0, 0, 0)), (22, (2, 31, 2)), (29, (1, 38, 2)), (35, (3, 3, 2))] : List (Nat × Nat × Nat × Nat)) := ent (by decide +kernel) (fun k h => nn h)
theorem lc2_11 : ∀ e ∈ ([(3, (0, 0, 0)), (22, (2, 31, 2)), (29, (1, 38, 2)), (35, (3, 3, 2))] : List (Nat × Nat × Nat × Nat)), e.2.1 ≠ 0 → e.2.2.1 < 271 ∧ (parseMethodDescriptor (yZ e.2.2.1).desc).map (fun d => d.parameters.length) = some e.2.2.2 ∧ (Cond.methodLink (ownZ 11) e.1 (yZ e.2.2.1) ∈ TsZ ∨ ∃ h, Cond.methodLinkNest (ownZ 11) e.1 (yZ e.2.2.1) h ∈ nestZ) ∧ (e.2.1 = 1 → Cond.static (yZ e.2.2.1) ∈ TsZ) ∧ (e.2.1 = 2 → Cond.instanceMethod (yZ e.2.2.1) ∈ TsZ ∧ Cond.selects (yZ e.2.2.1).cls (yZ e.2.2.1) (yZ e.2.2.1) ∈ TsZ ∧ (methZ e.2.2.1).2.1 < 13) ∧ (e.2.1 = 3 → Cond.instanceMethod (yZ e.2.2.1) ∈ TsZ ∧ (yZ e.2.2.1).name = "<init>" ∧ rZ e.2.2.1 = none) := by
  refine List.forall_mem_cons.mpr ⟨fun h => absurd rfl h, ?_⟩
  refine List.forall_mem_cons.mpr ⟨fun _ => ⟨by decide, by decide +kernel, Or.inl (inT (i := 538) (by decide +kernel) rfl), fun h => absurd h (by decide), fun _ => ⟨inT (i := 505) (by decide +kernel) rfl, inS (i := 14) (n := 4) (by decide +kernel), Nat.lt_of_succ_le (Nat.le_of_ble_eq_true rfl)⟩, fun h => absurd h (by decide)⟩, ?_⟩
  refine List.forall_mem_cons.mpr ⟨fun _ => ⟨by decide, by decide +kernel, Or.inl (inT (i := 545) (by decide +kernel) rfl), fun _ => inT (i := 546) (by decide +kernel) rfl, fun h => absurd h (by decide), fun h => absurd h (by decide)⟩, ?_⟩
  refine List.forall_mem_cons.mpr ⟨fun _ => ⟨by decide, by decide +kernel, Or.inl (inT (i := 559) (by decide +kernel) rfl), fun h => absurd h (by decide), fun h => absurd h (by decide), fun _ => ⟨inT (i := 63) (by decide +kernel) rfl, rfl, rfl⟩⟩, ?_⟩
  exact fun _ h => absurd h List.not_mem_nil
theorem cok_11 : COK 11 := fun k how x na h h0 => lc2_11 _ (lc_11 k _ h) h0
theorem pok_11 : POK 11 := by
  intro k x na h
  have hm := lc_11 k _ h
  simp only [List.mem_cons, List.not_mem_nil, or_false, Prod.mk.injEq] at hm
  rcases hm with ⟨rfl, h0, rfl, rfl⟩ | ⟨rfl, h0, rfl, rfl⟩ | ⟨rfl, h0, rfl, rfl⟩ | ⟨rfl, h0, rfl, rfl⟩
  · exact ⟨inT (i := 65) (by decide +kernel) rfl, inT (i := 28) (by decide +kernel) rfl, inT (i := 29) (by decide +kernel) rfl⟩
  · exact absurd h0 (by decide)
  · exact absurd h0 (by decide)
  · exact absurd h0 (by decide)
theorem ln_11 : ∀ k v, lkN11 k = some v → (k, v) ∈ ([(10, 11)] : List (Nat × Nat)) := ent (by decide +kernel) (fun k h => nn h)
theorem ln2_11 : ∀ e ∈ ([(10, 11)] : List (Nat × Nat)), (e.2 < 13 ∧ Cond.classLink (ownZ 11) e.1 (clC e.2) ∈ TsZ) ∨ (e.2 = 99 ∧ Cond.classLink (ownZ 11) e.1 "[I" ∈ TsZ) := by
  refine List.forall_mem_cons.mpr ⟨Or.inl ⟨by decide, inT (i := 544) (by decide +kernel) rfl⟩, ?_⟩
  exact fun _ h => absurd h List.not_mem_nil
theorem lI_11 : ∀ k v, lkI11 k = some v → (k, v) ∈ ([] : List (Nat × Int32)) := ent (by decide +kernel) (fun k h => nn h)
theorem lI2_11 : ∀ e ∈ ([] : List (Nat × Int32)), Cond.constant (ownZ 11) e.1 e.2 ∈ TsZ := by
  exact fun _ h => absurd h List.not_mem_nil
theorem lL_11 : ∀ k v, lkL11 k = some v → (k, v) ∈ ([] : List (Nat × Int64)) := ent (by decide +kernel) (fun k h => nn h)
theorem lL2_11 : ∀ e ∈ ([] : List (Nat × Int64)), Cond.constantLong (ownZ 11) e.1 e.2 ∈ TsZ := by
  exact fun _ h => absurd h List.not_mem_nil
theorem lS_11 : ∀ k v, lkS11 k = some v → (k, v) ∈ ([] : List (Nat × Nat)) := ent (by decide +kernel) (fun k h => nn h)
theorem lS2_11 : ∀ e ∈ ([] : List (Nat × Nat)), e.2 < 18 ∧ ownZ 11 = "RecordHeap$Reader" ∧ e.1 = siZ.getD e.2 0 := by
  exact fun _ h => absurd h List.not_mem_nil
theorem l9_11 : ∀ k x, lkF11 k = some x → x.2.2 = 9 → Cond.fieldLink (ownZ 11) k "RecordHeap" "TERM_MOST" "[I" ∈ TsZ := by
  intro k x h h9
  have hm := lf_11 k x h
  rcases List.mem_cons.mp hm with hm | hm
  · cases hm; exact absurd h9 (by decide)
  rcases List.mem_cons.mp hm with hm | hm
  · cases hm; exact absurd h9 (by decide)
  rcases List.mem_cons.mp hm with hm | hm
  · cases hm; exact absurd h9 (by decide)
  rcases List.mem_cons.mp hm with hm | hm
  · cases hm; exact absurd h9 (by decide)
  exact absurd hm List.not_mem_nil
theorem lok_11 : LOK 11 := ⟨fun k x h h9 => lf2_11 _ (lf_11 k x h) h9, l9_11, fun k x h => ln2_11 _ (ln_11 k x h), fun k x h => lI2_11 _ (lI_11 k x h), fun k x h => lL2_11 _ (lL_11 k x h), fun k x h => lS2_11 _ (lS_11 k x h)⟩
theorem lf_12 : ∀ k v, lkF12 k = some v → (k, v) ∈ ([(7, (12, 2, 3)), (13, (12, 3, 3)), (16, (12, 4, 3)), (19, (12, 5, 3)), (23, (12, 6, 3)), (26, (12, 7, 3)), (29, (12, 9, 3)), (32, (12, 10, 3)), (35, (12, 11, 3)), (38, (12, 17, 0)), (42, (12, 21, 3)), (45, (12, 23, 3)), (48, (12, 24, 3)), (51, (12, 26, 3)), (54, (12, 27, 3)), (71, (12, 30, 3)), (81, (12, 31, 3)), (88, (12, 32, 3)), (91, (12, 34, 3)), (94, (12, 35, 3)), (97, (12, 36, 3)), (100, (12, 40, 3)), (103, (12, 41, 0)), (106, (12, 42, 0)), (109, (12, 43, 3)), (112, (12, 45, 3)), (115, (12, 47, 3)), (128, (12, 48, 3)), (131, (12, 49, 3)), (134, (12, 52, 0)), (137, (12, 55, 3)), (144, (12, 0, 0)), (147, (12, 1, 0)), (150, (12, 8, 0)), (174, (12, 12, 0)), (180, (12, 14, 0)), (183, (12, 18, 1)), (190, (12, 13, 0)), (193, (12, 16, 2)), (204, (12, 15, 0)), (221, (12, 22, 0)), (224, (12, 28, 0)), (246, (12, 29, 0)), (252, (12, 25, 0)), (261, (12, 19, 1)), (315, (12, 20, 0)), (335, (12, 37, 1)), (338, (12, 33, 0)), (352, (12, 38, 2)), (358, (12, 39, 2)), (407, (12, 44, 0)), (491, (12, 46, 0)), (539, (12, 53, 1)), (550, (12, 50, 0)), (553, (12, 51, 0)), (575, (12, 54, 2)), (592, (12, 56, 1))] : List (Nat × Nat × Nat × Nat)) := ent (by decide +kernel) (fun k h => nn h)
theorem lf2_12 : ∀ e ∈ ([(7, (12, 2, 3)), (13, (12, 3, 3)), (16, (12, 4, 3)), (19, (12, 5, 3)), (23, (12, 6, 3)), (26, (12, 7, 3)), (29, (12, 9, 3)), (32, (12, 10, 3)), (35, (12, 11, 3)), (38, (12, 17, 0)), (42, (12, 21, 3)), (45, (12, 23, 3)), (48, (12, 24, 3)), (51, (12, 26, 3)), (54, (12, 27, 3)), (71, (12, 30, 3)), (81, (12, 31, 3)), (88, (12, 32, 3)), (91, (12, 34, 3)), (94, (12, 35, 3)), (97, (12, 36, 3)), (100, (12, 40, 3)), (103, (12, 41, 0)), (106, (12, 42, 0)), (109, (12, 43, 3)), (112, (12, 45, 3)), (115, (12, 47, 3)), (128, (12, 48, 3)), (131, (12, 49, 3)), (134, (12, 52, 0)), (137, (12, 55, 3)), (144, (12, 0, 0)), (147, (12, 1, 0)), (150, (12, 8, 0)), (174, (12, 12, 0)), (180, (12, 14, 0)), (183, (12, 18, 1)), (190, (12, 13, 0)), (193, (12, 16, 2)), (204, (12, 15, 0)), (221, (12, 22, 0)), (224, (12, 28, 0)), (246, (12, 29, 0)), (252, (12, 25, 0)), (261, (12, 19, 1)), (315, (12, 20, 0)), (335, (12, 37, 1)), (338, (12, 33, 0)), (352, (12, 38, 2)), (358, (12, 39, 2)), (407, (12, 44, 0)), (491, (12, 46, 0)), (539, (12, 53, 1)), (550, (12, 50, 0)), (553, (12, 51, 0)), (575, (12, 54, 2)), (592, (12, 56, 1))] : List (Nat × Nat × Nat × Nat)), e.2.2.2 ≠ 9 → e.2.1 < 13 ∧ (fkZ e.2.1)[e.2.2.1]? = some e.2.2.2 ∧ (Cond.fieldLink (ownZ 12) e.1 (clC e.2.1) (clT e.2.1 e.2.2.1).2.1 (clT e.2.1 e.2.2.1).2.2.1 ∈ TsZ ∨ ∃ h, Cond.fieldLinkNest (ownZ 12) e.1 (clC e.2.1) (clT e.2.1 e.2.2.1).2.1 (clT e.2.1 e.2.2.1).2.2.1 h ∈ nestZ ∧ clC e.2.1 ≠ ownZ 12) := by
  refine List.forall_mem_cons.mpr ⟨fun _ => ⟨by decide, rfl, Or.inl (inT (i := 1071) (by decide +kernel) rfl)⟩, ?_⟩
  refine List.forall_mem_cons.mpr ⟨fun _ => ⟨by decide, rfl, Or.inl (inT (i := 1072) (by decide +kernel) rfl)⟩, ?_⟩
  refine List.forall_mem_cons.mpr ⟨fun _ => ⟨by decide, rfl, Or.inl (inT (i := 1073) (by decide +kernel) rfl)⟩, ?_⟩
  refine List.forall_mem_cons.mpr ⟨fun _ => ⟨by decide, rfl, Or.inl (inT (i := 1074) (by decide +kernel) rfl)⟩, ?_⟩
  refine List.forall_mem_cons.mpr ⟨fun _ => ⟨by decide, rfl, Or.inl (inT (i := 1075) (by decide +kernel) rfl)⟩, ?_⟩
  refine List.forall_mem_cons.mpr ⟨fun _ => ⟨by decide, rfl, Or.inl (inT (i := 1076) (by decide +kernel) rfl)⟩, ?_⟩
  refine List.forall_mem_cons.mpr ⟨fun _ => ⟨by decide, rfl, Or.inl (inT (i := 1078) (by decide +kernel) rfl)⟩, ?_⟩
  refine List.forall_mem_cons.mpr ⟨fun _ => ⟨by decide, rfl, Or.inl (inT (i := 1079) (by decide +kernel) rfl)⟩, ?_⟩
  refine List.forall_mem_cons.mpr ⟨fun _ => ⟨by decide, rfl, Or.inl (inT (i := 1080) (by decide +kernel) rfl)⟩, ?_⟩
  refine List.forall_mem_cons.mpr ⟨fun _ => ⟨by decide, rfl, Or.inl (inT (i := 1086) (by decide +kernel) rfl)⟩, ?_⟩
  refine List.forall_mem_cons.mpr ⟨fun _ => ⟨by decide, rfl, Or.inl (inT (i := 1090) (by decide +kernel) rfl)⟩, ?_⟩
  refine List.forall_mem_cons.mpr ⟨fun _ => ⟨by decide, rfl, Or.inl (inT (i := 1092) (by decide +kernel) rfl)⟩, ?_⟩
  refine List.forall_mem_cons.mpr ⟨fun _ => ⟨by decide, rfl, Or.inl (inT (i := 1093) (by decide +kernel) rfl)⟩, ?_⟩
  refine List.forall_mem_cons.mpr ⟨fun _ => ⟨by decide, rfl, Or.inl (inT (i := 1095) (by decide +kernel) rfl)⟩, ?_⟩
  refine List.forall_mem_cons.mpr ⟨fun _ => ⟨by decide, rfl, Or.inl (inT (i := 1096) (by decide +kernel) rfl)⟩, ?_⟩
  refine List.forall_mem_cons.mpr ⟨fun _ => ⟨by decide, rfl, Or.inl (inT (i := 1099) (by decide +kernel) rfl)⟩, ?_⟩
  refine List.forall_mem_cons.mpr ⟨fun _ => ⟨by decide, rfl, Or.inl (inT (i := 1100) (by decide +kernel) rfl)⟩, ?_⟩
  refine List.forall_mem_cons.mpr ⟨fun _ => ⟨by decide, rfl, Or.inl (inT (i := 1101) (by decide +kernel) rfl)⟩, ?_⟩
  refine List.forall_mem_cons.mpr ⟨fun _ => ⟨by decide, rfl, Or.inl (inT (i := 1103) (by decide +kernel) rfl)⟩, ?_⟩
  refine List.forall_mem_cons.mpr ⟨fun _ => ⟨by decide, rfl, Or.inl (inT (i := 1104) (by decide +kernel) rfl)⟩, ?_⟩
  refine List.forall_mem_cons.mpr ⟨fun _ => ⟨by decide, rfl, Or.inl (inT (i := 1105) (by decide +kernel) rfl)⟩, ?_⟩
  refine List.forall_mem_cons.mpr ⟨fun _ => ⟨by decide, rfl, Or.inl (inT (i := 1109) (by decide +kernel) rfl)⟩, ?_⟩
  refine List.forall_mem_cons.mpr ⟨fun _ => ⟨by decide, rfl, Or.inl (inT (i := 1110) (by decide +kernel) rfl)⟩, ?_⟩
  refine List.forall_mem_cons.mpr ⟨fun _ => ⟨by decide, rfl, Or.inl (inT (i := 1111) (by decide +kernel) rfl)⟩, ?_⟩
  refine List.forall_mem_cons.mpr ⟨fun _ => ⟨by decide, rfl, Or.inl (inT (i := 1112) (by decide +kernel) rfl)⟩, ?_⟩
  refine List.forall_mem_cons.mpr ⟨fun _ => ⟨by decide, rfl, Or.inl (inT (i := 1114) (by decide +kernel) rfl)⟩, ?_⟩
  refine List.forall_mem_cons.mpr ⟨fun _ => ⟨by decide, rfl, Or.inl (inT (i := 1116) (by decide +kernel) rfl)⟩, ?_⟩
  refine List.forall_mem_cons.mpr ⟨fun _ => ⟨by decide, rfl, Or.inl (inT (i := 1117) (by decide +kernel) rfl)⟩, ?_⟩
  refine List.forall_mem_cons.mpr ⟨fun _ => ⟨by decide, rfl, Or.inl (inT (i := 1118) (by decide +kernel) rfl)⟩, ?_⟩
  refine List.forall_mem_cons.mpr ⟨fun _ => ⟨by decide, rfl, Or.inl (inT (i := 1121) (by decide +kernel) rfl)⟩, ?_⟩
  refine List.forall_mem_cons.mpr ⟨fun _ => ⟨by decide, rfl, Or.inl (inT (i := 1124) (by decide +kernel) rfl)⟩, ?_⟩
  refine List.forall_mem_cons.mpr ⟨fun _ => ⟨by decide, rfl, Or.inl (inT (i := 1069) (by decide +kernel) rfl)⟩, ?_⟩
  refine List.forall_mem_cons.mpr ⟨fun _ => ⟨by decide, rfl, Or.inl (inT (i := 1070) (by decide +kernel) rfl)⟩, ?_⟩
  refine List.forall_mem_cons.mpr ⟨fun _ => ⟨by decide, rfl, Or.inl (inT (i := 1077) (by decide +kernel) rfl)⟩, ?_⟩
  refine List.forall_mem_cons.mpr ⟨fun _ => ⟨by decide, rfl, Or.inl (inT (i := 1081) (by decide +kernel) rfl)⟩, ?_⟩
  refine List.forall_mem_cons.mpr ⟨fun _ => ⟨by decide, rfl, Or.inl (inT (i := 1083) (by decide +kernel) rfl)⟩, ?_⟩
  refine List.forall_mem_cons.mpr ⟨fun _ => ⟨by decide, rfl, Or.inl (inT (i := 1087) (by decide +kernel) rfl)⟩, ?_⟩
  refine List.forall_mem_cons.mpr ⟨fun _ => ⟨by decide, rfl, Or.inl (inT (i := 1082) (by decide +kernel) rfl)⟩, ?_⟩
  refine List.forall_mem_cons.mpr ⟨fun _ => ⟨by decide, rfl, Or.inl (inT (i := 1085) (by decide +kernel) rfl)⟩, ?_⟩
  refine List.forall_mem_cons.mpr ⟨fun _ => ⟨by decide, rfl, Or.inl (inT (i := 1084) (by decide +kernel) rfl)⟩, ?_⟩
  refine List.forall_mem_cons.mpr ⟨fun _ => ⟨by decide, rfl, Or.inl (inT (i := 1091) (by decide +kernel) rfl)⟩, ?_⟩
  refine List.forall_mem_cons.mpr ⟨fun _ => ⟨by decide, rfl, Or.inl (inT (i := 1097) (by decide +kernel) rfl)⟩, ?_⟩
  refine List.forall_mem_cons.mpr ⟨fun _ => ⟨by decide, rfl, Or.inl (inT (i := 1098) (by decide +kernel) rfl)⟩, ?_⟩
  refine List.forall_mem_cons.mpr ⟨fun _ => ⟨by decide, rfl, Or.inl (inT (i := 1094) (by decide +kernel) rfl)⟩, ?_⟩
  refine List.forall_mem_cons.mpr ⟨fun _ => ⟨by decide, rfl, Or.inl (inT (i := 1088) (by decide +kernel) rfl)⟩, ?_⟩
  refine List.forall_mem_cons.mpr ⟨fun _ => ⟨by decide, rfl, Or.inl (inT (i := 1089) (by decide +kernel) rfl)⟩, ?_⟩
  refine List.forall_mem_cons.mpr ⟨fun _ => ⟨by decide, rfl, Or.inl (inT (i := 1106) (by decide +kernel) rfl)⟩, ?_⟩
  refine List.forall_mem_cons.mpr ⟨fun _ => ⟨by decide, rfl, Or.inl (inT (i := 1102) (by decide +kernel) rfl)⟩, ?_⟩
  refine List.forall_mem_cons.mpr ⟨fun _ => ⟨by decide, rfl, Or.inl (inT (i := 1107) (by decide +kernel) rfl)⟩, ?_⟩
  refine List.forall_mem_cons.mpr ⟨fun _ => ⟨by decide, rfl, Or.inl (inT (i := 1108) (by decide +kernel) rfl)⟩, ?_⟩
  refine List.forall_mem_cons.mpr ⟨fun _ => ⟨by decide, rfl, Or.inl (inT (i := 1113) (by decide +kernel) rfl)⟩, ?_⟩
  refine List.forall_mem_cons.mpr ⟨fun _ => ⟨by decide, rfl, Or.inl (inT (i := 1115) (by decide +kernel) rfl)⟩, ?_⟩
  refine List.forall_mem_cons.mpr ⟨fun _ => ⟨by decide, rfl, Or.inl (inT (i := 1122) (by decide +kernel) rfl)⟩, ?_⟩
  refine List.forall_mem_cons.mpr ⟨fun _ => ⟨by decide, rfl, Or.inl (inT (i := 1119) (by decide +kernel) rfl)⟩, ?_⟩
  refine List.forall_mem_cons.mpr ⟨fun _ => ⟨by decide, rfl, Or.inl (inT (i := 1120) (by decide +kernel) rfl)⟩, ?_⟩
  refine List.forall_mem_cons.mpr ⟨fun _ => ⟨by decide, rfl, Or.inl (inT (i := 1123) (by decide +kernel) rfl)⟩, ?_⟩
  refine List.forall_mem_cons.mpr ⟨fun _ => ⟨by decide, rfl, Or.inl (inT (i := 1125) (by decide +kernel) rfl)⟩, ?_⟩
  exact fun _ h => absurd h List.not_mem_nil
theorem lc_12 : ∀ k v, lkC12 k = some v → (k, v) ∈ ([(1, (0, 0, 0)), (140, (1, 140, 1)), (153, (2, 142, 1)), (156, (2, 143, 1)), (160, (1, 145, 3)), (170, (2, 148, 2)), (177, (2, 150, 1)), (187, (2, 156, 0)), (197, (1, 157, 1)), (201, (1, 158, 1)), (217, (2, 161, 1)), (227, (1, 174, 1)), (230, (2, 171, 2)), (242, (2, 160, 1)), (249, (2, 164, 2)), (255, (2, 165, 1)), (258, (2, 166, 1)), (264, (2, 168, 0)), (268, (2, 169, 0)), (273, (2, 170, 3)), (279, (2, 172, 2)), (285, (2, 167, 0)), (288, (2, 175, 1)), (291, (2, 176, 0)), (294, (2, 177, 0)), (302, (2, 163, 0)), (305, (2, 173, 1)), (309, (2, 178, 0)), (312, (2, 155, 0)), (318, (2, 162, 1)), (323, (2, 154, 1)), (326, (2, 159, 0)), (329, (2, 179, 0)), (332, (2, 181, 1)), (341, (2, 194, 1)), (344, (2, 197, 3)), (355, (2, 196, 2)), (361, (2, 195, 1)), (364, (1, 191, 2)), (367, (2, 190, 2)), (370, (2, 200, 1)), (373, (2, 199, 1)), (376, (2, 202, 1)), (379, (2, 192, 2)), (383, (2, 201, 1)), (386, (2, 189, 1)), (389, (2, 193, 4)), (393, (1, 198, 3)), (397, (2, 188, 1)), (400, (2, 203, 4)), (404, (2, 205, 2)), (410, (2, 187, 2)), (413, (2, 207, 2)), (416, (2, 204, 4)), (419, (2, 206, 0)), (422, (2, 185, 1)), (425, (2, 186, 0)), (428, (2, 208, 1)), (431, (2, 183, 0)), (434, (2, 184, 0)), (439, (2, 211, 1)), (442, (2, 215, 1)), (445, (2, 223, 1)), (448, (2, 214, 1)), (451, (2, 216, 2)), (454, (2, 218, 3)), (458, (2, 213, 1)), (461, (2, 217, 1)), (464, (2, 219, 1)), (467, (2, 210, 1)), (470, (2, 212, 1)), (473, (2, 222, 1)), (476, (2, 221, 1)), (479, (1, 226, 1)), (482, (2, 227, 1)), (485, (2, 225, 1)), (488, (2, 229, 0)), (494, (2, 231, 2)), (497, (2, 234, 1)), (508, (2, 241, 1)), (511, (2, 244, 2)), (514, (2, 246, 1)), (519, (2, 248, 2)), (526, (2, 253, 1)), (531, (2, 254, 2)), (544, (2, 259, 2)), (547, (2, 260, 2)), (556, (2, 256, 0)), (559, (2, 257, 1)), (562, (2, 258, 3)), (566, (2, 252, 0)), (569, (2, 255, 1)), (572, (2, 261, 1)), (586, (2, 264, 1)), (589, (2, 265, 4)), (595, (2, 268, 0)), (598, (2, 269, 1))] : List (Nat × Nat × Nat × Nat)) := ent (by decide +kernel) (fun k h => nn h)
theorem lc2_12 : ∀ e ∈ ([(1, (0, 0, 0)), (140, (1, 140, 1)), (153, (2, 142, 1)), (156, (2, 143, 1)), (160, (1, 145, 3)), (170, (2, 148, 2)), (177, (2, 150, 1)), (187, (2, 156, 0)), (197, (1, 157, 1)), (201, (1, 158, 1)), (217, (2, 161, 1)), (227, (1, 174, 1)), (230, (2, 171, 2)), (242, (2, 160, 1)), (249, (2, 164, 2)), (255, (2, 165, 1)), (258, (2, 166, 1)), (264, (2, 168, 0)), (268, (2, 169, 0)), (273, (2, 170, 3)), (279, (2, 172, 2)), (285, (2, 167, 0)), (288, (2, 175, 1)), (291, (2, 176, 0)), (294, (2, 177, 0)), (302, (2, 163, 0)), (305, (2, 173, 1)), (309, (2, 178, 0)), (312, (2, 155, 0)), (318, (2, 162, 1)), (323, (2, 154, 1)), (326, (2, 159, 0)), (329, (2, 179, 0)), (332, (2, 181, 1)), (341, (2, 194, 1)), (344, (2, 197, 3)), (355, (2, 196, 2)), (361, (2, 195, 1)), (364, (1, 191, 2)), (367, (2, 190, 2)), (370, (2, 200, 1)), (373, (2, 199, 1)), (376, (2, 202, 1)), (379, (2, 192, 2)), (383, (2, 201, 1)), (386, (2, 189, 1)), (389, (2, 193, 4)), (393, (1, 198, 3)), (397, (2, 188, 1)), (400, (2, 203, 4)), (404, (2, 205, 2)), (410, (2, 187, 2)), (413, (2, 207, 2)), (416, (2, 204, 4)), (419, (2, 206, 0)), (422, (2, 185, 1)), (425, (2, 186, 0)), (428, (2, 208, 1)), (431, (2, 183, 0)), (434, (2, 184, 0)), (439, (2, 211, 1)), (442, (2, 215, 1)), (445, (2, 223, 1)), (448, (2, 214, 1)), (451, (2, 216, 2)), (454, (2, 218, 3)), (458, (2, 213, 1)), (461, (2, 217, 1)), (464, (2, 219, 1)), (467, (2, 210, 1)), (470, (2, 212, 1)), (473, (2, 222, 1)), (476, (2, 221, 1)), (479, (1, 226, 1)), (482, (2, 227, 1)), (485, (2, 225, 1)), (488, (2, 229, 0)), (494, (2, 231, 2)), (497, (2, 234, 1)), (508, (2, 241, 1)), (511, (2, 244, 2)), (514, (2, 246, 1)), (519, (2, 248, 2)), (526, (2, 253, 1)), (531, (2, 254, 2)), (544, (2, 259, 2)), (547, (2, 260, 2)), (556, (2, 256, 0)), (559, (2, 257, 1)), (562, (2, 258, 3)), (566, (2, 252, 0)), (569, (2, 255, 1)), (572, (2, 261, 1)), (586, (2, 264, 1)), (589, (2, 265, 4)), (595, (2, 268, 0)), (598, (2, 269, 1))] : List (Nat × Nat × Nat × Nat)), e.2.1 ≠ 0 → e.2.2.1 < 271 ∧ (parseMethodDescriptor (yZ e.2.2.1).desc).map (fun d => d.parameters.length) = some e.2.2.2 ∧ (Cond.methodLink (ownZ 12) e.1 (yZ e.2.2.1) ∈ TsZ ∨ ∃ h, Cond.methodLinkNest (ownZ 12) e.1 (yZ e.2.2.1) h ∈ nestZ) ∧ (e.2.1 = 1 → Cond.static (yZ e.2.2.1) ∈ TsZ) ∧ (e.2.1 = 2 → Cond.instanceMethod (yZ e.2.2.1) ∈ TsZ ∧ Cond.selects (yZ e.2.2.1).cls (yZ e.2.2.1) (yZ e.2.2.1) ∈ TsZ ∧ (methZ e.2.2.1).2.1 < 13) ∧ (e.2.1 = 3 → Cond.instanceMethod (yZ e.2.2.1) ∈ TsZ ∧ (yZ e.2.2.1).name = "<init>" ∧ rZ e.2.2.1 = none) := by
  refine List.forall_mem_cons.mpr ⟨fun h => absurd rfl h, ?_⟩
  refine List.forall_mem_cons.mpr ⟨fun _ => ⟨by decide, by decide +kernel, Or.inl (inT (i := 1066) (by decide +kernel) rfl), fun _ => inT (i := 1067) (by decide +kernel) rfl, fun h => absurd h (by decide), fun h => absurd h (by decide)⟩, ?_⟩
  refine List.forall_mem_cons.mpr ⟨fun _ => ⟨by decide, by decide +kernel, Or.inl (inT (i := 1246) (by decide +kernel) rfl), fun h => absurd h (by decide), fun _ => ⟨inT (i := 1248) (by decide +kernel) rfl, inS (i := 83) (n := 57) (by decide +kernel), Nat.lt_of_succ_le (Nat.le_of_ble_eq_true rfl)⟩, fun h => absurd h (by decide)⟩, ?_⟩
  refine List.forall_mem_cons.mpr ⟨fun _ => ⟨by decide, by decide +kernel, Or.inl (inT (i := 1250) (by decide +kernel) rfl), fun h => absurd h (by decide), fun _ => ⟨inT (i := 1252) (by decide +kernel) rfl, inS (i := 84) (n := 57) (by decide +kernel), Nat.lt_of_succ_le (Nat.le_of_ble_eq_true rfl)⟩, fun h => absurd h (by decide)⟩, ?_⟩
  refine List.forall_mem_cons.mpr ⟨fun _ => ⟨by decide, by decide +kernel, Or.inl (inT (i := 1258) (by decide +kernel) rfl), fun _ => inT (i := 1259) (by decide +kernel) rfl, fun h => absurd h (by decide), fun h => absurd h (by decide)⟩, ?_⟩
  refine List.forall_mem_cons.mpr ⟨fun _ => ⟨by decide, by decide +kernel, Or.inl (inT (i := 1272) (by decide +kernel) rfl), fun h => absurd h (by decide), fun _ => ⟨inT (i := 1274) (by decide +kernel) rfl, inS (i := 85) (n := 57) (by decide +kernel), Nat.lt_of_succ_le (Nat.le_of_ble_eq_true rfl)⟩, fun h => absurd h (by decide)⟩, ?_⟩
  refine List.forall_mem_cons.mpr ⟨fun _ => ⟨by decide, by decide +kernel, Or.inl (inT (i := 1280) (by decide +kernel) rfl), fun h => absurd h (by decide), fun _ => ⟨inT (i := 1282) (by decide +kernel) rfl, inS (i := 86) (n := 57) (by decide +kernel), Nat.lt_of_succ_le (Nat.le_of_ble_eq_true rfl)⟩, fun h => absurd h (by decide)⟩, ?_⟩
  refine List.forall_mem_cons.mpr ⟨fun _ => ⟨by decide, by decide +kernel, Or.inl (inT (i := 1304) (by decide +kernel) rfl), fun h => absurd h (by decide), fun _ => ⟨inT (i := 1306) (by decide +kernel) rfl, inS (i := 89) (n := 57) (by decide +kernel), Nat.lt_of_succ_le (Nat.le_of_ble_eq_true rfl)⟩, fun h => absurd h (by decide)⟩, ?_⟩
  refine List.forall_mem_cons.mpr ⟨fun _ => ⟨by decide, by decide +kernel, Or.inl (inT (i := 1308) (by decide +kernel) rfl), fun _ => inT (i := 1309) (by decide +kernel) rfl, fun h => absurd h (by decide), fun h => absurd h (by decide)⟩, ?_⟩
  refine List.forall_mem_cons.mpr ⟨fun _ => ⟨by decide, by decide +kernel, Or.inl (inT (i := 1311) (by decide +kernel) rfl), fun _ => inT (i := 1312) (by decide +kernel) rfl, fun h => absurd h (by decide), fun h => absurd h (by decide)⟩, ?_⟩
  refine List.forall_mem_cons.mpr ⟨fun _ => ⟨by decide, by decide +kernel, Or.inl (inT (i := 1327) (by decide +kernel) rfl), fun h => absurd h (by decide), fun _ => ⟨inT (i := 1329) (by decide +kernel) rfl, inS (i := 92) (n := 57) (by decide +kernel), Nat.lt_of_succ_le (Nat.le_of_ble_eq_true rfl)⟩, fun h => absurd h (by decide)⟩, ?_⟩
  refine List.forall_mem_cons.mpr ⟨fun _ => ⟨by decide, by decide +kernel, Or.inl (inT (i := 1382) (by decide +kernel) rfl), fun _ => inT (i := 1383) (by decide +kernel) rfl, fun h => absurd h (by decide), fun h => absurd h (by decide)⟩, ?_⟩
  refine List.forall_mem_cons.mpr ⟨fun _ => ⟨by decide, by decide +kernel, Or.inl (inT (i := 1369) (by decide +kernel) rfl), fun h => absurd h (by decide), fun _ => ⟨inT (i := 1371) (by decide +kernel) rfl, inS (i := 102) (n := 57) (by decide +kernel), Nat.lt_of_succ_le (Nat.le_of_ble_eq_true rfl)⟩, fun h => absurd h (by decide)⟩, ?_⟩
  refine List.forall_mem_cons.mpr ⟨fun _ => ⟨by decide, by decide +kernel, Or.inl (inT (i := 1323) (by decide +kernel) rfl), fun h => absurd h (by decide), fun _ => ⟨inT (i := 1325) (by decide +kernel) rfl, inS (i := 91) (n := 57) (by decide +kernel), Nat.lt_of_succ_le (Nat.le_of_ble_eq_true rfl)⟩, fun h => absurd h (by decide)⟩, ?_⟩
  refine List.forall_mem_cons.mpr ⟨fun _ => ⟨by decide, by decide +kernel, Or.inl (inT (i := 1340) (by decide +kernel) rfl), fun h => absurd h (by decide), fun _ => ⟨inT (i := 1342) (by decide +kernel) rfl, inS (i := 95) (n := 57) (by decide +kernel), Nat.lt_of_succ_le (Nat.le_of_ble_eq_true rfl)⟩, fun h => absurd h (by decide)⟩, ?_⟩
  refine List.forall_mem_cons.mpr ⟨fun _ => ⟨by decide, by decide +kernel, Or.inl (inT (i := 1344) (by decide +kernel) rfl), fun h => absurd h (by decide), fun _ => ⟨inT (i := 1346) (by decide +kernel) rfl, inS (i := 96) (n := 57) (by decide +kernel), Nat.lt_of_succ_le (Nat.le_of_ble_eq_true rfl)⟩, fun h => absurd h (by decide)⟩, ?_⟩
  refine List.forall_mem_cons.mpr ⟨fun _ => ⟨by decide, by decide +kernel, Or.inl (inT (i := 1348) (by decide +kernel) rfl), fun h => absurd h (by decide), fun _ => ⟨inT (i := 1350) (by decide +kernel) rfl, inS (i := 97) (n := 57) (by decide +kernel), Nat.lt_of_succ_le (Nat.le_of_ble_eq_true rfl)⟩, fun h => absurd h (by decide)⟩, ?_⟩
  refine List.forall_mem_cons.mpr ⟨fun _ => ⟨by decide, by decide +kernel, Or.inl (inT (i := 1356) (by decide +kernel) rfl), fun h => absurd h (by decide), fun _ => ⟨inT (i := 1358) (by decide +kernel) rfl, inS (i := 99) (n := 57) (by decide +kernel), Nat.lt_of_succ_le (Nat.le_of_ble_eq_true rfl)⟩, fun h => absurd h (by decide)⟩, ?_⟩
  refine List.forall_mem_cons.mpr ⟨fun _ => ⟨by decide, by decide +kernel, Or.inl (inT (i := 1360) (by decide +kernel) rfl), fun h => absurd h (by decide), fun _ => ⟨inT (i := 1362) (by decide +kernel) rfl, inS (i := 100) (n := 57) (by decide +kernel), Nat.lt_of_succ_le (Nat.le_of_ble_eq_true rfl)⟩, fun h => absurd h (by decide)⟩, ?_⟩
  refine List.forall_mem_cons.mpr ⟨fun _ => ⟨by decide, by decide +kernel, Or.inl (inT (i := 1365) (by decide +kernel) rfl), fun h => absurd h (by decide), fun _ => ⟨inT (i := 1367) (by decide +kernel) rfl, inS (i := 101) (n := 57) (by decide +kernel), Nat.lt_of_succ_le (Nat.le_of_ble_eq_true rfl)⟩, fun h => absurd h (by decide)⟩, ?_⟩
  refine List.forall_mem_cons.mpr ⟨fun _ => ⟨by decide, by decide +kernel, Or.inl (inT (i := 1374) (by decide +kernel) rfl), fun h => absurd h (by decide), fun _ => ⟨inT (i := 1376) (by decide +kernel) rfl, inS (i := 103) (n := 57) (by decide +kernel), Nat.lt_of_succ_le (Nat.le_of_ble_eq_true rfl)⟩, fun h => absurd h (by decide)⟩, ?_⟩
  refine List.forall_mem_cons.mpr ⟨fun _ => ⟨by decide, by decide +kernel, Or.inl (inT (i := 1352) (by decide +kernel) rfl), fun h => absurd h (by decide), fun _ => ⟨inT (i := 1354) (by decide +kernel) rfl, inS (i := 98) (n := 57) (by decide +kernel), Nat.lt_of_succ_le (Nat.le_of_ble_eq_true rfl)⟩, fun h => absurd h (by decide)⟩, ?_⟩
  refine List.forall_mem_cons.mpr ⟨fun _ => ⟨by decide, by decide +kernel, Or.inl (inT (i := 1385) (by decide +kernel) rfl), fun h => absurd h (by decide), fun _ => ⟨inT (i := 1387) (by decide +kernel) rfl, inS (i := 105) (n := 57) (by decide +kernel), Nat.lt_of_succ_le (Nat.le_of_ble_eq_true rfl)⟩, fun h => absurd h (by decide)⟩, ?_⟩
  refine List.forall_mem_cons.mpr ⟨fun _ => ⟨by decide, by decide +kernel, Or.inl (inT (i := 1389) (by decide +kernel) rfl), fun h => absurd h (by decide), fun _ => ⟨inT (i := 1391) (by decide +kernel) rfl, inS (i := 106) (n := 57) (by decide +kernel), Nat.lt_of_succ_le (Nat.le_of_ble_eq_true rfl)⟩, fun h => absurd h (by decide)⟩, ?_⟩
  refine List.forall_mem_cons.mpr ⟨fun _ => ⟨by decide, by decide +kernel, Or.inl (inT (i := 1393) (by decide +kernel) rfl), fun h => absurd h (by decide), fun _ => ⟨inT (i := 1395) (by decide +kernel) rfl, inS (i := 107) (n := 57) (by decide +kernel), Nat.lt_of_succ_le (Nat.le_of_ble_eq_true rfl)⟩, fun h => absurd h (by decide)⟩, ?_⟩
  refine List.forall_mem_cons.mpr ⟨fun _ => ⟨by decide, by decide +kernel, Or.inl (inT (i := 1335) (by decide +kernel) rfl), fun h => absurd h (by decide), fun _ => ⟨inT (i := 1337) (by decide +kernel) rfl, inS (i := 94) (n := 57) (by decide +kernel), Nat.lt_of_succ_le (Nat.le_of_ble_eq_true rfl)⟩, fun h => absurd h (by decide)⟩, ?_⟩
  refine List.forall_mem_cons.mpr ⟨fun _ => ⟨by decide, by decide +kernel, Or.inl (inT (i := 1378) (by decide +kernel) rfl), fun h => absurd h (by decide), fun _ => ⟨inT (i := 1380) (by decide +kernel) rfl, inS (i := 104) (n := 57) (by decide +kernel), Nat.lt_of_succ_le (Nat.le_of_ble_eq_true rfl)⟩, fun h => absurd h (by decide)⟩, ?_⟩
  refine List.forall_mem_cons.mpr ⟨fun _ => ⟨by decide, by decide +kernel, Or.inl (inT (i := 1401) (by decide +kernel) rfl), fun h => absurd h (by decide), fun _ => ⟨inT (i := 1403) (by decide +kernel) rfl, inS (i := 108) (n := 57) (by decide +kernel), Nat.lt_of_succ_le (Nat.le_of_ble_eq_true rfl)⟩, fun h => absurd h (by decide)⟩, ?_⟩
  refine List.forall_mem_cons.mpr ⟨fun _ => ⟨by decide, by decide +kernel, Or.inl (inT (i := 1300) (by decide +kernel) rfl), fun h => absurd h (by decide), fun _ => ⟨inT (i := 1302) (by decide +kernel) rfl, inS (i := 88) (n := 57) (by decide +kernel), Nat.lt_of_succ_le (Nat.le_of_ble_eq_true rfl)⟩, fun h => absurd h (by decide)⟩, ?_⟩
  refine List.forall_mem_cons.mpr ⟨fun _ => ⟨by decide, by decide +kernel, Or.inl (inT (i := 1331) (by decide +kernel) rfl), fun h => absurd h (by decide), fun _ => ⟨inT (i := 1333) (by decide +kernel) rfl, inS (i := 93) (n := 57) (by decide +kernel), Nat.lt_of_succ_le (Nat.le_of_ble_eq_true rfl)⟩, fun h => absurd h (by decide)⟩, ?_⟩
  refine List.forall_mem_cons.mpr ⟨fun _ => ⟨by decide, by decide +kernel, Or.inl (inT (i := 1296) (by decide +kernel) rfl), fun h => absurd h (by decide), fun _ => ⟨inT (i := 1298) (by decide +kernel) rfl, inS (i := 87) (n := 57) (by decide +kernel), Nat.lt_of_succ_le (Nat.le_of_ble_eq_true rfl)⟩, fun h => absurd h (by decide)⟩, ?_⟩
  refine List.forall_mem_cons.mpr ⟨fun _ => ⟨by decide, by decide +kernel, Or.inl (inT (i := 1319) (by decide +kernel) rfl), fun h => absurd h (by decide), fun _ => ⟨inT (i := 1321) (by decide +kernel) rfl, inS (i := 90) (n := 57) (by decide +kernel), Nat.lt_of_succ_le (Nat.le_of_ble_eq_true rfl)⟩, fun h => absurd h (by decide)⟩, ?_⟩
  refine List.forall_mem_cons.mpr ⟨fun _ => ⟨by decide, by decide +kernel, Or.inl (inT (i := 1408) (by decide +kernel) rfl), fun h => absurd h (by decide), fun _ => ⟨inT (i := 1410) (by decide +kernel) rfl, inS (i := 109) (n := 57) (by decide +kernel), Nat.lt_of_succ_le (Nat.le_of_ble_eq_true rfl)⟩, fun h => absurd h (by decide)⟩, ?_⟩
  refine List.forall_mem_cons.mpr ⟨fun _ => ⟨by decide, by decide +kernel, Or.inl (inT (i := 1416) (by decide +kernel) rfl), fun h => absurd h (by decide), fun _ => ⟨inT (i := 1418) (by decide +kernel) rfl, inS (i := 110) (n := 57) (by decide +kernel), Nat.lt_of_succ_le (Nat.le_of_ble_eq_true rfl)⟩, fun h => absurd h (by decide)⟩, ?_⟩
  refine List.forall_mem_cons.mpr ⟨fun _ => ⟨by decide, by decide +kernel, Or.inl (inT (i := 1467) (by decide +kernel) rfl), fun h => absurd h (by decide), fun _ => ⟨inT (i := 1469) (by decide +kernel) rfl, inS (i := 121) (n := 57) (by decide +kernel), Nat.lt_of_succ_le (Nat.le_of_ble_eq_true rfl)⟩, fun h => absurd h (by decide)⟩, ?_⟩
  refine List.forall_mem_cons.mpr ⟨fun _ => ⟨by decide, by decide +kernel, Or.inl (inT (i := 1479) (by decide +kernel) rfl), fun h => absurd h (by decide), fun _ => ⟨inT (i := 1481) (by decide +kernel) rfl, inS (i := 124) (n := 57) (by decide +kernel), Nat.lt_of_succ_le (Nat.le_of_ble_eq_true rfl)⟩, fun h => absurd h (by decide)⟩, ?_⟩
  refine List.forall_mem_cons.mpr ⟨fun _ => ⟨by decide, by decide +kernel, Or.inl (inT (i := 1475) (by decide +kernel) rfl), fun h => absurd h (by decide), fun _ => ⟨inT (i := 1477) (by decide +kernel) rfl, inS (i := 123) (n := 57) (by decide +kernel), Nat.lt_of_succ_le (Nat.le_of_ble_eq_true rfl)⟩, fun h => absurd h (by decide)⟩, ?_⟩
  refine List.forall_mem_cons.mpr ⟨fun _ => ⟨by decide, by decide +kernel, Or.inl (inT (i := 1471) (by decide +kernel) rfl), fun h => absurd h (by decide), fun _ => ⟨inT (i := 1473) (by decide +kernel) rfl, inS (i := 122) (n := 57) (by decide +kernel), Nat.lt_of_succ_le (Nat.le_of_ble_eq_true rfl)⟩, fun h => absurd h (by decide)⟩, ?_⟩
  refine List.forall_mem_cons.mpr ⟨fun _ => ⟨by decide, by decide +kernel, Or.inl (inT (i := 1456) (by decide +kernel) rfl), fun _ => inT (i := 1457) (by decide +kernel) rfl, fun h => absurd h (by decide), fun h => absurd h (by decide)⟩, ?_⟩
  refine List.forall_mem_cons.mpr ⟨fun _ => ⟨by decide, by decide +kernel, Or.inl (inT (i := 1452) (by decide +kernel) rfl), fun h => absurd h (by decide), fun _ => ⟨inT (i := 1454) (by decide +kernel) rfl, inS (i := 118) (n := 57) (by decide +kernel), Nat.lt_of_succ_le (Nat.le_of_ble_eq_true rfl)⟩, fun h => absurd h (by decide)⟩, ?_⟩
  refine List.forall_mem_cons.mpr ⟨fun _ => ⟨by decide, by decide +kernel, Or.inl (inT (i := 1492) (by decide +kernel) rfl), fun h => absurd h (by decide), fun _ => ⟨inT (i := 1494) (by decide +kernel) rfl, inS (i := 126) (n := 57) (by decide +kernel), Nat.lt_of_succ_le (Nat.le_of_ble_eq_true rfl)⟩, fun h => absurd h (by decide)⟩, ?_⟩
  refine List.forall_mem_cons.mpr ⟨fun _ => ⟨by decide, by decide +kernel, Or.inl (inT (i := 1488) (by decide +kernel) rfl), fun h => absurd h (by decide), fun _ => ⟨inT (i := 1490) (by decide +kernel) rfl, inS (i := 125) (n := 57) (by decide +kernel), Nat.lt_of_succ_le (Nat.le_of_ble_eq_true rfl)⟩, fun h => absurd h (by decide)⟩, ?_⟩
  refine List.forall_mem_cons.mpr ⟨fun _ => ⟨by decide, by decide +kernel, Or.inl (inT (i := 1500) (by decide +kernel) rfl), fun h => absurd h (by decide), fun _ => ⟨inT (i := 1502) (by decide +kernel) rfl, inS (i := 128) (n := 57) (by decide +kernel), Nat.lt_of_succ_le (Nat.le_of_ble_eq_true rfl)⟩, fun h => absurd h (by decide)⟩, ?_⟩
  refine List.forall_mem_cons.mpr ⟨fun _ => ⟨by decide, by decide +kernel, Or.inl (inT (i := 1459) (by decide +kernel) rfl), fun h => absurd h (by decide), fun _ => ⟨inT (i := 1461) (by decide +kernel) rfl, inS (i := 119) (n := 57) (by decide +kernel), Nat.lt_of_succ_le (Nat.le_of_ble_eq_true rfl)⟩, fun h => absurd h (by decide)⟩, ?_⟩
  refine List.forall_mem_cons.mpr ⟨fun _ => ⟨by decide, by decide +kernel, Or.inl (inT (i := 1496) (by decide +kernel) rfl), fun h => absurd h (by decide), fun _ => ⟨inT (i := 1498) (by decide +kernel) rfl, inS (i := 127) (n := 57) (by decide +kernel), Nat.lt_of_succ_le (Nat.le_of_ble_eq_true rfl)⟩, fun h => absurd h (by decide)⟩, ?_⟩
  refine List.forall_mem_cons.mpr ⟨fun _ => ⟨by decide, by decide +kernel, Or.inl (inT (i := 1448) (by decide +kernel) rfl), fun h => absurd h (by decide), fun _ => ⟨inT (i := 1450) (by decide +kernel) rfl, inS (i := 117) (n := 57) (by decide +kernel), Nat.lt_of_succ_le (Nat.le_of_ble_eq_true rfl)⟩, fun h => absurd h (by decide)⟩, ?_⟩
  refine List.forall_mem_cons.mpr ⟨fun _ => ⟨by decide, by decide +kernel, Or.inl (inT (i := 1463) (by decide +kernel) rfl), fun h => absurd h (by decide), fun _ => ⟨inT (i := 1465) (by decide +kernel) rfl, inS (i := 120) (n := 57) (by decide +kernel), Nat.lt_of_succ_le (Nat.le_of_ble_eq_true rfl)⟩, fun h => absurd h (by decide)⟩, ?_⟩
  refine List.forall_mem_cons.mpr ⟨fun _ => ⟨by decide, by decide +kernel, Or.inl (inT (i := 1485) (by decide +kernel) rfl), fun _ => inT (i := 1486) (by decide +kernel) rfl, fun h => absurd h (by decide), fun h => absurd h (by decide)⟩, ?_⟩
  refine List.forall_mem_cons.mpr ⟨fun _ => ⟨by decide, by decide +kernel, Or.inl (inT (i := 1444) (by decide +kernel) rfl), fun h => absurd h (by decide), fun _ => ⟨inT (i := 1446) (by decide +kernel) rfl, inS (i := 116) (n := 57) (by decide +kernel), Nat.lt_of_succ_le (Nat.le_of_ble_eq_true rfl)⟩, fun h => absurd h (by decide)⟩, ?_⟩
  refine List.forall_mem_cons.mpr ⟨fun _ => ⟨by decide, by decide +kernel, Or.inl (inT (i := 1504) (by decide +kernel) rfl), fun h => absurd h (by decide), fun _ => ⟨inT (i := 1506) (by decide +kernel) rfl, inS (i := 129) (n := 57) (by decide +kernel), Nat.lt_of_succ_le (Nat.le_of_ble_eq_true rfl)⟩, fun h => absurd h (by decide)⟩, ?_⟩
  refine List.forall_mem_cons.mpr ⟨fun _ => ⟨by decide, by decide +kernel, Or.inl (inT (i := 1512) (by decide +kernel) rfl), fun h => absurd h (by decide), fun _ => ⟨inT (i := 1514) (by decide +kernel) rfl, inS (i := 131) (n := 57) (by decide +kernel), Nat.lt_of_succ_le (Nat.le_of_ble_eq_true rfl)⟩, fun h => absurd h (by decide)⟩, ?_⟩
  refine List.forall_mem_cons.mpr ⟨fun _ => ⟨by decide, by decide +kernel, Or.inl (inT (i := 1440) (by decide +kernel) rfl), fun h => absurd h (by decide), fun _ => ⟨inT (i := 1442) (by decide +kernel) rfl, inS (i := 115) (n := 57) (by decide +kernel), Nat.lt_of_succ_le (Nat.le_of_ble_eq_true rfl)⟩, fun h => absurd h (by decide)⟩, ?_⟩
  refine List.forall_mem_cons.mpr ⟨fun _ => ⟨by decide, by decide +kernel, Or.inl (inT (i := 1520) (by decide +kernel) rfl), fun h => absurd h (by decide), fun _ => ⟨inT (i := 1522) (by decide +kernel) rfl, inS (i := 133) (n := 57) (by decide +kernel), Nat.lt_of_succ_le (Nat.le_of_ble_eq_true rfl)⟩, fun h => absurd h (by decide)⟩, ?_⟩
  refine List.forall_mem_cons.mpr ⟨fun _ => ⟨by decide, by decide +kernel, Or.inl (inT (i := 1508) (by decide +kernel) rfl), fun h => absurd h (by decide), fun _ => ⟨inT (i := 1510) (by decide +kernel) rfl, inS (i := 130) (n := 57) (by decide +kernel), Nat.lt_of_succ_le (Nat.le_of_ble_eq_true rfl)⟩, fun h => absurd h (by decide)⟩, ?_⟩
  refine List.forall_mem_cons.mpr ⟨fun _ => ⟨by decide, by decide +kernel, Or.inl (inT (i := 1516) (by decide +kernel) rfl), fun h => absurd h (by decide), fun _ => ⟨inT (i := 1518) (by decide +kernel) rfl, inS (i := 132) (n := 57) (by decide +kernel), Nat.lt_of_succ_le (Nat.le_of_ble_eq_true rfl)⟩, fun h => absurd h (by decide)⟩, ?_⟩
  refine List.forall_mem_cons.mpr ⟨fun _ => ⟨by decide, by decide +kernel, Or.inl (inT (i := 1432) (by decide +kernel) rfl), fun h => absurd h (by decide), fun _ => ⟨inT (i := 1434) (by decide +kernel) rfl, inS (i := 113) (n := 57) (by decide +kernel), Nat.lt_of_succ_le (Nat.le_of_ble_eq_true rfl)⟩, fun h => absurd h (by decide)⟩, ?_⟩
  refine List.forall_mem_cons.mpr ⟨fun _ => ⟨by decide, by decide +kernel, Or.inl (inT (i := 1436) (by decide +kernel) rfl), fun h => absurd h (by decide), fun _ => ⟨inT (i := 1438) (by decide +kernel) rfl, inS (i := 114) (n := 57) (by decide +kernel), Nat.lt_of_succ_le (Nat.le_of_ble_eq_true rfl)⟩, fun h => absurd h (by decide)⟩, ?_⟩
  refine List.forall_mem_cons.mpr ⟨fun _ => ⟨by decide, by decide +kernel, Or.inl (inT (i := 1524) (by decide +kernel) rfl), fun h => absurd h (by decide), fun _ => ⟨inT (i := 1526) (by decide +kernel) rfl, inS (i := 134) (n := 57) (by decide +kernel), Nat.lt_of_succ_le (Nat.le_of_ble_eq_true rfl)⟩, fun h => absurd h (by decide)⟩, ?_⟩
  refine List.forall_mem_cons.mpr ⟨fun _ => ⟨by decide, by decide +kernel, Or.inl (inT (i := 1424) (by decide +kernel) rfl), fun h => absurd h (by decide), fun _ => ⟨inT (i := 1426) (by decide +kernel) rfl, inS (i := 111) (n := 57) (by decide +kernel), Nat.lt_of_succ_le (Nat.le_of_ble_eq_true rfl)⟩, fun h => absurd h (by decide)⟩, ?_⟩
  refine List.forall_mem_cons.mpr ⟨fun _ => ⟨by decide, by decide +kernel, Or.inl (inT (i := 1428) (by decide +kernel) rfl), fun h => absurd h (by decide), fun _ => ⟨inT (i := 1430) (by decide +kernel) rfl, inS (i := 112) (n := 57) (by decide +kernel), Nat.lt_of_succ_le (Nat.le_of_ble_eq_true rfl)⟩, fun h => absurd h (by decide)⟩, ?_⟩
  refine List.forall_mem_cons.mpr ⟨fun _ => ⟨by decide, by decide +kernel, Or.inl (inT (i := 1537) (by decide +kernel) rfl), fun h => absurd h (by decide), fun _ => ⟨inT (i := 1539) (by decide +kernel) rfl, inS (i := 136) (n := 57) (by decide +kernel), Nat.lt_of_succ_le (Nat.le_of_ble_eq_true rfl)⟩, fun h => absurd h (by decide)⟩, ?_⟩
  refine List.forall_mem_cons.mpr ⟨fun _ => ⟨by decide, by decide +kernel, Or.inl (inT (i := 1553) (by decide +kernel) rfl), fun h => absurd h (by decide), fun _ => ⟨inT (i := 1555) (by decide +kernel) rfl, inS (i := 140) (n := 57) (by decide +kernel), Nat.lt_of_succ_le (Nat.le_of_ble_eq_true rfl)⟩, fun h => absurd h (by decide)⟩, ?_⟩
  refine List.forall_mem_cons.mpr ⟨fun _ => ⟨by decide, by decide +kernel, Or.inl (inT (i := 1585) (by decide +kernel) rfl), fun h => absurd h (by decide), fun _ => ⟨inT (i := 1587) (by decide +kernel) rfl, inS (i := 147) (n := 57) (by decide +kernel), Nat.lt_of_succ_le (Nat.le_of_ble_eq_true rfl)⟩, fun h => absurd h (by decide)⟩, ?_⟩
  refine List.forall_mem_cons.mpr ⟨fun _ => ⟨by decide, by decide +kernel, Or.inl (inT (i := 1549) (by decide +kernel) rfl), fun h => absurd h (by decide), fun _ => ⟨inT (i := 1551) (by decide +kernel) rfl, inS (i := 139) (n := 57) (by decide +kernel), Nat.lt_of_succ_le (Nat.le_of_ble_eq_true rfl)⟩, fun h => absurd h (by decide)⟩, ?_⟩
  refine List.forall_mem_cons.mpr ⟨fun _ => ⟨by decide, by decide +kernel, Or.inl (inT (i := 1557) (by decide +kernel) rfl), fun h => absurd h (by decide), fun _ => ⟨inT (i := 1559) (by decide +kernel) rfl, inS (i := 141) (n := 57) (by decide +kernel), Nat.lt_of_succ_le (Nat.le_of_ble_eq_true rfl)⟩, fun h => absurd h (by decide)⟩, ?_⟩
  refine List.forall_mem_cons.mpr ⟨fun _ => ⟨by decide, by decide +kernel, Or.inl (inT (i := 1565) (by decide +kernel) rfl), fun h => absurd h (by decide), fun _ => ⟨inT (i := 1567) (by decide +kernel) rfl, inS (i := 143) (n := 57) (by decide +kernel), Nat.lt_of_succ_le (Nat.le_of_ble_eq_true rfl)⟩, fun h => absurd h (by decide)⟩, ?_⟩
  refine List.forall_mem_cons.mpr ⟨fun _ => ⟨by decide, by decide +kernel, Or.inl (inT (i := 1545) (by decide +kernel) rfl), fun h => absurd h (by decide), fun _ => ⟨inT (i := 1547) (by decide +kernel) rfl, inS (i := 138) (n := 57) (by decide +kernel), Nat.lt_of_succ_le (Nat.le_of_ble_eq_true rfl)⟩, fun h => absurd h (by decide)⟩, ?_⟩
  refine List.forall_mem_cons.mpr ⟨fun _ => ⟨by decide, by decide +kernel, Or.inl (inT (i := 1561) (by decide +kernel) rfl), fun h => absurd h (by decide), fun _ => ⟨inT (i := 1563) (by decide +kernel) rfl, inS (i := 142) (n := 57) (by decide +kernel), Nat.lt_of_succ_le (Nat.le_of_ble_eq_true rfl)⟩, fun h => absurd h (by decide)⟩, ?_⟩
  refine List.forall_mem_cons.mpr ⟨fun _ => ⟨by decide, by decide +kernel, Or.inl (inT (i := 1569) (by decide +kernel) rfl), fun h => absurd h (by decide), fun _ => ⟨inT (i := 1571) (by decide +kernel) rfl, inS (i := 144) (n := 57) (by decide +kernel), Nat.lt_of_succ_le (Nat.le_of_ble_eq_true rfl)⟩, fun h => absurd h (by decide)⟩, ?_⟩
  refine List.forall_mem_cons.mpr ⟨fun _ => ⟨by decide, by decide +kernel, Or.inl (inT (i := 1532) (by decide +kernel) rfl), fun h => absurd h (by decide), fun _ => ⟨inT (i := 1534) (by decide +kernel) rfl, inS (i := 135) (n := 57) (by decide +kernel), Nat.lt_of_succ_le (Nat.le_of_ble_eq_true rfl)⟩, fun h => absurd h (by decide)⟩, ?_⟩
  refine List.forall_mem_cons.mpr ⟨fun _ => ⟨by decide, by decide +kernel, Or.inl (inT (i := 1541) (by decide +kernel) rfl), fun h => absurd h (by decide), fun _ => ⟨inT (i := 1543) (by decide +kernel) rfl, inS (i := 137) (n := 57) (by decide +kernel), Nat.lt_of_succ_le (Nat.le_of_ble_eq_true rfl)⟩, fun h => absurd h (by decide)⟩, ?_⟩
  refine List.forall_mem_cons.mpr ⟨fun _ => ⟨by decide, by decide +kernel, Or.inl (inT (i := 1581) (by decide +kernel) rfl), fun h => absurd h (by decide), fun _ => ⟨inT (i := 1583) (by decide +kernel) rfl, inS (i := 146) (n := 57) (by decide +kernel), Nat.lt_of_succ_le (Nat.le_of_ble_eq_true rfl)⟩, fun h => absurd h (by decide)⟩, ?_⟩
  refine List.forall_mem_cons.mpr ⟨fun _ => ⟨by decide, by decide +kernel, Or.inl (inT (i := 1577) (by decide +kernel) rfl), fun h => absurd h (by decide), fun _ => ⟨inT (i := 1579) (by decide +kernel) rfl, inS (i := 145) (n := 57) (by decide +kernel), Nat.lt_of_succ_le (Nat.le_of_ble_eq_true rfl)⟩, fun h => absurd h (by decide)⟩, ?_⟩
  refine List.forall_mem_cons.mpr ⟨fun _ => ⟨by decide, by decide +kernel, Or.inl (inT (i := 1597) (by decide +kernel) rfl), fun _ => inT (i := 1598) (by decide +kernel) rfl, fun h => absurd h (by decide), fun h => absurd h (by decide)⟩, ?_⟩
  refine List.forall_mem_cons.mpr ⟨fun _ => ⟨by decide, by decide +kernel, Or.inl (inT (i := 1600) (by decide +kernel) rfl), fun h => absurd h (by decide), fun _ => ⟨inT (i := 1602) (by decide +kernel) rfl, inS (i := 149) (n := 57) (by decide +kernel), Nat.lt_of_succ_le (Nat.le_of_ble_eq_true rfl)⟩, fun h => absurd h (by decide)⟩, ?_⟩
  refine List.forall_mem_cons.mpr ⟨fun _ => ⟨by decide, by decide +kernel, Or.inl (inT (i := 1593) (by decide +kernel) rfl), fun h => absurd h (by decide), fun _ => ⟨inT (i := 1595) (by decide +kernel) rfl, inS (i := 148) (n := 57) (by decide +kernel), Nat.lt_of_succ_le (Nat.le_of_ble_eq_true rfl)⟩, fun h => absurd h (by decide)⟩, ?_⟩
  refine List.forall_mem_cons.mpr ⟨fun _ => ⟨by decide, by decide +kernel, Or.inl (inT (i := 1608) (by decide +kernel) rfl), fun h => absurd h (by decide), fun _ => ⟨inT (i := 1610) (by decide +kernel) rfl, inS (i := 150) (n := 57) (by decide +kernel), Nat.lt_of_succ_le (Nat.le_of_ble_eq_true rfl)⟩, fun h => absurd h (by decide)⟩, ?_⟩
  refine List.forall_mem_cons.mpr ⟨fun _ => ⟨by decide, by decide +kernel, Or.inl (inT (i := 1616) (by decide +kernel) rfl), fun h => absurd h (by decide), fun _ => ⟨inT (i := 1618) (by decide +kernel) rfl, inS (i := 151) (n := 57) (by decide +kernel), Nat.lt_of_succ_le (Nat.le_of_ble_eq_true rfl)⟩, fun h => absurd h (by decide)⟩, ?_⟩
  refine List.forall_mem_cons.mpr ⟨fun _ => ⟨by decide, by decide +kernel, Or.inl (inT (i := 1628) (by decide +kernel) rfl), fun h => absurd h (by decide), fun _ => ⟨inT (i := 1630) (by decide +kernel) rfl, inS (i := 152) (n := 57) (by decide +kernel), Nat.lt_of_succ_le (Nat.le_of_ble_eq_true rfl)⟩, fun h => absurd h (by decide)⟩, ?_⟩
  refine List.forall_mem_cons.mpr ⟨fun _ => ⟨by decide, by decide +kernel, Or.inl (inT (i := 1660) (by decide +kernel) rfl), fun h => absurd h (by decide), fun _ => ⟨inT (i := 1662) (by decide +kernel) rfl, inS (i := 153) (n := 57) (by decide +kernel), Nat.lt_of_succ_le (Nat.le_of_ble_eq_true rfl)⟩, fun h => absurd h (by decide)⟩, ?_⟩
  refine List.forall_mem_cons.mpr ⟨fun _ => ⟨by decide, by decide +kernel, Or.inl (inT (i := 1672) (by decide +kernel) rfl), fun h => absurd h (by decide), fun _ => ⟨inT (i := 1674) (by decide +kernel) rfl, inS (i := 154) (n := 57) (by decide +kernel), Nat.lt_of_succ_le (Nat.le_of_ble_eq_true rfl)⟩, fun h => absurd h (by decide)⟩, ?_⟩
  refine List.forall_mem_cons.mpr ⟨fun _ => ⟨by decide, by decide +kernel, Or.inl (inT (i := 1680) (by decide +kernel) rfl), fun h => absurd h (by decide), fun _ => ⟨inT (i := 1682) (by decide +kernel) rfl, inS (i := 155) (n := 57) (by decide +kernel), Nat.lt_of_succ_le (Nat.le_of_ble_eq_true rfl)⟩, fun h => absurd h (by decide)⟩, ?_⟩
  refine List.forall_mem_cons.mpr ⟨fun _ => ⟨by decide, by decide +kernel, Or.inl (inT (i := 1689) (by decide +kernel) rfl), fun h => absurd h (by decide), fun _ => ⟨inT (i := 1691) (by decide +kernel) rfl, inS (i := 156) (n := 57) (by decide +kernel), Nat.lt_of_succ_le (Nat.le_of_ble_eq_true rfl)⟩, fun h => absurd h (by decide)⟩, ?_⟩
  refine List.forall_mem_cons.mpr ⟨fun _ => ⟨by decide, by decide +kernel, Or.inl (inT (i := 1711) (by decide +kernel) rfl), fun h => absurd h (by decide), fun _ => ⟨inT (i := 1713) (by decide +kernel) rfl, inS (i := 158) (n := 57) (by decide +kernel), Nat.lt_of_succ_le (Nat.le_of_ble_eq_true rfl)⟩, fun h => absurd h (by decide)⟩, ?_⟩
  refine List.forall_mem_cons.mpr ⟨fun _ => ⟨by decide, by decide +kernel, Or.inl (inT (i := 1716) (by decide +kernel) rfl), fun h => absurd h (by decide), fun _ => ⟨inT (i := 1718) (by decide +kernel) rfl, inS (i := 159) (n := 57) (by decide +kernel), Nat.lt_of_succ_le (Nat.le_of_ble_eq_true rfl)⟩, fun h => absurd h (by decide)⟩, ?_⟩
  refine List.forall_mem_cons.mpr ⟨fun _ => ⟨by decide, by decide +kernel, Or.inl (inT (i := 1738) (by decide +kernel) rfl), fun h => absurd h (by decide), fun _ => ⟨inT (i := 1740) (by decide +kernel) rfl, inS (i := 164) (n := 57) (by decide +kernel), Nat.lt_of_succ_le (Nat.le_of_ble_eq_true rfl)⟩, fun h => absurd h (by decide)⟩, ?_⟩
  refine List.forall_mem_cons.mpr ⟨fun _ => ⟨by decide, by decide +kernel, Or.inl (inT (i := 1743) (by decide +kernel) rfl), fun h => absurd h (by decide), fun _ => ⟨inT (i := 1745) (by decide +kernel) rfl, inS (i := 165) (n := 57) (by decide +kernel), Nat.lt_of_succ_le (Nat.le_of_ble_eq_true rfl)⟩, fun h => absurd h (by decide)⟩, ?_⟩
  refine List.forall_mem_cons.mpr ⟨fun _ => ⟨by decide, by decide +kernel, Or.inl (inT (i := 1726) (by decide +kernel) rfl), fun h => absurd h (by decide), fun _ => ⟨inT (i := 1728) (by decide +kernel) rfl, inS (i := 161) (n := 57) (by decide +kernel), Nat.lt_of_succ_le (Nat.le_of_ble_eq_true rfl)⟩, fun h => absurd h (by decide)⟩, ?_⟩
  refine List.forall_mem_cons.mpr ⟨fun _ => ⟨by decide, by decide +kernel, Or.inl (inT (i := 1730) (by decide +kernel) rfl), fun h => absurd h (by decide), fun _ => ⟨inT (i := 1732) (by decide +kernel) rfl, inS (i := 162) (n := 57) (by decide +kernel), Nat.lt_of_succ_le (Nat.le_of_ble_eq_true rfl)⟩, fun h => absurd h (by decide)⟩, ?_⟩
  refine List.forall_mem_cons.mpr ⟨fun _ => ⟨by decide, by decide +kernel, Or.inl (inT (i := 1734) (by decide +kernel) rfl), fun h => absurd h (by decide), fun _ => ⟨inT (i := 1736) (by decide +kernel) rfl, inS (i := 163) (n := 57) (by decide +kernel), Nat.lt_of_succ_le (Nat.le_of_ble_eq_true rfl)⟩, fun h => absurd h (by decide)⟩, ?_⟩
  refine List.forall_mem_cons.mpr ⟨fun _ => ⟨by decide, by decide +kernel, Or.inl (inT (i := 1707) (by decide +kernel) rfl), fun h => absurd h (by decide), fun _ => ⟨inT (i := 1709) (by decide +kernel) rfl, inS (i := 157) (n := 57) (by decide +kernel), Nat.lt_of_succ_le (Nat.le_of_ble_eq_true rfl)⟩, fun h => absurd h (by decide)⟩, ?_⟩
  refine List.forall_mem_cons.mpr ⟨fun _ => ⟨by decide, by decide +kernel, Or.inl (inT (i := 1722) (by decide +kernel) rfl), fun h => absurd h (by decide), fun _ => ⟨inT (i := 1724) (by decide +kernel) rfl, inS (i := 160) (n := 57) (by decide +kernel), Nat.lt_of_succ_le (Nat.le_of_ble_eq_true rfl)⟩, fun h => absurd h (by decide)⟩, ?_⟩
  refine List.forall_mem_cons.mpr ⟨fun _ => ⟨by decide, by decide +kernel, Or.inl (inT (i := 1747) (by decide +kernel) rfl), fun h => absurd h (by decide), fun _ => ⟨inT (i := 1749) (by decide +kernel) rfl, inS (i := 166) (n := 57) (by decide +kernel), Nat.lt_of_succ_le (Nat.le_of_ble_eq_true rfl)⟩, fun h => absurd h (by decide)⟩, ?_⟩
  refine List.forall_mem_cons.mpr ⟨fun _ => ⟨by decide, by decide +kernel, Or.inl (inT (i := 1760) (by decide +kernel) rfl), fun h => absurd h (by decide), fun _ => ⟨inT (i := 1762) (by decide +kernel) rfl, inS (i := 167) (n := 57) (by decide +kernel), Nat.lt_of_succ_le (Nat.le_of_ble_eq_true rfl)⟩, fun h => absurd h (by decide)⟩, ?_⟩
  refine List.forall_mem_cons.mpr ⟨fun _ => ⟨by decide, by decide +kernel, Or.inl (inT (i := 1767) (by decide +kernel) rfl), fun h => absurd h (by decide), fun _ => ⟨inT (i := 1769) (by decide +kernel) rfl, inS (i := 168) (n := 57) (by decide +kernel), Nat.lt_of_succ_le (Nat.le_of_ble_eq_true rfl)⟩, fun h => absurd h (by decide)⟩, ?_⟩
  refine List.forall_mem_cons.mpr ⟨fun _ => ⟨by decide, by decide +kernel, Or.inl (inT (i := 1779) (by decide +kernel) rfl), fun h => absurd h (by decide), fun _ => ⟨inT (i := 1781) (by decide +kernel) rfl, inS (i := 169) (n := 57) (by decide +kernel), Nat.lt_of_succ_le (Nat.le_of_ble_eq_true rfl)⟩, fun h => absurd h (by decide)⟩, ?_⟩
  refine List.forall_mem_cons.mpr ⟨fun _ => ⟨by decide, by decide +kernel, Or.inl (inT (i := 1783) (by decide +kernel) rfl), fun h => absurd h (by decide), fun _ => ⟨inT (i := 1785) (by decide +kernel) rfl, inS (i := 170) (n := 57) (by decide +kernel), Nat.lt_of_succ_le (Nat.le_of_ble_eq_true rfl)⟩, fun h => absurd h (by decide)⟩, ?_⟩
  exact fun _ h => absurd h List.not_mem_nil
theorem cok_12 : COK 12 := fun k how x na h h0 => lc2_12 _ (lc_12 k _ h) h0
theorem pok_12 : POK 12 := by
  intro k x na h
  have hm := lc_12 k _ h
  simp only [List.mem_cons, List.not_mem_nil, or_false, Prod.mk.injEq] at hm
  rcases hm with ⟨rfl, h0, rfl, rfl⟩ | ⟨rfl, h0, rfl, rfl⟩ | ⟨rfl, h0, rfl, rfl⟩ | ⟨rfl, h0, rfl, rfl⟩ | ⟨rfl, h0, rfl, rfl⟩ | ⟨rfl, h0, rfl, rfl⟩ | ⟨rfl, h0, rfl, rfl⟩ | ⟨rfl, h0, rfl, rfl⟩ | ⟨rfl, h0, rfl, rfl⟩ | ⟨rfl, h0, rfl, rfl⟩ | ⟨rfl, h0, rfl, rfl⟩ | ⟨rfl, h0, rfl, rfl⟩ | ⟨rfl, h0, rfl, rfl⟩ | ⟨rfl, h0, rfl, rfl⟩ | ⟨rfl, h0, rfl, rfl⟩ | ⟨rfl, h0, rfl, rfl⟩ | ⟨rfl, h0, rfl, rfl⟩ | ⟨rfl, h0, rfl, rfl⟩ | ⟨rfl, h0, rfl, rfl⟩ | ⟨rfl, h0, rfl, rfl⟩ | ⟨rfl, h0, rfl, rfl⟩ | ⟨rfl, h0, rfl, rfl⟩ | ⟨rfl, h0, rfl, rfl⟩ | ⟨rfl, h0, rfl, rfl⟩ | ⟨rfl, h0, rfl, rfl⟩ | ⟨rfl, h0, rfl, rfl⟩ | ⟨rfl, h0, rfl, rfl⟩ | ⟨rfl, h0, rfl, rfl⟩ | ⟨rfl, h0, rfl, rfl⟩ | ⟨rfl, h0, rfl, rfl⟩ | ⟨rfl, h0, rfl, rfl⟩ | ⟨rfl, h0, rfl, rfl⟩ | ⟨rfl, h0, rfl, rfl⟩ | ⟨rfl, h0, rfl, rfl⟩ | ⟨rfl, h0, rfl, rfl⟩ | ⟨rfl, h0, rfl, rfl⟩ | ⟨rfl, h0, rfl, rfl⟩ | ⟨rfl, h0, rfl, rfl⟩ | ⟨rfl, h0, rfl, rfl⟩ | ⟨rfl, h0, rfl, rfl⟩ | ⟨rfl, h0, rfl, rfl⟩ | ⟨rfl, h0, rfl, rfl⟩ | ⟨rfl, h0, rfl, rfl⟩ | ⟨rfl, h0, rfl, rfl⟩ | ⟨rfl, h0, rfl, rfl⟩ | ⟨rfl, h0, rfl, rfl⟩ | ⟨rfl, h0, rfl, rfl⟩ | ⟨rfl, h0, rfl, rfl⟩ | ⟨rfl, h0, rfl, rfl⟩ | ⟨rfl, h0, rfl, rfl⟩ | ⟨rfl, h0, rfl, rfl⟩ | ⟨rfl, h0, rfl, rfl⟩ | ⟨rfl, h0, rfl, rfl⟩ | ⟨rfl, h0, rfl, rfl⟩ | ⟨rfl, h0, rfl, rfl⟩ | ⟨rfl, h0, rfl, rfl⟩ | ⟨rfl, h0, rfl, rfl⟩ | ⟨rfl, h0, rfl, rfl⟩ | ⟨rfl, h0, rfl, rfl⟩ | ⟨rfl, h0, rfl, rfl⟩ | ⟨rfl, h0, rfl, rfl⟩ | ⟨rfl, h0, rfl, rfl⟩ | ⟨rfl, h0, rfl, rfl⟩ | ⟨rfl, h0, rfl, rfl⟩ | ⟨rfl, h0, rfl, rfl⟩ | ⟨rfl, h0, rfl, rfl⟩ | ⟨rfl, h0, rfl, rfl⟩ | ⟨rfl, h0, rfl, rfl⟩ | ⟨rfl, h0, rfl, rfl⟩ | ⟨rfl, h0, rfl, rfl⟩ | ⟨rfl, h0, rfl, rfl⟩ | ⟨rfl, h0, rfl, rfl⟩ | ⟨rfl, h0, rfl, rfl⟩ | ⟨rfl, h0, rfl, rfl⟩ | ⟨rfl, h0, rfl, rfl⟩ | ⟨rfl, h0, rfl, rfl⟩ | ⟨rfl, h0, rfl, rfl⟩ | ⟨rfl, h0, rfl, rfl⟩ | ⟨rfl, h0, rfl, rfl⟩ | ⟨rfl, h0, rfl, rfl⟩ | ⟨rfl, h0, rfl, rfl⟩ | ⟨rfl, h0, rfl, rfl⟩ | ⟨rfl, h0, rfl, rfl⟩ | ⟨rfl, h0, rfl, rfl⟩ | ⟨rfl, h0, rfl, rfl⟩ | ⟨rfl, h0, rfl, rfl⟩ | ⟨rfl, h0, rfl, rfl⟩ | ⟨rfl, h0, rfl, rfl⟩ | ⟨rfl, h0, rfl, rfl⟩ | ⟨rfl, h0, rfl, rfl⟩ | ⟨rfl, h0, rfl, rfl⟩ | ⟨rfl, h0, rfl, rfl⟩ | ⟨rfl, h0, rfl, rfl⟩ | ⟨rfl, h0, rfl, rfl⟩ | ⟨rfl, h0, rfl, rfl⟩ | ⟨rfl, h0, rfl, rfl⟩ | ⟨rfl, h0, rfl, rfl⟩
  · exact ⟨inT (i := 1048) (by decide +kernel) rfl, inT (i := 28) (by decide +kernel) rfl, inT (i := 29) (by decide +kernel) rfl⟩
  · exact absurd h0 (by decide)
  · exact absurd h0 (by decide)
  · exact absurd h0 (by decide)
  · exact absurd h0 (by decide)
  · exact absurd h0 (by decide)
  · exact absurd h0 (by decide)
  · exact absurd h0 (by decide)
  · exact absurd h0 (by decide)
  · exact absurd h0 (by decide)
  · exact absurd h0 (by decide)
  · exact absurd h0 (by decide)
  · exact absurd h0 (by decide)
  · exact absurd h0 (by decide)
  · exact absurd h0 (by decide)
  · exact absurd h0 (by decide)
  · exact absurd h0 (by decide)
  · exact absurd h0 (by decide)
  · exact absurd h0 (by decide)
  · exact absurd h0 (by decide)
  · exact absurd h0 (by decide)
  · exact absurd h0 (by decide)
  · exact absurd h0 (by decide)
  · exact absurd h0 (by decide)
  · exact absurd h0 (by decide)
  · exact absurd h0 (by decide)
  · exact absurd h0 (by decide)
  · exact absurd h0 (by decide)
  · exact absurd h0 (by decide)
  · exact absurd h0 (by decide)
  · exact absurd h0 (by decide)
  · exact absurd h0 (by decide)
  · exact absurd h0 (by decide)
  · exact absurd h0 (by decide)
  · exact absurd h0 (by decide)
  · exact absurd h0 (by decide)
  · exact absurd h0 (by decide)
  · exact absurd h0 (by decide)
  · exact absurd h0 (by decide)
  · exact absurd h0 (by decide)
  · exact absurd h0 (by decide)
  · exact absurd h0 (by decide)
  · exact absurd h0 (by decide)
  · exact absurd h0 (by decide)
  · exact absurd h0 (by decide)
  · exact absurd h0 (by decide)
  · exact absurd h0 (by decide)
  · exact absurd h0 (by decide)
  · exact absurd h0 (by decide)
  · exact absurd h0 (by decide)
  · exact absurd h0 (by decide)
  · exact absurd h0 (by decide)
  · exact absurd h0 (by decide)
  · exact absurd h0 (by decide)
  · exact absurd h0 (by decide)
  · exact absurd h0 (by decide)
  · exact absurd h0 (by decide)
  · exact absurd h0 (by decide)
  · exact absurd h0 (by decide)
  · exact absurd h0 (by decide)
  · exact absurd h0 (by decide)
  · exact absurd h0 (by decide)
  · exact absurd h0 (by decide)
  · exact absurd h0 (by decide)
  · exact absurd h0 (by decide)
  · exact absurd h0 (by decide)
  · exact absurd h0 (by decide)
  · exact absurd h0 (by decide)
  · exact absurd h0 (by decide)
  · exact absurd h0 (by decide)
  · exact absurd h0 (by decide)
  · exact absurd h0 (by decide)
  · exact absurd h0 (by decide)
  · exact absurd h0 (by decide)
  · exact absurd h0 (by decide)
  · exact absurd h0 (by decide)
  · exact absurd h0 (by decide)
  · exact absurd h0 (by decide)
  · exact absurd h0 (by decide)
  · exact absurd h0 (by decide)
  · exact absurd h0 (by decide)
  · exact absurd h0 (by decide)
  · exact absurd h0 (by decide)
  · exact absurd h0 (by decide)
  · exact absurd h0 (by decide)
  · exact absurd h0 (by decide)
  · exact absurd h0 (by decide)
  · exact absurd h0 (by decide)
  · exact absurd h0 (by decide)
  · exact absurd h0 (by decide)
  · exact absurd h0 (by decide)
  · exact absurd h0 (by decide)
  · exact absurd h0 (by decide)
  · exact absurd h0 (by decide)
  · exact absurd h0 (by decide)
  · exact absurd h0 (by decide)
  · exact absurd h0 (by decide)
theorem ln_12 : ∀ k v, lkN12 k = some v → (k, v) ∈ ([] : List (Nat × Nat)) := ent (by decide +kernel) (fun k h => nn h)
theorem ln2_12 : ∀ e ∈ ([] : List (Nat × Nat)), (e.2 < 13 ∧ Cond.classLink (ownZ 12) e.1 (clC e.2) ∈ TsZ) ∨ (e.2 = 99 ∧ Cond.classLink (ownZ 12) e.1 "[I" ∈ TsZ) := by
  exact fun _ h => absurd h List.not_mem_nil
theorem lI_12 : ∀ k v, lkI12 k = some v → (k, v) ∈ ([] : List (Nat × Int32)) := ent (by decide +kernel) (fun k h => nn h)
theorem lI2_12 : ∀ e ∈ ([] : List (Nat × Int32)), Cond.constant (ownZ 12) e.1 e.2 ∈ TsZ := by
  exact fun _ h => absurd h List.not_mem_nil
theorem lL_12 : ∀ k v, lkL12 k = some v → (k, v) ∈ ([(57, 525541), (59, 632645), (61, 215205), (63, 20332179), (65, 17800013413), (67, 664997), (69, 441828), (75, 146885), (77, 404362868), (79, 403141), (84, 407951539), (86, 67155), (118, 17076), (120, 248311), (122, 150000), (124, 525419), (126, 431556), (164, 999), (166, 10), (168, 9), (207, 32), (209, 96), (211, -1), (213, 1000000), (215, 48), (234, 20), (236, 24), (238, 25), (240, 27), (271, 1000), (277, 7), (283, 14836), (298, 1476), (300, 498), (321, 294), (348, -1000000000), (350, 1000000000), (437, 127), (500, 3), (502, 2), (504, 15), (506, 40), (517, 200), (522, 99), (524, 1000000000000), (529, 486), (535, 655), (537, 21279923), (542, 255), (578, 1103), (580, 12345), (582, 1000003), (584, 60), (601, 13)] : List (Nat × Int64)) := ent (by decide +kernel) (fun k h => nn h)
theorem lL2_12 : ∀ e ∈ ([(57, 525541), (59, 632645), (61, 215205), (63, 20332179), (65, 17800013413), (67, 664997), (69, 441828), (75, 146885), (77, 404362868), (79, 403141), (84, 407951539), (86, 67155), (118, 17076), (120, 248311), (122, 150000), (124, 525419), (126, 431556), (164, 999), (166, 10), (168, 9), (207, 32), (209, 96), (211, -1), (213, 1000000), (215, 48), (234, 20), (236, 24), (238, 25), (240, 27), (271, 1000), (277, 7), (283, 14836), (298, 1476), (300, 498), (321, 294), (348, -1000000000), (350, 1000000000), (437, 127), (500, 3), (502, 2), (504, 15), (506, 40), (517, 200), (522, 99), (524, 1000000000000), (529, 486), (535, 655), (537, 21279923), (542, 255), (578, 1103), (580, 12345), (582, 1000003), (584, 60), (601, 13)] : List (Nat × Int64)), Cond.constantLong (ownZ 12) e.1 e.2 ∈ TsZ := by
  refine List.forall_mem_cons.mpr ⟨inT (i := 1049) (by decide +kernel) rfl, ?_⟩
  refine List.forall_mem_cons.mpr ⟨inT (i := 1050) (by decide +kernel) rfl, ?_⟩
  refine List.forall_mem_cons.mpr ⟨inT (i := 1051) (by decide +kernel) rfl, ?_⟩
  refine List.forall_mem_cons.mpr ⟨inT (i := 1052) (by decide +kernel) rfl, ?_⟩
  refine List.forall_mem_cons.mpr ⟨inT (i := 1053) (by decide +kernel) rfl, ?_⟩
  refine List.forall_mem_cons.mpr ⟨inT (i := 1054) (by decide +kernel) rfl, ?_⟩
  refine List.forall_mem_cons.mpr ⟨inT (i := 1055) (by decide +kernel) rfl, ?_⟩
  refine List.forall_mem_cons.mpr ⟨inT (i := 1056) (by decide +kernel) rfl, ?_⟩
  refine List.forall_mem_cons.mpr ⟨inT (i := 1057) (by decide +kernel) rfl, ?_⟩
  refine List.forall_mem_cons.mpr ⟨inT (i := 1058) (by decide +kernel) rfl, ?_⟩
  refine List.forall_mem_cons.mpr ⟨inT (i := 1059) (by decide +kernel) rfl, ?_⟩
  refine List.forall_mem_cons.mpr ⟨inT (i := 1060) (by decide +kernel) rfl, ?_⟩
  refine List.forall_mem_cons.mpr ⟨inT (i := 1061) (by decide +kernel) rfl, ?_⟩
  refine List.forall_mem_cons.mpr ⟨inT (i := 1062) (by decide +kernel) rfl, ?_⟩
  refine List.forall_mem_cons.mpr ⟨inT (i := 1063) (by decide +kernel) rfl, ?_⟩
  refine List.forall_mem_cons.mpr ⟨inT (i := 1064) (by decide +kernel) rfl, ?_⟩
  refine List.forall_mem_cons.mpr ⟨inT (i := 1065) (by decide +kernel) rfl, ?_⟩
  refine List.forall_mem_cons.mpr ⟨inT (i := 1269) (by decide +kernel) rfl, ?_⟩
  refine List.forall_mem_cons.mpr ⟨inT (i := 1270) (by decide +kernel) rfl, ?_⟩
  refine List.forall_mem_cons.mpr ⟨inT (i := 1271) (by decide +kernel) rfl, ?_⟩
  refine List.forall_mem_cons.mpr ⟨inT (i := 1314) (by decide +kernel) rfl, ?_⟩
  refine List.forall_mem_cons.mpr ⟨inT (i := 1315) (by decide +kernel) rfl, ?_⟩
  refine List.forall_mem_cons.mpr ⟨inT (i := 1316) (by decide +kernel) rfl, ?_⟩
  refine List.forall_mem_cons.mpr ⟨inT (i := 1317) (by decide +kernel) rfl, ?_⟩
  refine List.forall_mem_cons.mpr ⟨inT (i := 1318) (by decide +kernel) rfl, ?_⟩
  refine List.forall_mem_cons.mpr ⟨inT (i := 1397) (by decide +kernel) rfl, ?_⟩
  refine List.forall_mem_cons.mpr ⟨inT (i := 1398) (by decide +kernel) rfl, ?_⟩
  refine List.forall_mem_cons.mpr ⟨inT (i := 1399) (by decide +kernel) rfl, ?_⟩
  refine List.forall_mem_cons.mpr ⟨inT (i := 1400) (by decide +kernel) rfl, ?_⟩
  refine List.forall_mem_cons.mpr ⟨inT (i := 1364) (by decide +kernel) rfl, ?_⟩
  refine List.forall_mem_cons.mpr ⟨inT (i := 1373) (by decide +kernel) rfl, ?_⟩
  refine List.forall_mem_cons.mpr ⟨inT (i := 1339) (by decide +kernel) rfl, ?_⟩
  refine List.forall_mem_cons.mpr ⟨inT (i := 1405) (by decide +kernel) rfl, ?_⟩
  refine List.forall_mem_cons.mpr ⟨inT (i := 1406) (by decide +kernel) rfl, ?_⟩
  refine List.forall_mem_cons.mpr ⟨inT (i := 1407) (by decide +kernel) rfl, ?_⟩
  refine List.forall_mem_cons.mpr ⟨inT (i := 1483) (by decide +kernel) rfl, ?_⟩
  refine List.forall_mem_cons.mpr ⟨inT (i := 1484) (by decide +kernel) rfl, ?_⟩
  refine List.forall_mem_cons.mpr ⟨inT (i := 1536) (by decide +kernel) rfl, ?_⟩
  refine List.forall_mem_cons.mpr ⟨inT (i := 1636) (by decide +kernel) rfl, ?_⟩
  refine List.forall_mem_cons.mpr ⟨inT (i := 1637) (by decide +kernel) rfl, ?_⟩
  refine List.forall_mem_cons.mpr ⟨inT (i := 1642) (by decide +kernel) rfl, ?_⟩
  refine List.forall_mem_cons.mpr ⟨inT (i := 1647) (by decide +kernel) rfl, ?_⟩
  refine List.forall_mem_cons.mpr ⟨inT (i := 1688) (by decide +kernel) rfl, ?_⟩
  refine List.forall_mem_cons.mpr ⟨inT (i := 1701) (by decide +kernel) rfl, ?_⟩
  refine List.forall_mem_cons.mpr ⟨inT (i := 1702) (by decide +kernel) rfl, ?_⟩
  refine List.forall_mem_cons.mpr ⟨inT (i := 1715) (by decide +kernel) rfl, ?_⟩
  refine List.forall_mem_cons.mpr ⟨inT (i := 1720) (by decide +kernel) rfl, ?_⟩
  refine List.forall_mem_cons.mpr ⟨inT (i := 1721) (by decide +kernel) rfl, ?_⟩
  refine List.forall_mem_cons.mpr ⟨inT (i := 1742) (by decide +kernel) rfl, ?_⟩
  refine List.forall_mem_cons.mpr ⟨inT (i := 1764) (by decide +kernel) rfl, ?_⟩
  refine List.forall_mem_cons.mpr ⟨inT (i := 1765) (by decide +kernel) rfl, ?_⟩
  refine List.forall_mem_cons.mpr ⟨inT (i := 1766) (by decide +kernel) rfl, ?_⟩
  refine List.forall_mem_cons.mpr ⟨inT (i := 1759) (by decide +kernel) rfl, ?_⟩
  refine List.forall_mem_cons.mpr ⟨inT (i := 1787) (by decide +kernel) rfl, ?_⟩
  exact fun _ h => absurd h List.not_mem_nil
theorem lS_12 : ∀ k v, lkS12 k = some v → (k, v) ∈ ([] : List (Nat × Nat)) := ent (by decide +kernel) (fun k h => nn h)
theorem lS2_12 : ∀ e ∈ ([] : List (Nat × Nat)), e.2 < 18 ∧ ownZ 12 = "RecordHeap$Reader" ∧ e.1 = siZ.getD e.2 0 := by
  exact fun _ h => absurd h List.not_mem_nil
theorem l9_12 : ∀ k x, lkF12 k = some x → x.2.2 = 9 → Cond.fieldLink (ownZ 12) k "RecordHeap" "TERM_MOST" "[I" ∈ TsZ := by
  intro k x h h9
  have hm := lf_12 k x h
  rcases List.mem_cons.mp hm with hm | hm
  · cases hm; exact absurd h9 (by decide)
  rcases List.mem_cons.mp hm with hm | hm
  · cases hm; exact absurd h9 (by decide)
  rcases List.mem_cons.mp hm with hm | hm
  · cases hm; exact absurd h9 (by decide)
  rcases List.mem_cons.mp hm with hm | hm
  · cases hm; exact absurd h9 (by decide)
  rcases List.mem_cons.mp hm with hm | hm
  · cases hm; exact absurd h9 (by decide)
  rcases List.mem_cons.mp hm with hm | hm
  · cases hm; exact absurd h9 (by decide)
  rcases List.mem_cons.mp hm with hm | hm
  · cases hm; exact absurd h9 (by decide)
  rcases List.mem_cons.mp hm with hm | hm
  · cases hm; exact absurd h9 (by decide)
  rcases List.mem_cons.mp hm with hm | hm
  · cases hm; exact absurd h9 (by decide)
  rcases List.mem_cons.mp hm with hm | hm
  · cases hm; exact absurd h9 (by decide)
  rcases List.mem_cons.mp hm with hm | hm
  · cases hm; exact absurd h9 (by decide)
  rcases List.mem_cons.mp hm with hm | hm
  · cases hm; exact absurd h9 (by decide)
  rcases List.mem_cons.mp hm with hm | hm
  · cases hm; exact absurd h9 (by decide)
  rcases List.mem_cons.mp hm with hm | hm
  · cases hm; exact absurd h9 (by decide)
  rcases List.mem_cons.mp hm with hm | hm
  · cases hm; exact absurd h9 (by decide)
  rcases List.mem_cons.mp hm with hm | hm
  · cases hm; exact absurd h9 (by decide)
  rcases List.mem_cons.mp hm with hm | hm
  · cases hm; exact absurd h9 (by decide)
  rcases List.mem_cons.mp hm with hm | hm
  · cases hm; exact absurd h9 (by decide)
  rcases List.mem_cons.mp hm with hm | hm
  · cases hm; exact absurd h9 (by decide)
  rcases List.mem_cons.mp hm with hm | hm
  · cases hm; exact absurd h9 (by decide)
  rcases List.mem_cons.mp hm with hm | hm
  · cases hm; exact absurd h9 (by decide)
  rcases List.mem_cons.mp hm with hm | hm
  · cases hm; exact absurd h9 (by decide)
  rcases List.mem_cons.mp hm with hm | hm
  · cases hm; exact absurd h9 (by decide)
  rcases List.mem_cons.mp hm with hm | hm
  · cases hm; exact absurd h9 (by decide)
  rcases List.mem_cons.mp hm with hm | hm
  · cases hm; exact absurd h9 (by decide)
  rcases List.mem_cons.mp hm with hm | hm
  · cases hm; exact absurd h9 (by decide)
  rcases List.mem_cons.mp hm with hm | hm
  · cases hm; exact absurd h9 (by decide)
  rcases List.mem_cons.mp hm with hm | hm
  · cases hm; exact absurd h9 (by decide)
  rcases List.mem_cons.mp hm with hm | hm
  · cases hm; exact absurd h9 (by decide)
  rcases List.mem_cons.mp hm with hm | hm
  · cases hm; exact absurd h9 (by decide)
  rcases List.mem_cons.mp hm with hm | hm
  · cases hm; exact absurd h9 (by decide)
  rcases List.mem_cons.mp hm with hm | hm
  · cases hm; exact absurd h9 (by decide)
  rcases List.mem_cons.mp hm with hm | hm
  · cases hm; exact absurd h9 (by decide)
  rcases List.mem_cons.mp hm with hm | hm
  · cases hm; exact absurd h9 (by decide)
  rcases List.mem_cons.mp hm with hm | hm
  · cases hm; exact absurd h9 (by decide)
  rcases List.mem_cons.mp hm with hm | hm
  · cases hm; exact absurd h9 (by decide)
  rcases List.mem_cons.mp hm with hm | hm
  · cases hm; exact absurd h9 (by decide)
  rcases List.mem_cons.mp hm with hm | hm
  · cases hm; exact absurd h9 (by decide)
  rcases List.mem_cons.mp hm with hm | hm
  · cases hm; exact absurd h9 (by decide)
  rcases List.mem_cons.mp hm with hm | hm
  · cases hm; exact absurd h9 (by decide)
  rcases List.mem_cons.mp hm with hm | hm
  · cases hm; exact absurd h9 (by decide)
  rcases List.mem_cons.mp hm with hm | hm
  · cases hm; exact absurd h9 (by decide)
  rcases List.mem_cons.mp hm with hm | hm
  · cases hm; exact absurd h9 (by decide)
  rcases List.mem_cons.mp hm with hm | hm
  · cases hm; exact absurd h9 (by decide)
  rcases List.mem_cons.mp hm with hm | hm
  · cases hm; exact absurd h9 (by decide)
  rcases List.mem_cons.mp hm with hm | hm
  · cases hm; exact absurd h9 (by decide)
  rcases List.mem_cons.mp hm with hm | hm
  · cases hm; exact absurd h9 (by decide)
  rcases List.mem_cons.mp hm with hm | hm
  · cases hm; exact absurd h9 (by decide)
  rcases List.mem_cons.mp hm with hm | hm
  · cases hm; exact absurd h9 (by decide)
  rcases List.mem_cons.mp hm with hm | hm
  · cases hm; exact absurd h9 (by decide)
  rcases List.mem_cons.mp hm with hm | hm
  · cases hm; exact absurd h9 (by decide)
  rcases List.mem_cons.mp hm with hm | hm
  · cases hm; exact absurd h9 (by decide)
  rcases List.mem_cons.mp hm with hm | hm
  · cases hm; exact absurd h9 (by decide)
  rcases List.mem_cons.mp hm with hm | hm
  · cases hm; exact absurd h9 (by decide)
  rcases List.mem_cons.mp hm with hm | hm
  · cases hm; exact absurd h9 (by decide)
  rcases List.mem_cons.mp hm with hm | hm
  · cases hm; exact absurd h9 (by decide)
  rcases List.mem_cons.mp hm with hm | hm
  · cases hm; exact absurd h9 (by decide)
  exact absurd hm List.not_mem_nil
theorem lok_12 : LOK 12 := ⟨fun k x h h9 => lf2_12 _ (lf_12 k x h) h9, l9_12, fun k x h => ln2_12 _ (ln_12 k x h), fun k x h => lI2_12 _ (lI_12 k x h), fun k x h => lL2_12 _ (lL_12 k x h), fun k x h => lS2_12 _ (lS_12 k x h)⟩
theorem lf_13 : ∀ k v, lkF13 k = some v → (k, v) ∈ ([] : List (Nat × Nat × Nat × Nat)) := ent (by decide +kernel) (fun k h => nn h)
theorem lf2_13 : ∀ e ∈ ([] : List (Nat × Nat × Nat × Nat)), e.2.2.2 ≠ 9 → e.2.1 < 13 ∧ (fkZ e.2.1)[e.2.2.1]? = some e.2.2.2 ∧ (Cond.fieldLink (ownZ 13) e.1 (clC e.2.1) (clT e.2.1 e.2.2.1).2.1 (clT e.2.1 e.2.2.1).2.2.1 ∈ TsZ ∨ ∃ h, Cond.fieldLinkNest (ownZ 13) e.1 (clC e.2.1) (clT e.2.1 e.2.2.1).2.1 (clT e.2.1 e.2.2.1).2.2.1 h ∈ nestZ ∧ clC e.2.1 ≠ ownZ 13) := by
  exact fun _ h => absurd h List.not_mem_nil
theorem lc_13 : ∀ k v, lkC13 k = some v → (k, v) ∈ ([(9, (3, 0, 0)), (12, (3, 139, 0)), (13, (2, 12, 2)), (17, (2, 147, 2)), (18, (2, 15, 5)), (22, (2, 149, 5)), (23, (2, 18, 1)), (27, (2, 151, 1)), (28, (2, 19, 0)), (32, (2, 153, 0)), (33, (2, 40, 0)), (36, (2, 251, 0)), (37, (2, 87, 0)), (40, (2, 152, 0)), (41, (2, 88, 0)), (44, (2, 262, 0)), (45, (2, 89, 1)), (48, (2, 180, 1)), (49, (2, 90, 0)), (52, (2, 182, 0)), (53, (2, 91, 1)), (56, (2, 209, 1)), (57, (2, 92, 1)), (60, (2, 220, 1)), (61, (2, 94, 1)), (64, (2, 224, 1)), (65, (2, 96, 0)), (68, (2, 228, 0)), (69, (2, 97, 0)), (72, (2, 141, 0)), (73, (2, 99, 1)), (76, (2, 230, 1)), (77, (2, 101, 1)), (80, (2, 232, 1)), (81, (2, 102, 2)), (84, (2, 233, 2)), (85, (2, 104, 3)), (89, (2, 235, 3)), (90, (2, 105, 1)), (93, (2, 236, 1)), (94, (2, 106, 1)), (97, (2, 237, 1)), (98, (2, 108, 1)), (101, (2, 239, 1)), (102, (2, 109, 1)), (105, (2, 240, 1)), (106, (2, 111, 2)), (109, (2, 242, 2)), (110, (2, 113, 1)), (113, (2, 243, 1)), (114, (2, 116, 0)), (117, (2, 245, 0)), (118, (2, 118, 1)), (121, (2, 247, 1)), (122, (2, 119, 1)), (125, (2, 249, 1)), (126, (2, 121, 2)), (130, (2, 250, 2)), (131, (2, 123, 2)), (134, (2, 238, 2)), (135, (2, 124, 2)), (138, (2, 263, 2)), (139, (2, 129, 2)), (142, (2, 266, 2)), (143, (2, 131, 1)), (146, (2, 144, 1)), (147, (2, 134, 1)), (150, (2, 146, 1)), (151, (2, 135, 1)), (154, (2, 267, 1)), (155, (2, 138, 0)), (158, (2, 270, 0))] : List (Nat × Nat × Nat × Nat)) := ent (by decide +kernel) (fun k h => nn h)
theorem lc2_13 : ∀ e ∈ ([(9, (3, 0, 0)), (12, (3, 139, 0)), (13, (2, 12, 2)), (17, (2, 147, 2)), (18, (2, 15, 5)), (22, (2, 149, 5)), (23, (2, 18, 1)), (27, (2, 151, 1)), (28, (2, 19, 0)), (32, (2, 153, 0)), (33, (2, 40, 0)), (36, (2, 251, 0)), (37, (2, 87, 0)), (40, (2, 152, 0)), (41, (2, 88, 0)), (44, (2, 262, 0)), (45, (2, 89, 1)), (48, (2, 180, 1)), (49, (2, 90, 0)), (52, (2, 182, 0)), (53, (2, 91, 1)), (56, (2, 209, 1)), (57, (2, 92, 1)), (60, (2, 220, 1)), (61, (2, 94, 1)), (64, (2, 224, 1)), (65, (2, 96, 0)), (68, (2, 228, 0)), (69, (2, 97, 0)), (72, (2, 141, 0)), (73, (2, 99, 1)), (76, (2, 230, 1)), (77, (2, 101, 1)), (80, (2, 232, 1)), (81, (2, 102, 2)), (84, (2, 233, 2)), (85, (2, 104, 3)), (89, (2, 235, 3)), (90, (2, 105, 1)), (93, (2, 236, 1)), (94, (2, 106, 1)), (97, (2, 237, 1)), (98, (2, 108, 1)), (101, (2, 239, 1)), (102, (2, 109, 1)), (105, (2, 240, 1)), (106, (2, 111, 2)), (109, (2, 242, 2)), (110, (2, 113, 1)), (113, (2, 243, 1)), (114, (2, 116, 0)), (117, (2, 245, 0)), (118, (2, 118, 1)), (121, (2, 247, 1)), (122, (2, 119, 1)), (125, (2, 249, 1)), (126, (2, 121, 2)), (130, (2, 250, 2)), (131, (2, 123, 2)), (134, (2, 238, 2)), (135, (2, 124, 2)), (138, (2, 263, 2)), (139, (2, 129, 2)), (142, (2, 266, 2)), (143, (2, 131, 1)), (146, (2, 144, 1)), (147, (2, 134, 1)), (150, (2, 146, 1)), (151, (2, 135, 1)), (154, (2, 267, 1)), (155, (2, 138, 0)), (158, (2, 270, 0))] : List (Nat × Nat × Nat × Nat)), e.2.1 ≠ 0 → e.2.2.1 < 271 ∧ (parseMethodDescriptor (yZ e.2.2.1).desc).map (fun d => d.parameters.length) = some e.2.2.2 ∧ (Cond.methodLink (ownZ 13) e.1 (yZ e.2.2.1) ∈ TsZ ∨ ∃ h, Cond.methodLinkNest (ownZ 13) e.1 (yZ e.2.2.1) h ∈ nestZ) ∧ (e.2.1 = 1 → Cond.static (yZ e.2.2.1) ∈ TsZ) ∧ (e.2.1 = 2 → Cond.instanceMethod (yZ e.2.2.1) ∈ TsZ ∧ Cond.selects (yZ e.2.2.1).cls (yZ e.2.2.1) (yZ e.2.2.1) ∈ TsZ ∧ (methZ e.2.2.1).2.1 < 13) ∧ (e.2.1 = 3 → Cond.instanceMethod (yZ e.2.2.1) ∈ TsZ ∧ (yZ e.2.2.1).name = "<init>" ∧ rZ e.2.2.1 = none) := by
  refine List.forall_mem_cons.mpr ⟨fun _ => ⟨by decide, by decide +kernel, Or.inl (inT (i := 24) (by decide +kernel) rfl), fun h => absurd h (by decide), fun h => absurd h (by decide), fun _ => ⟨inT (i := 25) (by decide +kernel) rfl, rfl, rfl⟩⟩, ?_⟩
  refine List.forall_mem_cons.mpr ⟨fun _ => ⟨by decide, by decide +kernel, Or.inl (inT (i := 1045) (by decide +kernel) rfl), fun h => absurd h (by decide), fun h => absurd h (by decide), fun _ => ⟨inT (i := 1046) (by decide +kernel) rfl, rfl, rfl⟩⟩, ?_⟩
  refine List.forall_mem_cons.mpr ⟨fun _ => ⟨by decide, by decide +kernel, Or.inl (inT (i := 369) (by decide +kernel) rfl), fun h => absurd h (by decide), fun _ => ⟨inT (i := 370) (by decide +kernel) rfl, inT (i := 371) (by decide +kernel) rfl, Nat.lt_of_succ_le (Nat.le_of_ble_eq_true rfl)⟩, fun h => absurd h (by decide)⟩, ?_⟩
  refine List.forall_mem_cons.mpr ⟨fun _ => ⟨by decide, by decide +kernel, Or.inl (inT (i := 1265) (by decide +kernel) rfl), fun h => absurd h (by decide), fun _ => ⟨inT (i := 1266) (by decide +kernel) rfl, inT (i := 1267) (by decide +kernel) rfl, Nat.lt_of_succ_le (Nat.le_of_ble_eq_true rfl)⟩, fun h => absurd h (by decide)⟩, ?_⟩
  refine List.forall_mem_cons.mpr ⟨fun _ => ⟨by decide, by decide +kernel, Or.inl (inT (i := 383) (by decide +kernel) rfl), fun h => absurd h (by decide), fun _ => ⟨inT (i := 384) (by decide +kernel) rfl, inT (i := 385) (by decide +kernel) rfl, Nat.lt_of_succ_le (Nat.le_of_ble_eq_true rfl)⟩, fun h => absurd h (by decide)⟩, ?_⟩
  refine List.forall_mem_cons.mpr ⟨fun _ => ⟨by decide, by decide +kernel, Or.inl (inT (i := 1276) (by decide +kernel) rfl), fun h => absurd h (by decide), fun _ => ⟨inT (i := 1277) (by decide +kernel) rfl, inT (i := 1278) (by decide +kernel) rfl, Nat.lt_of_succ_le (Nat.le_of_ble_eq_true rfl)⟩, fun h => absurd h (by decide)⟩, ?_⟩
  refine List.forall_mem_cons.mpr ⟨fun _ => ⟨by decide, by decide +kernel, Or.inl (inT (i := 395) (by decide +kernel) rfl), fun h => absurd h (by decide), fun _ => ⟨inT (i := 396) (by decide +kernel) rfl, inT (i := 397) (by decide +kernel) rfl, Nat.lt_of_succ_le (Nat.le_of_ble_eq_true rfl)⟩, fun h => absurd h (by decide)⟩, ?_⟩
  refine List.forall_mem_cons.mpr ⟨fun _ => ⟨by decide, by decide +kernel, Or.inl (inT (i := 1284) (by decide +kernel) rfl), fun h => absurd h (by decide), fun _ => ⟨inT (i := 1285) (by decide +kernel) rfl, inT (i := 1286) (by decide +kernel) rfl, Nat.lt_of_succ_le (Nat.le_of_ble_eq_true rfl)⟩, fun h => absurd h (by decide)⟩, ?_⟩
  refine List.forall_mem_cons.mpr ⟨fun _ => ⟨by decide, by decide +kernel, Or.inl (inT (i := 399) (by decide +kernel) rfl), fun h => absurd h (by decide), fun _ => ⟨inT (i := 400) (by decide +kernel) rfl, inT (i := 401) (by decide +kernel) rfl, Nat.lt_of_succ_le (Nat.le_of_ble_eq_true rfl)⟩, fun h => absurd h (by decide)⟩, ?_⟩
  refine List.forall_mem_cons.mpr ⟨fun _ => ⟨by decide, by decide +kernel, Or.inl (inT (i := 1292) (by decide +kernel) rfl), fun h => absurd h (by decide), fun _ => ⟨inT (i := 1293) (by decide +kernel) rfl, inT (i := 1294) (by decide +kernel) rfl, Nat.lt_of_succ_le (Nat.le_of_ble_eq_true rfl)⟩, fun h => absurd h (by decide)⟩, ?_⟩
  refine List.forall_mem_cons.mpr ⟨fun _ => ⟨by decide, by decide +kernel, Or.inl (inT (i := 565) (by decide +kernel) rfl), fun h => absurd h (by decide), fun _ => ⟨inT (i := 566) (by decide +kernel) rfl, inT (i := 567) (by decide +kernel) rfl, Nat.lt_of_succ_le (Nat.le_of_ble_eq_true rfl)⟩, fun h => absurd h (by decide)⟩, ?_⟩
  refine List.forall_mem_cons.mpr ⟨fun _ => ⟨by decide, by decide +kernel, Or.inl (inT (i := 1703) (by decide +kernel) rfl), fun h => absurd h (by decide), fun _ => ⟨inT (i := 1704) (by decide +kernel) rfl, inT (i := 1705) (by decide +kernel) rfl, Nat.lt_of_succ_le (Nat.le_of_ble_eq_true rfl)⟩, fun h => absurd h (by decide)⟩, ?_⟩
  refine List.forall_mem_cons.mpr ⟨fun _ => ⟨by decide, by decide +kernel, Or.inl (inT (i := 778) (by decide +kernel) rfl), fun h => absurd h (by decide), fun _ => ⟨inT (i := 779) (by decide +kernel) rfl, inT (i := 780) (by decide +kernel) rfl, Nat.lt_of_succ_le (Nat.le_of_ble_eq_true rfl)⟩, fun h => absurd h (by decide)⟩, ?_⟩
  refine List.forall_mem_cons.mpr ⟨fun _ => ⟨by decide, by decide +kernel, Or.inl (inT (i := 1288) (by decide +kernel) rfl), fun h => absurd h (by decide), fun _ => ⟨inT (i := 1289) (by decide +kernel) rfl, inT (i := 1290) (by decide +kernel) rfl, Nat.lt_of_succ_le (Nat.le_of_ble_eq_true rfl)⟩, fun h => absurd h (by decide)⟩, ?_⟩
  refine List.forall_mem_cons.mpr ⟨fun _ => ⟨by decide, by decide +kernel, Or.inl (inT (i := 782) (by decide +kernel) rfl), fun h => absurd h (by decide), fun _ => ⟨inT (i := 783) (by decide +kernel) rfl, inT (i := 784) (by decide +kernel) rfl, Nat.lt_of_succ_le (Nat.le_of_ble_eq_true rfl)⟩, fun h => absurd h (by decide)⟩, ?_⟩
  refine List.forall_mem_cons.mpr ⟨fun _ => ⟨by decide, by decide +kernel, Or.inl (inT (i := 1751) (by decide +kernel) rfl), fun h => absurd h (by decide), fun _ => ⟨inT (i := 1752) (by decide +kernel) rfl, inT (i := 1753) (by decide +kernel) rfl, Nat.lt_of_succ_le (Nat.le_of_ble_eq_true rfl)⟩, fun h => absurd h (by decide)⟩, ?_⟩
  refine List.forall_mem_cons.mpr ⟨fun _ => ⟨by decide, by decide +kernel, Or.inl (inT (i := 786) (by decide +kernel) rfl), fun h => absurd h (by decide), fun _ => ⟨inT (i := 787) (by decide +kernel) rfl, inT (i := 788) (by decide +kernel) rfl, Nat.lt_of_succ_le (Nat.le_of_ble_eq_true rfl)⟩, fun h => absurd h (by decide)⟩, ?_⟩
  refine List.forall_mem_cons.mpr ⟨fun _ => ⟨by decide, by decide +kernel, Or.inl (inT (i := 1412) (by decide +kernel) rfl), fun h => absurd h (by decide), fun _ => ⟨inT (i := 1413) (by decide +kernel) rfl, inT (i := 1414) (by decide +kernel) rfl, Nat.lt_of_succ_le (Nat.le_of_ble_eq_true rfl)⟩, fun h => absurd h (by decide)⟩, ?_⟩
  refine List.forall_mem_cons.mpr ⟨fun _ => ⟨by decide, by decide +kernel, Or.inl (inT (i := 791) (by decide +kernel) rfl), fun h => absurd h (by decide), fun _ => ⟨inT (i := 792) (by decide +kernel) rfl, inT (i := 793) (by decide +kernel) rfl, Nat.lt_of_succ_le (Nat.le_of_ble_eq_true rfl)⟩, fun h => absurd h (by decide)⟩, ?_⟩
  refine List.forall_mem_cons.mpr ⟨fun _ => ⟨by decide, by decide +kernel, Or.inl (inT (i := 1420) (by decide +kernel) rfl), fun h => absurd h (by decide), fun _ => ⟨inT (i := 1421) (by decide +kernel) rfl, inT (i := 1422) (by decide +kernel) rfl, Nat.lt_of_succ_le (Nat.le_of_ble_eq_true rfl)⟩, fun h => absurd h (by decide)⟩, ?_⟩
  refine List.forall_mem_cons.mpr ⟨fun _ => ⟨by decide, by decide +kernel, Or.inl (inT (i := 797) (by decide +kernel) rfl), fun h => absurd h (by decide), fun _ => ⟨inT (i := 798) (by decide +kernel) rfl, inT (i := 799) (by decide +kernel) rfl, Nat.lt_of_succ_le (Nat.le_of_ble_eq_true rfl)⟩, fun h => absurd h (by decide)⟩, ?_⟩
  refine List.forall_mem_cons.mpr ⟨fun _ => ⟨by decide, by decide +kernel, Or.inl (inT (i := 1528) (by decide +kernel) rfl), fun h => absurd h (by decide), fun _ => ⟨inT (i := 1529) (by decide +kernel) rfl, inT (i := 1530) (by decide +kernel) rfl, Nat.lt_of_succ_le (Nat.le_of_ble_eq_true rfl)⟩, fun h => absurd h (by decide)⟩, ?_⟩
  refine List.forall_mem_cons.mpr ⟨fun _ => ⟨by decide, by decide +kernel, Or.inl (inT (i := 803) (by decide +kernel) rfl), fun h => absurd h (by decide), fun _ => ⟨inT (i := 804) (by decide +kernel) rfl, inT (i := 805) (by decide +kernel) rfl, Nat.lt_of_succ_le (Nat.le_of_ble_eq_true rfl)⟩, fun h => absurd h (by decide)⟩, ?_⟩
  refine List.forall_mem_cons.mpr ⟨fun _ => ⟨by decide, by decide +kernel, Or.inl (inT (i := 1573) (by decide +kernel) rfl), fun h => absurd h (by decide), fun _ => ⟨inT (i := 1574) (by decide +kernel) rfl, inT (i := 1575) (by decide +kernel) rfl, Nat.lt_of_succ_le (Nat.le_of_ble_eq_true rfl)⟩, fun h => absurd h (by decide)⟩, ?_⟩
  refine List.forall_mem_cons.mpr ⟨fun _ => ⟨by decide, by decide +kernel, Or.inl (inT (i := 813) (by decide +kernel) rfl), fun h => absurd h (by decide), fun _ => ⟨inT (i := 814) (by decide +kernel) rfl, inT (i := 815) (by decide +kernel) rfl, Nat.lt_of_succ_le (Nat.le_of_ble_eq_true rfl)⟩, fun h => absurd h (by decide)⟩, ?_⟩
  refine List.forall_mem_cons.mpr ⟨fun _ => ⟨by decide, by decide +kernel, Or.inl (inT (i := 1589) (by decide +kernel) rfl), fun h => absurd h (by decide), fun _ => ⟨inT (i := 1590) (by decide +kernel) rfl, inT (i := 1591) (by decide +kernel) rfl, Nat.lt_of_succ_le (Nat.le_of_ble_eq_true rfl)⟩, fun h => absurd h (by decide)⟩, ?_⟩
  refine List.forall_mem_cons.mpr ⟨fun _ => ⟨by decide, by decide +kernel, Or.inl (inT (i := 824) (by decide +kernel) rfl), fun h => absurd h (by decide), fun _ => ⟨inT (i := 825) (by decide +kernel) rfl, inT (i := 826) (by decide +kernel) rfl, Nat.lt_of_succ_le (Nat.le_of_ble_eq_true rfl)⟩, fun h => absurd h (by decide)⟩, ?_⟩
  refine List.forall_mem_cons.mpr ⟨fun _ => ⟨by decide, by decide +kernel, Or.inl (inT (i := 1604) (by decide +kernel) rfl), fun h => absurd h (by decide), fun _ => ⟨inT (i := 1605) (by decide +kernel) rfl, inT (i := 1606) (by decide +kernel) rfl, Nat.lt_of_succ_le (Nat.le_of_ble_eq_true rfl)⟩, fun h => absurd h (by decide)⟩, ?_⟩
  refine List.forall_mem_cons.mpr ⟨fun _ => ⟨by decide, by decide +kernel, Or.inl (inT (i := 829) (by decide +kernel) rfl), fun h => absurd h (by decide), fun _ => ⟨inT (i := 830) (by decide +kernel) rfl, inT (i := 831) (by decide +kernel) rfl, Nat.lt_of_succ_le (Nat.le_of_ble_eq_true rfl)⟩, fun h => absurd h (by decide)⟩, ?_⟩
  refine List.forall_mem_cons.mpr ⟨fun _ => ⟨by decide, by decide +kernel, Or.inl (inT (i := 1242) (by decide +kernel) rfl), fun h => absurd h (by decide), fun _ => ⟨inT (i := 1243) (by decide +kernel) rfl, inT (i := 1244) (by decide +kernel) rfl, Nat.lt_of_succ_le (Nat.le_of_ble_eq_true rfl)⟩, fun h => absurd h (by decide)⟩, ?_⟩
  refine List.forall_mem_cons.mpr ⟨fun _ => ⟨by decide, by decide +kernel, Or.inl (inT (i := 837) (by decide +kernel) rfl), fun h => absurd h (by decide), fun _ => ⟨inT (i := 838) (by decide +kernel) rfl, inT (i := 839) (by decide +kernel) rfl, Nat.lt_of_succ_le (Nat.le_of_ble_eq_true rfl)⟩, fun h => absurd h (by decide)⟩, ?_⟩
  refine List.forall_mem_cons.mpr ⟨fun _ => ⟨by decide, by decide +kernel, Or.inl (inT (i := 1612) (by decide +kernel) rfl), fun h => absurd h (by decide), fun _ => ⟨inT (i := 1613) (by decide +kernel) rfl, inT (i := 1614) (by decide +kernel) rfl, Nat.lt_of_succ_le (Nat.le_of_ble_eq_true rfl)⟩, fun h => absurd h (by decide)⟩, ?_⟩
  refine List.forall_mem_cons.mpr ⟨fun _ => ⟨by decide, by decide +kernel, Or.inl (inT (i := 846) (by decide +kernel) rfl), fun h => absurd h (by decide), fun _ => ⟨inT (i := 847) (by decide +kernel) rfl, inT (i := 848) (by decide +kernel) rfl, Nat.lt_of_succ_le (Nat.le_of_ble_eq_true rfl)⟩, fun h => absurd h (by decide)⟩, ?_⟩
  refine List.forall_mem_cons.mpr ⟨fun _ => ⟨by decide, by decide +kernel, Or.inl (inT (i := 1620) (by decide +kernel) rfl), fun h => absurd h (by decide), fun _ => ⟨inT (i := 1621) (by decide +kernel) rfl, inT (i := 1622) (by decide +kernel) rfl, Nat.lt_of_succ_le (Nat.le_of_ble_eq_true rfl)⟩, fun h => absurd h (by decide)⟩, ?_⟩
  refine List.forall_mem_cons.mpr ⟨fun _ => ⟨by decide, by decide +kernel, Or.inl (inT (i := 850) (by decide +kernel) rfl), fun h => absurd h (by decide), fun _ => ⟨inT (i := 851) (by decide +kernel) rfl, inT (i := 852) (by decide +kernel) rfl, Nat.lt_of_succ_le (Nat.le_of_ble_eq_true rfl)⟩, fun h => absurd h (by decide)⟩, ?_⟩
  refine List.forall_mem_cons.mpr ⟨fun _ => ⟨by decide, by decide +kernel, Or.inl (inT (i := 1624) (by decide +kernel) rfl), fun h => absurd h (by decide), fun _ => ⟨inT (i := 1625) (by decide +kernel) rfl, inT (i := 1626) (by decide +kernel) rfl, Nat.lt_of_succ_le (Nat.le_of_ble_eq_true rfl)⟩, fun h => absurd h (by decide)⟩, ?_⟩
  refine List.forall_mem_cons.mpr ⟨fun _ => ⟨by decide, by decide +kernel, Or.inl (inT (i := 860) (by decide +kernel) rfl), fun h => absurd h (by decide), fun _ => ⟨inT (i := 861) (by decide +kernel) rfl, inT (i := 862) (by decide +kernel) rfl, Nat.lt_of_succ_le (Nat.le_of_ble_eq_true rfl)⟩, fun h => absurd h (by decide)⟩, ?_⟩
  refine List.forall_mem_cons.mpr ⟨fun _ => ⟨by decide, by decide +kernel, Or.inl (inT (i := 1632) (by decide +kernel) rfl), fun h => absurd h (by decide), fun _ => ⟨inT (i := 1633) (by decide +kernel) rfl, inT (i := 1634) (by decide +kernel) rfl, Nat.lt_of_succ_le (Nat.le_of_ble_eq_true rfl)⟩, fun h => absurd h (by decide)⟩, ?_⟩
  refine List.forall_mem_cons.mpr ⟨fun _ => ⟨by decide, by decide +kernel, Or.inl (inT (i := 865) (by decide +kernel) rfl), fun h => absurd h (by decide), fun _ => ⟨inT (i := 866) (by decide +kernel) rfl, inT (i := 867) (by decide +kernel) rfl, Nat.lt_of_succ_le (Nat.le_of_ble_eq_true rfl)⟩, fun h => absurd h (by decide)⟩, ?_⟩
  refine List.forall_mem_cons.mpr ⟨fun _ => ⟨by decide, by decide +kernel, Or.inl (inT (i := 1638) (by decide +kernel) rfl), fun h => absurd h (by decide), fun _ => ⟨inT (i := 1639) (by decide +kernel) rfl, inT (i := 1640) (by decide +kernel) rfl, Nat.lt_of_succ_le (Nat.le_of_ble_eq_true rfl)⟩, fun h => absurd h (by decide)⟩, ?_⟩
  refine List.forall_mem_cons.mpr ⟨fun _ => ⟨by decide, by decide +kernel, Or.inl (inT (i := 870) (by decide +kernel) rfl), fun h => absurd h (by decide), fun _ => ⟨inT (i := 871) (by decide +kernel) rfl, inT (i := 872) (by decide +kernel) rfl, Nat.lt_of_succ_le (Nat.le_of_ble_eq_true rfl)⟩, fun h => absurd h (by decide)⟩, ?_⟩
  refine List.forall_mem_cons.mpr ⟨fun _ => ⟨by decide, by decide +kernel, Or.inl (inT (i := 1643) (by decide +kernel) rfl), fun h => absurd h (by decide), fun _ => ⟨inT (i := 1644) (by decide +kernel) rfl, inT (i := 1645) (by decide +kernel) rfl, Nat.lt_of_succ_le (Nat.le_of_ble_eq_true rfl)⟩, fun h => absurd h (by decide)⟩, ?_⟩
  refine List.forall_mem_cons.mpr ⟨fun _ => ⟨by decide, by decide +kernel, Or.inl (inT (i := 879) (by decide +kernel) rfl), fun h => absurd h (by decide), fun _ => ⟨inT (i := 880) (by decide +kernel) rfl, inT (i := 881) (by decide +kernel) rfl, Nat.lt_of_succ_le (Nat.le_of_ble_eq_true rfl)⟩, fun h => absurd h (by decide)⟩, ?_⟩
  refine List.forall_mem_cons.mpr ⟨fun _ => ⟨by decide, by decide +kernel, Or.inl (inT (i := 1652) (by decide +kernel) rfl), fun h => absurd h (by decide), fun _ => ⟨inT (i := 1653) (by decide +kernel) rfl, inT (i := 1654) (by decide +kernel) rfl, Nat.lt_of_succ_le (Nat.le_of_ble_eq_true rfl)⟩, fun h => absurd h (by decide)⟩, ?_⟩
  refine List.forall_mem_cons.mpr ⟨fun _ => ⟨by decide, by decide +kernel, Or.inl (inT (i := 883) (by decide +kernel) rfl), fun h => absurd h (by decide), fun _ => ⟨inT (i := 884) (by decide +kernel) rfl, inT (i := 885) (by decide +kernel) rfl, Nat.lt_of_succ_le (Nat.le_of_ble_eq_true rfl)⟩, fun h => absurd h (by decide)⟩, ?_⟩
  refine List.forall_mem_cons.mpr ⟨fun _ => ⟨by decide, by decide +kernel, Or.inl (inT (i := 1656) (by decide +kernel) rfl), fun h => absurd h (by decide), fun _ => ⟨inT (i := 1657) (by decide +kernel) rfl, inT (i := 1658) (by decide +kernel) rfl, Nat.lt_of_succ_le (Nat.le_of_ble_eq_true rfl)⟩, fun h => absurd h (by decide)⟩, ?_⟩
  refine List.forall_mem_cons.mpr ⟨fun _ => ⟨by decide, by decide +kernel, Or.inl (inT (i := 893) (by decide +kernel) rfl), fun h => absurd h (by decide), fun _ => ⟨inT (i := 894) (by decide +kernel) rfl, inT (i := 895) (by decide +kernel) rfl, Nat.lt_of_succ_le (Nat.le_of_ble_eq_true rfl)⟩, fun h => absurd h (by decide)⟩, ?_⟩
  refine List.forall_mem_cons.mpr ⟨fun _ => ⟨by decide, by decide +kernel, Or.inl (inT (i := 1664) (by decide +kernel) rfl), fun h => absurd h (by decide), fun _ => ⟨inT (i := 1665) (by decide +kernel) rfl, inT (i := 1666) (by decide +kernel) rfl, Nat.lt_of_succ_le (Nat.le_of_ble_eq_true rfl)⟩, fun h => absurd h (by decide)⟩, ?_⟩
  refine List.forall_mem_cons.mpr ⟨fun _ => ⟨by decide, by decide +kernel, Or.inl (inT (i := 904) (by decide +kernel) rfl), fun h => absurd h (by decide), fun _ => ⟨inT (i := 905) (by decide +kernel) rfl, inT (i := 906) (by decide +kernel) rfl, Nat.lt_of_succ_le (Nat.le_of_ble_eq_true rfl)⟩, fun h => absurd h (by decide)⟩, ?_⟩
  refine List.forall_mem_cons.mpr ⟨fun _ => ⟨by decide, by decide +kernel, Or.inl (inT (i := 1668) (by decide +kernel) rfl), fun h => absurd h (by decide), fun _ => ⟨inT (i := 1669) (by decide +kernel) rfl, inT (i := 1670) (by decide +kernel) rfl, Nat.lt_of_succ_le (Nat.le_of_ble_eq_true rfl)⟩, fun h => absurd h (by decide)⟩, ?_⟩
  refine List.forall_mem_cons.mpr ⟨fun _ => ⟨by decide, by decide +kernel, Or.inl (inT (i := 917) (by decide +kernel) rfl), fun h => absurd h (by decide), fun _ => ⟨inT (i := 918) (by decide +kernel) rfl, inT (i := 919) (by decide +kernel) rfl, Nat.lt_of_succ_le (Nat.le_of_ble_eq_true rfl)⟩, fun h => absurd h (by decide)⟩, ?_⟩
  refine List.forall_mem_cons.mpr ⟨fun _ => ⟨by decide, by decide +kernel, Or.inl (inT (i := 1676) (by decide +kernel) rfl), fun h => absurd h (by decide), fun _ => ⟨inT (i := 1677) (by decide +kernel) rfl, inT (i := 1678) (by decide +kernel) rfl, Nat.lt_of_succ_le (Nat.le_of_ble_eq_true rfl)⟩, fun h => absurd h (by decide)⟩, ?_⟩
  refine List.forall_mem_cons.mpr ⟨fun _ => ⟨by decide, by decide +kernel, Or.inl (inT (i := 926) (by decide +kernel) rfl), fun h => absurd h (by decide), fun _ => ⟨inT (i := 927) (by decide +kernel) rfl, inT (i := 928) (by decide +kernel) rfl, Nat.lt_of_succ_le (Nat.le_of_ble_eq_true rfl)⟩, fun h => absurd h (by decide)⟩, ?_⟩
  refine List.forall_mem_cons.mpr ⟨fun _ => ⟨by decide, by decide +kernel, Or.inl (inT (i := 1684) (by decide +kernel) rfl), fun h => absurd h (by decide), fun _ => ⟨inT (i := 1685) (by decide +kernel) rfl, inT (i := 1686) (by decide +kernel) rfl, Nat.lt_of_succ_le (Nat.le_of_ble_eq_true rfl)⟩, fun h => absurd h (by decide)⟩, ?_⟩
  refine List.forall_mem_cons.mpr ⟨fun _ => ⟨by decide, by decide +kernel, Or.inl (inT (i := 932) (by decide +kernel) rfl), fun h => absurd h (by decide), fun _ => ⟨inT (i := 933) (by decide +kernel) rfl, inT (i := 934) (by decide +kernel) rfl, Nat.lt_of_succ_le (Nat.le_of_ble_eq_true rfl)⟩, fun h => absurd h (by decide)⟩, ?_⟩
  refine List.forall_mem_cons.mpr ⟨fun _ => ⟨by decide, by decide +kernel, Or.inl (inT (i := 1693) (by decide +kernel) rfl), fun h => absurd h (by decide), fun _ => ⟨inT (i := 1694) (by decide +kernel) rfl, inT (i := 1695) (by decide +kernel) rfl, Nat.lt_of_succ_le (Nat.le_of_ble_eq_true rfl)⟩, fun h => absurd h (by decide)⟩, ?_⟩
  refine List.forall_mem_cons.mpr ⟨fun _ => ⟨by decide, by decide +kernel, Or.inl (inT (i := 941) (by decide +kernel) rfl), fun h => absurd h (by decide), fun _ => ⟨inT (i := 942) (by decide +kernel) rfl, inT (i := 943) (by decide +kernel) rfl, Nat.lt_of_succ_le (Nat.le_of_ble_eq_true rfl)⟩, fun h => absurd h (by decide)⟩, ?_⟩
  refine List.forall_mem_cons.mpr ⟨fun _ => ⟨by decide, by decide +kernel, Or.inl (inT (i := 1697) (by decide +kernel) rfl), fun h => absurd h (by decide), fun _ => ⟨inT (i := 1698) (by decide +kernel) rfl, inT (i := 1699) (by decide +kernel) rfl, Nat.lt_of_succ_le (Nat.le_of_ble_eq_true rfl)⟩, fun h => absurd h (by decide)⟩, ?_⟩
  refine List.forall_mem_cons.mpr ⟨fun _ => ⟨by decide, by decide +kernel, Or.inl (inT (i := 951) (by decide +kernel) rfl), fun h => absurd h (by decide), fun _ => ⟨inT (i := 952) (by decide +kernel) rfl, inT (i := 953) (by decide +kernel) rfl, Nat.lt_of_succ_le (Nat.le_of_ble_eq_true rfl)⟩, fun h => absurd h (by decide)⟩, ?_⟩
  refine List.forall_mem_cons.mpr ⟨fun _ => ⟨by decide, by decide +kernel, Or.inl (inT (i := 1648) (by decide +kernel) rfl), fun h => absurd h (by decide), fun _ => ⟨inT (i := 1649) (by decide +kernel) rfl, inT (i := 1650) (by decide +kernel) rfl, Nat.lt_of_succ_le (Nat.le_of_ble_eq_true rfl)⟩, fun h => absurd h (by decide)⟩, ?_⟩
  refine List.forall_mem_cons.mpr ⟨fun _ => ⟨by decide, by decide +kernel, Or.inl (inT (i := 956) (by decide +kernel) rfl), fun h => absurd h (by decide), fun _ => ⟨inT (i := 957) (by decide +kernel) rfl, inT (i := 958) (by decide +kernel) rfl, Nat.lt_of_succ_le (Nat.le_of_ble_eq_true rfl)⟩, fun h => absurd h (by decide)⟩, ?_⟩
  refine List.forall_mem_cons.mpr ⟨fun _ => ⟨by decide, by decide +kernel, Or.inl (inT (i := 1755) (by decide +kernel) rfl), fun h => absurd h (by decide), fun _ => ⟨inT (i := 1756) (by decide +kernel) rfl, inT (i := 1757) (by decide +kernel) rfl, Nat.lt_of_succ_le (Nat.le_of_ble_eq_true rfl)⟩, fun h => absurd h (by decide)⟩, ?_⟩
  refine List.forall_mem_cons.mpr ⟨fun _ => ⟨by decide, by decide +kernel, Or.inl (inT (i := 987) (by decide +kernel) rfl), fun h => absurd h (by decide), fun _ => ⟨inT (i := 988) (by decide +kernel) rfl, inT (i := 989) (by decide +kernel) rfl, Nat.lt_of_succ_le (Nat.le_of_ble_eq_true rfl)⟩, fun h => absurd h (by decide)⟩, ?_⟩
  refine List.forall_mem_cons.mpr ⟨fun _ => ⟨by decide, by decide +kernel, Or.inl (inT (i := 1771) (by decide +kernel) rfl), fun h => absurd h (by decide), fun _ => ⟨inT (i := 1772) (by decide +kernel) rfl, inT (i := 1773) (by decide +kernel) rfl, Nat.lt_of_succ_le (Nat.le_of_ble_eq_true rfl)⟩, fun h => absurd h (by decide)⟩, ?_⟩
  refine List.forall_mem_cons.mpr ⟨fun _ => ⟨by decide, by decide +kernel, Or.inl (inT (i := 995) (by decide +kernel) rfl), fun h => absurd h (by decide), fun _ => ⟨inT (i := 996) (by decide +kernel) rfl, inT (i := 997) (by decide +kernel) rfl, Nat.lt_of_succ_le (Nat.le_of_ble_eq_true rfl)⟩, fun h => absurd h (by decide)⟩, ?_⟩
  refine List.forall_mem_cons.mpr ⟨fun _ => ⟨by decide, by decide +kernel, Or.inl (inT (i := 1254) (by decide +kernel) rfl), fun h => absurd h (by decide), fun _ => ⟨inT (i := 1255) (by decide +kernel) rfl, inT (i := 1256) (by decide +kernel) rfl, Nat.lt_of_succ_le (Nat.le_of_ble_eq_true rfl)⟩, fun h => absurd h (by decide)⟩, ?_⟩
  refine List.forall_mem_cons.mpr ⟨fun _ => ⟨by decide, by decide +kernel, Or.inl (inT (i := 1022) (by decide +kernel) rfl), fun h => absurd h (by decide), fun _ => ⟨inT (i := 1023) (by decide +kernel) rfl, inT (i := 1024) (by decide +kernel) rfl, Nat.lt_of_succ_le (Nat.le_of_ble_eq_true rfl)⟩, fun h => absurd h (by decide)⟩, ?_⟩
  refine List.forall_mem_cons.mpr ⟨fun _ => ⟨by decide, by decide +kernel, Or.inl (inT (i := 1261) (by decide +kernel) rfl), fun h => absurd h (by decide), fun _ => ⟨inT (i := 1262) (by decide +kernel) rfl, inT (i := 1263) (by decide +kernel) rfl, Nat.lt_of_succ_le (Nat.le_of_ble_eq_true rfl)⟩, fun h => absurd h (by decide)⟩, ?_⟩
  refine List.forall_mem_cons.mpr ⟨fun _ => ⟨by decide, by decide +kernel, Or.inl (inT (i := 1026) (by decide +kernel) rfl), fun h => absurd h (by decide), fun _ => ⟨inT (i := 1027) (by decide +kernel) rfl, inT (i := 1028) (by decide +kernel) rfl, Nat.lt_of_succ_le (Nat.le_of_ble_eq_true rfl)⟩, fun h => absurd h (by decide)⟩, ?_⟩
  refine List.forall_mem_cons.mpr ⟨fun _ => ⟨by decide, by decide +kernel, Or.inl (inT (i := 1775) (by decide +kernel) rfl), fun h => absurd h (by decide), fun _ => ⟨inT (i := 1776) (by decide +kernel) rfl, inT (i := 1777) (by decide +kernel) rfl, Nat.lt_of_succ_le (Nat.le_of_ble_eq_true rfl)⟩, fun h => absurd h (by decide)⟩, ?_⟩
  refine List.forall_mem_cons.mpr ⟨fun _ => ⟨by decide, by decide +kernel, Or.inl (inT (i := 1039) (by decide +kernel) rfl), fun h => absurd h (by decide), fun _ => ⟨inT (i := 1040) (by decide +kernel) rfl, inT (i := 1041) (by decide +kernel) rfl, Nat.lt_of_succ_le (Nat.le_of_ble_eq_true rfl)⟩, fun h => absurd h (by decide)⟩, ?_⟩
  refine List.forall_mem_cons.mpr ⟨fun _ => ⟨by decide, by decide +kernel, Or.inl (inT (i := 1788) (by decide +kernel) rfl), fun h => absurd h (by decide), fun _ => ⟨inT (i := 1789) (by decide +kernel) rfl, inT (i := 1790) (by decide +kernel) rfl, Nat.lt_of_succ_le (Nat.le_of_ble_eq_true rfl)⟩, fun h => absurd h (by decide)⟩, ?_⟩
  exact fun _ h => absurd h List.not_mem_nil
theorem cok_13 : COK 13 := fun k how x na h h0 => lc2_13 _ (lc_13 k _ h) h0
theorem pok_13 : POK 13 := by
  intro k x na h
  have hm := lc_13 k _ h
  simp only [List.mem_cons, List.not_mem_nil, or_false, Prod.mk.injEq] at hm
  rcases hm with ⟨rfl, h0, rfl, rfl⟩ | ⟨rfl, h0, rfl, rfl⟩ | ⟨rfl, h0, rfl, rfl⟩ | ⟨rfl, h0, rfl, rfl⟩ | ⟨rfl, h0, rfl, rfl⟩ | ⟨rfl, h0, rfl, rfl⟩ | ⟨rfl, h0, rfl, rfl⟩ | ⟨rfl, h0, rfl, rfl⟩ | ⟨rfl, h0, rfl, rfl⟩ | ⟨rfl, h0, rfl, rfl⟩ | ⟨rfl, h0, rfl, rfl⟩ | ⟨rfl, h0, rfl, rfl⟩ | ⟨rfl, h0, rfl, rfl⟩ | ⟨rfl, h0, rfl, rfl⟩ | ⟨rfl, h0, rfl, rfl⟩ | ⟨rfl, h0, rfl, rfl⟩ | ⟨rfl, h0, rfl, rfl⟩ | ⟨rfl, h0, rfl, rfl⟩ | ⟨rfl, h0, rfl, rfl⟩ | ⟨rfl, h0, rfl, rfl⟩ | ⟨rfl, h0, rfl, rfl⟩ | ⟨rfl, h0, rfl, rfl⟩ | ⟨rfl, h0, rfl, rfl⟩ | ⟨rfl, h0, rfl, rfl⟩ | ⟨rfl, h0, rfl, rfl⟩ | ⟨rfl, h0, rfl, rfl⟩ | ⟨rfl, h0, rfl, rfl⟩ | ⟨rfl, h0, rfl, rfl⟩ | ⟨rfl, h0, rfl, rfl⟩ | ⟨rfl, h0, rfl, rfl⟩ | ⟨rfl, h0, rfl, rfl⟩ | ⟨rfl, h0, rfl, rfl⟩ | ⟨rfl, h0, rfl, rfl⟩ | ⟨rfl, h0, rfl, rfl⟩ | ⟨rfl, h0, rfl, rfl⟩ | ⟨rfl, h0, rfl, rfl⟩ | ⟨rfl, h0, rfl, rfl⟩ | ⟨rfl, h0, rfl, rfl⟩ | ⟨rfl, h0, rfl, rfl⟩ | ⟨rfl, h0, rfl, rfl⟩ | ⟨rfl, h0, rfl, rfl⟩ | ⟨rfl, h0, rfl, rfl⟩ | ⟨rfl, h0, rfl, rfl⟩ | ⟨rfl, h0, rfl, rfl⟩ | ⟨rfl, h0, rfl, rfl⟩ | ⟨rfl, h0, rfl, rfl⟩ | ⟨rfl, h0, rfl, rfl⟩ | ⟨rfl, h0, rfl, rfl⟩ | ⟨rfl, h0, rfl, rfl⟩ | ⟨rfl, h0, rfl, rfl⟩ | ⟨rfl, h0, rfl, rfl⟩ | ⟨rfl, h0, rfl, rfl⟩ | ⟨rfl, h0, rfl, rfl⟩ | ⟨rfl, h0, rfl, rfl⟩ | ⟨rfl, h0, rfl, rfl⟩ | ⟨rfl, h0, rfl, rfl⟩ | ⟨rfl, h0, rfl, rfl⟩ | ⟨rfl, h0, rfl, rfl⟩ | ⟨rfl, h0, rfl, rfl⟩ | ⟨rfl, h0, rfl, rfl⟩ | ⟨rfl, h0, rfl, rfl⟩ | ⟨rfl, h0, rfl, rfl⟩ | ⟨rfl, h0, rfl, rfl⟩ | ⟨rfl, h0, rfl, rfl⟩ | ⟨rfl, h0, rfl, rfl⟩ | ⟨rfl, h0, rfl, rfl⟩ | ⟨rfl, h0, rfl, rfl⟩ | ⟨rfl, h0, rfl, rfl⟩ | ⟨rfl, h0, rfl, rfl⟩ | ⟨rfl, h0, rfl, rfl⟩ | ⟨rfl, h0, rfl, rfl⟩ | ⟨rfl, h0, rfl, rfl⟩
  · exact absurd h0 (by decide)
  · exact absurd h0 (by decide)
  · exact absurd h0 (by decide)
  · exact absurd h0 (by decide)
  · exact absurd h0 (by decide)
  · exact absurd h0 (by decide)
  · exact absurd h0 (by decide)
  · exact absurd h0 (by decide)
  · exact absurd h0 (by decide)
  · exact absurd h0 (by decide)
  · exact absurd h0 (by decide)
  · exact absurd h0 (by decide)
  · exact absurd h0 (by decide)
  · exact absurd h0 (by decide)
  · exact absurd h0 (by decide)
  · exact absurd h0 (by decide)
  · exact absurd h0 (by decide)
  · exact absurd h0 (by decide)
  · exact absurd h0 (by decide)
  · exact absurd h0 (by decide)
  · exact absurd h0 (by decide)
  · exact absurd h0 (by decide)
  · exact absurd h0 (by decide)
  · exact absurd h0 (by decide)
  · exact absurd h0 (by decide)
  · exact absurd h0 (by decide)
  · exact absurd h0 (by decide)
  · exact absurd h0 (by decide)
  · exact absurd h0 (by decide)
  · exact absurd h0 (by decide)
  · exact absurd h0 (by decide)
  · exact absurd h0 (by decide)
  · exact absurd h0 (by decide)
  · exact absurd h0 (by decide)
  · exact absurd h0 (by decide)
  · exact absurd h0 (by decide)
  · exact absurd h0 (by decide)
  · exact absurd h0 (by decide)
  · exact absurd h0 (by decide)
  · exact absurd h0 (by decide)
  · exact absurd h0 (by decide)
  · exact absurd h0 (by decide)
  · exact absurd h0 (by decide)
  · exact absurd h0 (by decide)
  · exact absurd h0 (by decide)
  · exact absurd h0 (by decide)
  · exact absurd h0 (by decide)
  · exact absurd h0 (by decide)
  · exact absurd h0 (by decide)
  · exact absurd h0 (by decide)
  · exact absurd h0 (by decide)
  · exact absurd h0 (by decide)
  · exact absurd h0 (by decide)
  · exact absurd h0 (by decide)
  · exact absurd h0 (by decide)
  · exact absurd h0 (by decide)
  · exact absurd h0 (by decide)
  · exact absurd h0 (by decide)
  · exact absurd h0 (by decide)
  · exact absurd h0 (by decide)
  · exact absurd h0 (by decide)
  · exact absurd h0 (by decide)
  · exact absurd h0 (by decide)
  · exact absurd h0 (by decide)
  · exact absurd h0 (by decide)
  · exact absurd h0 (by decide)
  · exact absurd h0 (by decide)
  · exact absurd h0 (by decide)
  · exact absurd h0 (by decide)
  · exact absurd h0 (by decide)
  · exact absurd h0 (by decide)
  · exact absurd h0 (by decide)
theorem ln_13 : ∀ k v, lkN13 k = some v → (k, v) ∈ ([(7, 0), (10, 12)] : List (Nat × Nat)) := ent (by decide +kernel) (fun k h => nn h)
theorem ln2_13 : ∀ e ∈ ([(7, 0), (10, 12)] : List (Nat × Nat)), (e.2 < 13 ∧ Cond.classLink (ownZ 13) e.1 (clC e.2) ∈ TsZ) ∨ (e.2 = 99 ∧ Cond.classLink (ownZ 13) e.1 "[I" ∈ TsZ) := by
  refine List.forall_mem_cons.mpr ⟨Or.inl ⟨by decide, inT (i := 22) (by decide +kernel) rfl⟩, ?_⟩
  refine List.forall_mem_cons.mpr ⟨Or.inl ⟨by decide, inT (i := 1043) (by decide +kernel) rfl⟩, ?_⟩
  exact fun _ h => absurd h List.not_mem_nil
theorem lI_13 : ∀ k v, lkI13 k = some v → (k, v) ∈ ([] : List (Nat × Int32)) := ent (by decide +kernel) (fun k h => nn h)
theorem lI2_13 : ∀ e ∈ ([] : List (Nat × Int32)), Cond.constant (ownZ 13) e.1 e.2 ∈ TsZ := by
  exact fun _ h => absurd h List.not_mem_nil
theorem lL_13 : ∀ k v, lkL13 k = some v → (k, v) ∈ ([] : List (Nat × Int64)) := ent (by decide +kernel) (fun k h => nn h)
theorem lL2_13 : ∀ e ∈ ([] : List (Nat × Int64)), Cond.constantLong (ownZ 13) e.1 e.2 ∈ TsZ := by
  exact fun _ h => absurd h List.not_mem_nil
theorem lS_13 : ∀ k v, lkS13 k = some v → (k, v) ∈ ([] : List (Nat × Nat)) := ent (by decide +kernel) (fun k h => nn h)
theorem lS2_13 : ∀ e ∈ ([] : List (Nat × Nat)), e.2 < 18 ∧ ownZ 13 = "RecordHeap$Reader" ∧ e.1 = siZ.getD e.2 0 := by
  exact fun _ h => absurd h List.not_mem_nil
theorem l9_13 : ∀ k x, lkF13 k = some x → x.2.2 = 9 → Cond.fieldLink (ownZ 13) k "RecordHeap" "TERM_MOST" "[I" ∈ TsZ := by
  intro k x h h9
  have hm := lf_13 k x h
  exact absurd hm List.not_mem_nil
theorem lok_13 : LOK 13 := ⟨fun k x h h9 => lf2_13 _ (lf_13 k x h) h9, l9_13, fun k x h => ln2_13 _ (ln_13 k x h), fun k x h => lI2_13 _ (lI_13 k x h), fun k x h => lL2_13 _ (lL_13 k x h), fun k x h => lS2_13 _ (lS_13 k x h)⟩
theorem lf_14 : ∀ k v, lkF14 k = some v → (k, v) ∈ ([] : List (Nat × Nat × Nat × Nat)) := ent (by decide +kernel) (fun k h => nn h)
theorem lf2_14 : ∀ e ∈ ([] : List (Nat × Nat × Nat × Nat)), e.2.2.2 ≠ 9 → e.2.1 < 13 ∧ (fkZ e.2.1)[e.2.2.1]? = some e.2.2.2 ∧ (Cond.fieldLink (ownZ 14) e.1 (clC e.2.1) (clT e.2.1 e.2.2.1).2.1 (clT e.2.1 e.2.2.1).2.2.1 ∈ TsZ ∨ ∃ h, Cond.fieldLinkNest (ownZ 14) e.1 (clC e.2.1) (clT e.2.1 e.2.2.1).2.1 (clT e.2.1 e.2.2.1).2.2.1 h ∈ nestZ ∧ clC e.2.1 ≠ ownZ 14) := by
  exact fun _ h => absurd h List.not_mem_nil
theorem lc_14 : ∀ k v, lkC14 k = some v → (k, v) ∈ ([(150, (0, 5, 5)), (304, (0, 2, 2)), (316, (0, 8, 0))] : List (Nat × Nat × Nat × Nat)) := ent (by decide +kernel) (fun k h => nn h)
theorem lc2_14 : ∀ e ∈ ([(150, (0, 5, 5)), (304, (0, 2, 2)), (316, (0, 8, 0))] : List (Nat × Nat × Nat × Nat)), e.2.1 ≠ 0 → e.2.2.1 < 271 ∧ (parseMethodDescriptor (yZ e.2.2.1).desc).map (fun d => d.parameters.length) = some e.2.2.2 ∧ (Cond.methodLink (ownZ 14) e.1 (yZ e.2.2.1) ∈ TsZ ∨ ∃ h, Cond.methodLinkNest (ownZ 14) e.1 (yZ e.2.2.1) h ∈ nestZ) ∧ (e.2.1 = 1 → Cond.static (yZ e.2.2.1) ∈ TsZ) ∧ (e.2.1 = 2 → Cond.instanceMethod (yZ e.2.2.1) ∈ TsZ ∧ Cond.selects (yZ e.2.2.1).cls (yZ e.2.2.1) (yZ e.2.2.1) ∈ TsZ ∧ (methZ e.2.2.1).2.1 < 13) ∧ (e.2.1 = 3 → Cond.instanceMethod (yZ e.2.2.1) ∈ TsZ ∧ (yZ e.2.2.1).name = "<init>" ∧ rZ e.2.2.1 = none) := by
  refine List.forall_mem_cons.mpr ⟨fun h => absurd rfl h, ?_⟩
  refine List.forall_mem_cons.mpr ⟨fun h => absurd rfl h, ?_⟩
  refine List.forall_mem_cons.mpr ⟨fun h => absurd rfl h, ?_⟩
  exact fun _ h => absurd h List.not_mem_nil
theorem cok_14 : COK 14 := fun k how x na h h0 => lc2_14 _ (lc_14 k _ h) h0
theorem pok_14 : POK 14 := by
  intro k x na h
  have hm := lc_14 k _ h
  simp only [List.mem_cons, List.not_mem_nil, or_false, Prod.mk.injEq] at hm
  rcases hm with ⟨rfl, h0, rfl, rfl⟩ | ⟨rfl, h0, rfl, rfl⟩ | ⟨rfl, h0, rfl, rfl⟩
  · exact ⟨inT (i := 556) (by decide +kernel) rfl, inT (i := 558) (by decide +kernel) rfl, inT (i := 557) (by decide +kernel) rfl, inT (i := 19) (by decide +kernel) rfl⟩
  · exact ⟨inT (i := 555) (by decide +kernel) rfl, inT (i := 499) (by decide +kernel) rfl, inT (i := 3) (by decide +kernel) rfl, inT (i := 500) (by decide +kernel) rfl⟩
  · exact ⟨inT (i := 548) (by decide +kernel) rfl, inT (i := 549) (by decide +kernel) rfl, inT (i := 550) (by decide +kernel) rfl, inT (i := 551) (by decide +kernel) rfl, inT (i := 552) (by decide +kernel) rfl⟩
theorem ln_14 : ∀ k v, lkN14 k = some v → (k, v) ∈ ([(317, 99)] : List (Nat × Nat)) := ent (by decide +kernel) (fun k h => nn h)
theorem ln2_14 : ∀ e ∈ ([(317, 99)] : List (Nat × Nat)), (e.2 < 13 ∧ Cond.classLink (ownZ 14) e.1 (clC e.2) ∈ TsZ) ∨ (e.2 = 99 ∧ Cond.classLink (ownZ 14) e.1 "[I" ∈ TsZ) := by
  refine List.forall_mem_cons.mpr ⟨Or.inr ⟨rfl, inT (i := 554) (by decide +kernel) rfl⟩, ?_⟩
  exact fun _ h => absurd h List.not_mem_nil
theorem lI_14 : ∀ k v, lkI14 k = some v → (k, v) ∈ ([] : List (Nat × Int32)) := ent (by decide +kernel) (fun k h => nn h)
theorem lI2_14 : ∀ e ∈ ([] : List (Nat × Int32)), Cond.constant (ownZ 14) e.1 e.2 ∈ TsZ := by
  exact fun _ h => absurd h List.not_mem_nil
theorem lL_14 : ∀ k v, lkL14 k = some v → (k, v) ∈ ([] : List (Nat × Int64)) := ent (by decide +kernel) (fun k h => nn h)
theorem lL2_14 : ∀ e ∈ ([] : List (Nat × Int64)), Cond.constantLong (ownZ 14) e.1 e.2 ∈ TsZ := by
  exact fun _ h => absurd h List.not_mem_nil
theorem lS_14 : ∀ k v, lkS14 k = some v → (k, v) ∈ ([] : List (Nat × Nat)) := ent (by decide +kernel) (fun k h => nn h)
theorem lS2_14 : ∀ e ∈ ([] : List (Nat × Nat)), e.2 < 18 ∧ ownZ 14 = "RecordHeap$Reader" ∧ e.1 = siZ.getD e.2 0 := by
  exact fun _ h => absurd h List.not_mem_nil
theorem l9_14 : ∀ k x, lkF14 k = some x → x.2.2 = 9 → Cond.fieldLink (ownZ 14) k "RecordHeap" "TERM_MOST" "[I" ∈ TsZ := by
  intro k x h h9
  have hm := lf_14 k x h
  exact absurd hm List.not_mem_nil
theorem lok_14 : LOK 14 := ⟨fun k x h h9 => lf2_14 _ (lf_14 k x h) h9, l9_14, fun k x h => ln2_14 _ (ln_14 k x h), fun k x h => lI2_14 _ (lI_14 k x h), fun k x h => lL2_14 _ (lL_14 k x h), fun k x h => lS2_14 _ (lS_14 k x h)⟩
theorem lf_15 : ∀ k v, lkF15 k = some v → (k, v) ∈ ([] : List (Nat × Nat × Nat × Nat)) := ent (by decide +kernel) (fun k h => nn h)
theorem lf2_15 : ∀ e ∈ ([] : List (Nat × Nat × Nat × Nat)), e.2.2.2 ≠ 9 → e.2.1 < 13 ∧ (fkZ e.2.1)[e.2.2.1]? = some e.2.2.2 ∧ (Cond.fieldLink (ownZ 15) e.1 (clC e.2.1) (clT e.2.1 e.2.2.1).2.1 (clT e.2.1 e.2.2.1).2.2.1 ∈ TsZ ∨ ∃ h, Cond.fieldLinkNest (ownZ 15) e.1 (clC e.2.1) (clT e.2.1 e.2.2.1).2.1 (clT e.2.1 e.2.2.1).2.2.1 h ∈ nestZ ∧ clC e.2.1 ≠ ownZ 15) := by
  exact fun _ h => absurd h List.not_mem_nil
theorem lc_15 : ∀ k v, lkC15 k = some v → (k, v) ∈ ([] : List (Nat × Nat × Nat × Nat)) := ent (by decide +kernel) (fun k h => nn h)
theorem lc2_15 : ∀ e ∈ ([] : List (Nat × Nat × Nat × Nat)), e.2.1 ≠ 0 → e.2.2.1 < 271 ∧ (parseMethodDescriptor (yZ e.2.2.1).desc).map (fun d => d.parameters.length) = some e.2.2.2 ∧ (Cond.methodLink (ownZ 15) e.1 (yZ e.2.2.1) ∈ TsZ ∨ ∃ h, Cond.methodLinkNest (ownZ 15) e.1 (yZ e.2.2.1) h ∈ nestZ) ∧ (e.2.1 = 1 → Cond.static (yZ e.2.2.1) ∈ TsZ) ∧ (e.2.1 = 2 → Cond.instanceMethod (yZ e.2.2.1) ∈ TsZ ∧ Cond.selects (yZ e.2.2.1).cls (yZ e.2.2.1) (yZ e.2.2.1) ∈ TsZ ∧ (methZ e.2.2.1).2.1 < 13) ∧ (e.2.1 = 3 → Cond.instanceMethod (yZ e.2.2.1) ∈ TsZ ∧ (yZ e.2.2.1).name = "<init>" ∧ rZ e.2.2.1 = none) := by
  exact fun _ h => absurd h List.not_mem_nil
theorem cok_15 : COK 15 := fun k how x na h h0 => lc2_15 _ (lc_15 k _ h) h0
theorem pok_15 : POK 15 := by
  intro k x na h
  have hm := lc_15 k _ h
  exact absurd hm List.not_mem_nil
theorem ln_15 : ∀ k v, lkN15 k = some v → (k, v) ∈ ([] : List (Nat × Nat)) := ent (by decide +kernel) (fun k h => nn h)
theorem ln2_15 : ∀ e ∈ ([] : List (Nat × Nat)), (e.2 < 13 ∧ Cond.classLink (ownZ 15) e.1 (clC e.2) ∈ TsZ) ∨ (e.2 = 99 ∧ Cond.classLink (ownZ 15) e.1 "[I" ∈ TsZ) := by
  exact fun _ h => absurd h List.not_mem_nil
theorem lI_15 : ∀ k v, lkI15 k = some v → (k, v) ∈ ([(265, 1431655765), (266, 858993459), (267, 252645135)] : List (Nat × Int32)) := ent (by decide +kernel) (fun k h => nn h)
theorem lI2_15 : ∀ e ∈ ([(265, 1431655765), (266, 858993459), (267, 252645135)] : List (Nat × Int32)), Cond.constant (ownZ 15) e.1 e.2 ∈ TsZ := by
  refine List.forall_mem_cons.mpr ⟨inT (i := 901) (by decide +kernel) rfl, ?_⟩
  refine List.forall_mem_cons.mpr ⟨inT (i := 902) (by decide +kernel) rfl, ?_⟩
  refine List.forall_mem_cons.mpr ⟨inT (i := 903) (by decide +kernel) rfl, ?_⟩
  exact fun _ h => absurd h List.not_mem_nil
theorem lL_15 : ∀ k v, lkL15 k = some v → (k, v) ∈ ([] : List (Nat × Int64)) := ent (by decide +kernel) (fun k h => nn h)
theorem lL2_15 : ∀ e ∈ ([] : List (Nat × Int64)), Cond.constantLong (ownZ 15) e.1 e.2 ∈ TsZ := by
  exact fun _ h => absurd h List.not_mem_nil
theorem lS_15 : ∀ k v, lkS15 k = some v → (k, v) ∈ ([] : List (Nat × Nat)) := ent (by decide +kernel) (fun k h => nn h)
theorem lS2_15 : ∀ e ∈ ([] : List (Nat × Nat)), e.2 < 18 ∧ ownZ 15 = "RecordHeap$Reader" ∧ e.1 = siZ.getD e.2 0 := by
  exact fun _ h => absurd h List.not_mem_nil
theorem l9_15 : ∀ k x, lkF15 k = some x → x.2.2 = 9 → Cond.fieldLink (ownZ 15) k "RecordHeap" "TERM_MOST" "[I" ∈ TsZ := by
  intro k x h h9
  have hm := lf_15 k x h
  exact absurd hm List.not_mem_nil
theorem lok_15 : LOK 15 := ⟨fun k x h h9 => lf2_15 _ (lf_15 k x h) h9, l9_15, fun k x h => ln2_15 _ (ln_15 k x h), fun k x h => lI2_15 _ (lI_15 k x h), fun k x h => lL2_15 _ (lL_15 k x h), fun k x h => lS2_15 _ (lS_15 k x h)⟩
theorem linkAll : ∀ o, o < 16 → COK o ∧ LOK o ∧ POK o := by
  intro o ho
  match o, ho with
  | 0, _ => exact ⟨cok_0, lok_0, pok_0⟩
  | 1, _ => exact ⟨cok_1, lok_1, pok_1⟩
  | 2, _ => exact ⟨cok_2, lok_2, pok_2⟩
  | 3, _ => exact ⟨cok_3, lok_3, pok_3⟩
  | 4, _ => exact ⟨cok_4, lok_4, pok_4⟩
  | 5, _ => exact ⟨cok_5, lok_5, pok_5⟩
  | 6, _ => exact ⟨cok_6, lok_6, pok_6⟩
  | 7, _ => exact ⟨cok_7, lok_7, pok_7⟩
  | 8, _ => exact ⟨cok_8, lok_8, pok_8⟩
  | 9, _ => exact ⟨cok_9, lok_9, pok_9⟩
  | 10, _ => exact ⟨cok_10, lok_10, pok_10⟩
  | 11, _ => exact ⟨cok_11, lok_11, pok_11⟩
  | 12, _ => exact ⟨cok_12, lok_12, pok_12⟩
  | 13, _ => exact ⟨cok_13, lok_13, pok_13⟩
  | 14, _ => exact ⟨cok_14, lok_14, pok_14⟩
  | 15, _ => exact ⟨cok_15, lok_15, pok_15⟩
  | n + 16, h => exact absurd h (by omega)
theorem allZ : AllZ := ⟨clsAll, mokAll, linkAll, inT (i := 53) (by decide +kernel) rfl, inT (i := 132) (by decide +kernel) rfl, inT (i := 1241) (by decide +kernel) rfl⟩
