/-! THE TABLES HOLD: every number of parts 01 and 05b against the Statement's words -/
theorem memL {ws : List Cond} {ps : List Nat} (h : ps.map (fun i => tables_1[i]?) = ws.map some) (hg : ws.all goodWord = true) : ∀ w ∈ ws, w ∈ TsZ := by
  intro w hw
  have h1 : some w ∈ ps.map (fun i => tables_1[i]?) := by rw [h]; exact List.mem_map.mpr ⟨w, hw, rfl⟩
  obtain ⟨i, -, hi⟩ := List.mem_map.mp h1
  exact inT hi (List.all_eq_true.mp hg w hw)
theorem inN {w : Cond} {i : Nat} (h : tables_1[i]? = some w) (hn : isNest w = true) : w ∈ nestZ := List.mem_filter.mpr ⟨List.mem_of_getElem? h, hn⟩
theorem inS {y : MethodName} {i n : Nat} (h : lw_privs[i]? = some (y, n)) : Cond.selects y.cls y y ∈ TsZ :=
  List.mem_filter.mpr ⟨List.mem_append_left _ (List.mem_map.mpr ⟨(y, n), List.mem_of_getElem? h, rfl⟩), rfl⟩
def isRefT : FieldType → Bool
  | .object _ => true
  | .array _ => true
  | _ => false
theorem isRefT_spec {t : FieldType} (h : isRefT t = true) : (∃ n, t = .object n) ∨ ∃ u, t = .array u := by
  cases t <;> first | exact Or.inl ⟨_, rfl⟩ | exact Or.inr ⟨_, rfl⟩ | cases h
def chk5 (ks : List Nat) (ty : Nat → FieldType) : Bool := (List.range ks.length).all (fun k => match ks[k]? with
  | some 0 => decide (ty k = .int)
  | some 1 => decide (ty k = .boolean)
  | some 2 => decide (ty k = .long)
  | some 3 => isRefT (ty k)
  | _ => false)
theorem chk5_ok {ks : List Nat} {ty : Nat → FieldType} (h : chk5 ks ty = true) : ∀ k kd, ks[k]? = some kd → (kd = 0 ∧ ty k = .int) ∨ (kd = 1 ∧ ty k = .boolean) ∨ (kd = 2 ∧ ty k = .long) ∨ (kd = 3 ∧ ((∃ n, ty k = .object n) ∨ ∃ t, ty k = .array t)) := by
  intro k kd hk
  have hl := (List.getElem?_eq_some_iff.mp hk).1
  have h1 := List.all_eq_true.mp h k (List.mem_range.mpr hl)
  rw [hk] at h1
  match kd, h1 with
  | 0, h1 => exact Or.inl ⟨rfl, of_decide_eq_true h1⟩
  | 1, h1 => exact Or.inr (Or.inl ⟨rfl, of_decide_eq_true h1⟩)
  | 2, h1 => exact Or.inr (Or.inr (Or.inl ⟨rfl, of_decide_eq_true h1⟩))
  | 3, h1 => exact Or.inr (Or.inr (Or.inr ⟨rfl, isRefT_spec h1⟩))
  | _ + 4, h1 => cases h1
def chkI (M : MI) (nm : String) (pc : Nat) (i : Instr) : Bool := match i with
  | .ifCond _ o => decide (0 ≤ (pc : Int) + o)
  | .if_icmp _ o => decide (0 ≤ (pc : Int) + o)
  | .ifnull o => decide (0 ≤ (pc : Int) + o)
  | .ifnonnull o => decide (0 ≤ (pc : Int) + o)
  | .goto o => decide (0 ≤ (pc : Int) + o)
  | .tableswitch d lo hi os => decide (0 ≤ (pc : Int) + d ∧ (∀ o ∈ os.toList, 0 ≤ (pc : Int) + o) ∧ 0 ≤ lo ∧ hi = lo + os.size - 1 ∧ hi < 1000)
  | .iconst n => decide (-1 ≤ n ∧ n ≤ 5)
  | .bipush n => decide (-128 ≤ n ∧ n ≤ 127)
  | .sipush n => decide (-32768 ≤ n ∧ n ≤ 32767)
  | .putfield k => match lkF M.2.1 k with
    | some x => !(clT x.1 x.2.1).2.2.2 || (decide (nm = "<init>") && decide ((clT x.1 x.2.1).1 = ownZ M.2.1))
    | none => true
  | _ => true
def chkM (M : MI) (cc : ByteArray) (nm : String) (N : Nat) : Bool := (List.range N).all (fun pc => match M.1 pc with
  | none => true
  | some (i, len) => decide (decode cc pc = .ok (i, len)) && (decide (lenI i = 0) || decide (len = lenI i)) && chkI M nm pc i)
theorem chkM_ok {M : MI} {cc : ByteArray} {nm : String} {N : Nat} (h : chkM M cc nm N = true) (hN : ∀ n, N ≤ n → M.1 n = none) : DecZ M cc ∧ FinZ M nm ∧ JmpZ M := by
  have key : ∀ pc i len, M.1 pc = some (i, len) → (decode cc pc = .ok (i, len) ∧ (lenI i = 0 ∨ len = lenI i)) ∧ chkI M nm pc i = true := by
    intro pc i len hm
    have hl : pc < N := by
      rcases Nat.lt_or_ge pc N with q | q
      · exact q
      · rw [hN pc q] at hm; cases hm
    have h1 := List.all_eq_true.mp h pc (List.mem_range.mpr hl)
    rw [hm] at h1
    simp only [Bool.and_eq_true, Bool.or_eq_true, decide_eq_true_eq] at h1
    exact ⟨⟨h1.1.1, h1.1.2⟩, h1.2⟩
  refine ⟨fun pc i len hm => (key pc i len hm).1, fun pc k len x hm hx hf => ?_, fun pc i len hm => ?_⟩
  · have h2 := (key pc _ len hm).2
    simp only [chkI, hx, hf, Bool.not_true, Bool.false_or, Bool.and_eq_true, decide_eq_true_eq] at h2
    exact h2
  · have h2 := (key pc i len hm).2
    cases i <;> first | trivial | exact of_decide_eq_true h2
/-- a table of a pool's places, by its rows -/
theorem ent {α : Type} [DecidableEq α] {f : Nat → Option α} {es : List (Nat × α)} (h : ((List.range 1024).all (fun k => match f k with | none => true | some v => decide ((k, v) ∈ es))) = true) (hN : ∀ k, 1024 ≤ k → f k = none) : ∀ k v, f k = some v → (k, v) ∈ es := by
  intro k v hk
  have hl : k < 1024 := by
    rcases Nat.lt_or_ge k 1024 with q | q
    · exact q
    · rw [hN k q] at hk; cases hk
  have h1 := List.all_eq_true.mp h k (List.mem_range.mpr hl)
  rw [hk] at h1
  exact of_decide_eq_true h1
theorem nn {α : Type} {N n : Nat} {y : Option α} (h : N ≤ n) : (bif Nat.ble N n then none else y) = none := by rw [Nat.ble_eq_true_of_le h]; rfl
theorem cls_0 : ClsZ 0 := ⟨rfl, memL (ps := [336, 338, 340, 342, 344, 346, 348, 350, 352, 354, 356, 358, 360, 362, 364, 366]) (by decide +kernel) (by decide +kernel), by decide +kernel, by decide +kernel, chk5_ok (by decide +kernel), inT (i := 23) (by decide +kernel) rfl, inT (i := 1) (by decide +kernel) rfl, by decide +kernel⟩
theorem cls_1 : ClsZ 1 := ⟨rfl, memL (ps := [303, 305, 307, 309, 311, 313, 315]) (by decide +kernel) (by decide +kernel), by decide +kernel, by decide +kernel, chk5_ok (by decide +kernel), inT (i := 291) (by decide +kernel) rfl, inT (i := 13) (by decide +kernel) rfl, by decide +kernel⟩
theorem cls_2 : ClsZ 2 := ⟨rfl, memL (ps := [221, 223, 225, 227, 229, 231, 233]) (by decide +kernel) (by decide +kernel), by decide +kernel, by decide +kernel, chk5_ok (by decide +kernel), inT (i := 160) (by decide +kernel) rfl, inT (i := 8) (by decide +kernel) rfl, by decide +kernel⟩
theorem cls_3 : ClsZ 3 := ⟨rfl, memL (ps := [1012, 1014]) (by decide +kernel) (by decide +kernel), by decide +kernel, by decide +kernel, chk5_ok (by decide +kernel), inT (i := 999) (by decide +kernel) rfl, inT (i := 21) (by decide +kernel) rfl, by decide +kernel⟩
theorem cls_4 : ClsZ 4 := ⟨rfl, memL (ps := [249, 251, 253]) (by decide +kernel) (by decide +kernel), by decide +kernel, by decide +kernel, chk5_ok (by decide +kernel), inT (i := 237) (by decide +kernel) rfl, inT (i := 11) (by decide +kernel) rfl, by decide +kernel⟩
theorem cls_5 : ClsZ 5 := ⟨rfl, memL (ps := [127, 129]) (by decide +kernel) (by decide +kernel), by decide +kernel, by decide +kernel, chk5_ok (by decide +kernel), inT (i := 118) (by decide +kernel) rfl, inT (i := 6) (by decide +kernel) rfl, by decide +kernel⟩
theorem cls_6 : ClsZ 6 := ⟨rfl, memL (ps := [193, 195, 197, 199, 201, 203]) (by decide +kernel) (by decide +kernel), by decide +kernel, by decide +kernel, chk5_ok (by decide +kernel), inT (i := 166) (by decide +kernel) rfl, inT (i := 9) (by decide +kernel) rfl, by decide +kernel⟩
theorem cls_7 : ClsZ 7 := ⟨rfl, memL (ps := [100, 102, 104, 106, 108, 110, 112, 114]) (by decide +kernel) (by decide +kernel), by decide +kernel, by decide +kernel, chk5_ok (by decide +kernel), inT (i := 55) (by decide +kernel) rfl, inT (i := 4) (by decide +kernel) rfl, by decide +kernel⟩
theorem cls_8 : ClsZ 8 := ⟨rfl, memL (ps := [48, 50]) (by decide +kernel) (by decide +kernel), by decide +kernel, by decide +kernel, chk5_ok (by decide +kernel), inT (i := 31) (by decide +kernel) rfl, inT (i := 2) (by decide +kernel) rfl, by decide +kernel⟩
theorem cls_9 : ClsZ 9 := ⟨rfl, memL (ps := [275, 277, 279, 281, 283, 285, 287]) (by decide +kernel) (by decide +kernel), by decide +kernel, by decide +kernel, chk5_ok (by decide +kernel), inT (i := 257) (by decide +kernel) rfl, inT (i := 12) (by decide +kernel) rfl, by decide +kernel⟩
theorem cls_10 : ClsZ 10 := ⟨rfl, memL (ps := [150, 152, 154, 156]) (by decide +kernel) (by decide +kernel), by decide +kernel, by decide +kernel, chk5_ok (by decide +kernel), inT (i := 134) (by decide +kernel) rfl, inT (i := 7) (by decide +kernel) rfl, by decide +kernel⟩
theorem cls_11 : ClsZ 11 := ⟨rfl, memL (ps := [79, 81, 83, 85]) (by decide +kernel) (by decide +kernel), by decide +kernel, by decide +kernel, chk5_ok (by decide +kernel), inT (i := 61) (by decide +kernel) rfl, inT (i := 5) (by decide +kernel) rfl, by decide +kernel⟩
theorem cls_12 : ClsZ 12 := ⟨rfl, memL (ps := [1126, 1128, 1130, 1132, 1134, 1136, 1138, 1140, 1142, 1144, 1146, 1148, 1150, 1152, 1154, 1156, 1158, 1160, 1162, 1164, 1166, 1168, 1170, 1172, 1174, 1176, 1178, 1180, 1182, 1184, 1186, 1188, 1190, 1192, 1194, 1196, 1198, 1200, 1202, 1204, 1206, 1208, 1210, 1212, 1214, 1216, 1218, 1220, 1222, 1224, 1226, 1228, 1230, 1232, 1234, 1236, 1238]) (by decide +kernel) (by decide +kernel), by decide +kernel, by decide +kernel, chk5_ok (by decide +kernel), inT (i := 1044) (by decide +kernel) rfl, inT (i := 14) (by decide +kernel) rfl, by decide +kernel⟩
theorem clsAll : ∀ c, c < 13 → ClsZ c := by
  intro c hc
  match c, hc with
  | 0, _ => exact cls_0
  | 1, _ => exact cls_1
  | 2, _ => exact cls_2
  | 3, _ => exact cls_3
  | 4, _ => exact cls_4
  | 5, _ => exact cls_5
  | 6, _ => exact cls_6
  | 7, _ => exact cls_7
  | 8, _ => exact cls_8
  | 9, _ => exact cls_9
  | 10, _ => exact cls_10
  | 11, _ => exact cls_11
  | 12, _ => exact cls_12
  | n + 13, h => exact absurd h (by omega)
