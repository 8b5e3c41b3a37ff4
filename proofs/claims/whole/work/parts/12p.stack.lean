/-! THE STACK MACHINE OF BOTH: instructions by number: 0 a number, 1 a word, 2 .. 9 joined, 10 not, 11 and, 12 or -/
def joinR (op x y : Int) : Option Int :=
  if op = 2 then some (x + y) else if op = 3 then some (x - y) else if op = 4 then some (x * y) else
  if op = 5 then (if y = 0 then none else some (Int.tdiv x y)) else if op = 6 then (if y = 0 then none else some (x - Int.tdiv x y * y)) else
  if op = 7 then some (bi (x < y)) else if op = 8 then some (bi (y < x)) else some (bi (x = y))
def joinP (op x y : Int) : Option Int := match joinR op x y with
  | none => none
  | some z => if z < -1000000000 ∨ 1000000000 < z then none else some z
def runB (I : Int → Int × Int) (W : Int → Int) (b : Int) (k : Int → List Int → Option (Option (List Int))) (i : Int) (st : List Int) : Option (Option (List Int)) :=
  if b ≤ i then some (some st) else
    if (I i).1 = 0 then k (i + 1) ((I i).2 :: st) else
    if (I i).1 = 1 then k (i + 1) (W (I i).2 :: st) else
    match st with
    | [] => none
    | y :: r => if (I i).1 = 10 then k (i + 1) ((1 - y) :: r) else
      if (I i).1 < 10 then (match r with
        | [] => none
        | x :: r' => match joinP (I i).1 x y with
          | none => some none
          | some z => k (i + 1) (z :: r')) else
      if y = (if (I i).1 = 11 then 0 else 1) then k (max (i + 1) (I i).2) (y :: r) else k (i + 1) r
def runP (I : Int → Int × Int) (W : Int → Int) (b : Int) : Nat → Int → List Int → Option (Option (List Int))
  | 0 => fun _ _ => none
  | n + 1 => runB I W b (runP I W b n)
theorem runP_s (I : Int → Int × Int) (W : Int → Int) (b : Int) (n : Nat) (i : Int) (st : List Int) : runP I W b (n + 1) i st = runB I W b (runP I W b n) i st := rfl
theorem plt {a b : Int} (h : (r32 a ∧ r32 b) ∧ a < b) : v a < v b := (v_lt h.1.1 h.1.2).mpr h.2
theorem nlt {a b : Int} (h : (r32 a ∧ r32 b) ∧ ¬ a < b) : ¬ v a < v b := fun e => h.2 ((v_lt h.1.1 h.1.2).mp e)
theorem peq {a b : Int} (h : a = b) : v a = v b := by rw [h]
theorem pne {a b : Int} (h : (r32 a ∧ r32 b) ∧ ¬ a = b) : ¬ v a = v b := fun e => h.2 ((v_inj h.1.1 h.1.2).mp e)
theorem wBrk : (-9000000000000000000 : Int64) = w (-9000000000000000000) := by decide
theorem wMil : (-1000000000 : Int64) = w (-1000000000) := by decide
theorem lwMil : lN 1000000000 = w 1000000000 := rfl
theorem lwTri : lN 1000000000000 = w 1000000000000 := rfl
theorem wM1 : (-1 : Int64) = w (-1) := by decide
theorem w_div {a b : Int} (ha : -9223372036854775808 < a ∧ a < 9223372036854775808) (hb : r64 b) : w a / w b = w (Int.tdiv a b) := by
  have := Int64.ofInt_tdiv (a := a) (b := b) (by show (-9223372036854775808 : Int) ≤ a; omega) (by show a ≤ (9223372036854775807 : Int); omega) (by show (-9223372036854775808 : Int) ≤ b; omega) (by show b ≤ (9223372036854775807 : Int); omega)
  exact this.symm
theorem wc_eq {a b : Int} (ha : r64 a) (hb : r64 b) : (lg_cmp (w a) (w b) = v 0) ↔ a = b := (lg_cmp_eq (w a) (w b)).trans (w_inj ha hb)
theorem wc_lt {a b : Int} (ha : r64 a) (hb : r64 b) : (lg_cmp (w a) (w b) < v 0) ↔ a < b := (lg_cmp_lt (w a) (w b)).trans (w_lt ha hb)
theorem wc_gt {a b : Int} (ha : r64 a) (hb : r64 b) : (v 0 < lg_cmp (w a) (w b)) ↔ b < a := (lg_cmp_gt (w a) (w b)).trans (w_lt hb ha)
theorem wif {c : Prop} [Decidable c] {a b : Int} : (if c then w a else w b) = w (if c then a else b) := by split <;> rfl
abbrev stB (x : Int) : Prop := -1000000000 ≤ x ∧ x ≤ 1000000001
theorem mul_bound {x y : Int} (hx : stB x) (hy : stB y) : -2000000000000000000 ≤ x * y ∧ x * y ≤ 2000000000000000000 := by
  have h1 : (x * y).natAbs ≤ 1000000001 * 1000000001 := by
    rw [Int.natAbs_mul]
    exact Nat.mul_le_mul (by omega) (by omega)
  omega
theorem tdiv_bound (x y : Int) (hx : stB x) : stB (Int.tdiv x y) ∨ (-1000000001 ≤ Int.tdiv x y ∧ Int.tdiv x y ≤ 1000000001) := by
  right
  have h1 : (Int.tdiv x y).natAbs ≤ x.natAbs := by
    rw [Int.natAbs_tdiv]
    exact Nat.div_le_self _ _
  omega
theorem tmod_bound (x y : Int) (hx : stB x) : -1000000001 ≤ x - Int.tdiv x y * y ∧ x - Int.tdiv x y * y ≤ 1000000001 := by
  have h2 : x - Int.tdiv x y * y = Int.tmod x y := by rw [Int.tmod_def, Int.mul_comm]
  rw [h2]
  have h1 : (Int.tmod x y).natAbs ≤ x.natAbs := by
    rw [Int.natAbs_tmod]
    exact Nat.mod_le _ _
  omega
theorem joinR_b {op x y z : Int} (hx : stB x) (hy : stB y) (h : joinR op x y = some z) : -4000000000000000000 ≤ z ∧ z ≤ 4000000000000000000 := by
  have hm := mul_bound hx hy
  have ht := tdiv_bound x y hx
  have hr := tmod_bound x y hx
  have b1 := @bi_r (x < y) _
  have b2 := @bi_r (y < x) _
  have b3 := @bi_r (x = y) _
  unfold joinR at h
  by_cases e2 : op = 2
  · rw [if_pos e2] at h; cases h; omega
  rw [if_neg e2] at h
  by_cases e3 : op = 3
  · rw [if_pos e3] at h; cases h; omega
  rw [if_neg e3] at h
  by_cases e4 : op = 4
  · rw [if_pos e4] at h; cases h; omega
  rw [if_neg e4] at h
  by_cases e5 : op = 5
  · rw [if_pos e5] at h
    by_cases ey : y = 0
    · rw [if_pos ey] at h; cases h
    · rw [if_neg ey] at h; cases h; omega
  rw [if_neg e5] at h
  by_cases e6 : op = 6
  · rw [if_pos e6] at h
    by_cases ey : y = 0
    · rw [if_pos ey] at h; cases h
    · rw [if_neg ey] at h; cases h; omega
  rw [if_neg e6] at h
  by_cases e7 : op = 7
  · rw [if_pos e7] at h; cases h; omega
  rw [if_neg e7] at h
  by_cases e8 : op = 8
  · rw [if_pos e8] at h; cases h; omega
  rw [if_neg e8] at h; cases h; omega
theorem joinP_b {op x y z : Int} (h : joinP op x y = some z) : -1000000000 ≤ z ∧ z ≤ 1000000000 := by
  unfold joinP at h
  split at h
  · cases h
  · split at h
    · cases h
    · cases h; omega
def brk (o : Option Int) : Int := o.getD (-9000000000000000000)
theorem j157 {s : AS} {z : Int} (hz : r64 z) : b_Machine_joined_157 s (w z) = some (w (if z < -1000000000 ∨ 1000000000 < z then -9000000000000000000 else z)) := by
  unfold b_Machine_joined_157
  simp (disch := omega) only [nv0, wMil, lwMil, wBrk, wc_lt, wc_gt, wif]
  congr 2
  by_cases h1 : z < -1000000000
  · rw [if_pos h1, if_pos (Or.inl h1)]
  · by_cases h2 : 1000000000 < z
    · rw [if_neg h1, if_pos h2, if_pos (Or.inr h2)]
    · rw [if_neg h1, if_neg h2, if_neg (by omega)]
theorem s_joined {s : AS} {op x y : Int} (ho : 2 ≤ op ∧ op ≤ 9) (hx : stB x) (hy : stB y) : f_Machine_joined s (v op) (w x) (w y) = some (w (brk (joinP op x y))) := by
  have hm := mul_bound hx hy
  have ht := tdiv_bound x y hx
  have hr := tmod_bound x y hx
  have b1 := @bi_r (x < y) _
  have b2 := @bi_r (y < x) _
  have b3 := @bi_r (x = y) _
  have fin : ∀ z : Int, r64 z → joinR op x y = some z → b_Machine_joined_157 s (w z) = some (w (brk (joinP op x y))) := by
    intro z hz he
    rw [j157 hz]
    unfold joinP brk
    rw [he]
    by_cases h1 : z < -1000000000 ∨ 1000000000 < z
    · simp only [if_pos h1]; rfl
    · simp only [if_neg h1]; rfl
  have fin0 : joinR op x y = none → b_Machine_joined_157 s (-9000000000000000000 : Int64) = some (w (brk (joinP op x y))) := by
    intro he
    rw [wBrk, j157 (by omega)]
    unfold joinP brk
    rw [he]
    rfl
  unfold f_Machine_joined b_Machine_joined_87 b_Machine_joined_107 b_Machine_joined_123 b_Machine_joined_139 b_Machine_joined_155
  simp (disch := omega) only [nv2, nv3, nv4, nv5, nv6, nv7, nv8, v_inj]
  by_cases e2 : op = 2
  · rw [if_pos e2, w_add]; exact fin _ (by omega) (by unfold joinR; rw [if_pos e2])
  rw [if_neg e2]
  by_cases e3 : op = 3
  · rw [if_pos e3, w_sub]; exact fin _ (by omega) (by unfold joinR; rw [if_neg e2, if_pos e3])
  rw [if_neg e3]
  by_cases e4 : op = 4
  · rw [if_pos e4, w_mul]; exact fin _ (by omega) (by unfold joinR; rw [if_neg e2, if_neg e3, if_pos e4])
  rw [if_neg e4]
  by_cases e5 : op = 5
  · rw [if_pos e5]
    by_cases ey : y = 0
    · rw [if_pos (by rw [lw0, nv0, wc_eq (by omega) (by omega)]; exact ey)]
      exact fin0 (by unfold joinR; rw [if_neg e2, if_neg e3, if_neg e4, if_pos e5, if_pos ey])
    · rw [if_neg (by rw [lw0, nv0, wc_eq (by omega) (by omega)]; exact ey), if_pos (by rw [lw0, w_inj (by omega) (by omega)]; exact ey), w_div (by omega) (by omega)]
      exact fin _ (by omega) (by unfold joinR; rw [if_neg e2, if_neg e3, if_neg e4, if_pos e5, if_neg ey])
  rw [if_neg e5]
  by_cases e6 : op = 6
  · rw [if_pos e6]
    by_cases ey : y = 0
    · rw [if_pos (by rw [lw0, nv0, wc_eq (by omega) (by omega)]; exact ey)]
      exact fin0 (by unfold joinR; rw [if_neg e2, if_neg e3, if_neg e4, if_neg e5, if_pos e6, if_pos ey])
    · rw [if_neg (by rw [lw0, nv0, wc_eq (by omega) (by omega)]; exact ey), if_pos (by rw [lw0, w_inj (by omega) (by omega)]; exact ey), w_div (by omega) (by omega), w_mul, w_sub]
      exact fin _ (by omega) (by unfold joinR; rw [if_neg e2, if_neg e3, if_neg e4, if_neg e5, if_pos e6, if_neg ey])
  rw [if_neg e6]
  by_cases e7 : op = 7
  · rw [if_pos e7]
    simp (disch := omega) only [nv0, lw1, lw0, wc_lt, wif]
    exact fin _ (by omega) (by unfold joinR; rw [if_neg e2, if_neg e3, if_neg e4, if_neg e5, if_neg e6, if_pos e7]; rfl)
  rw [if_neg e7]
  by_cases e8 : op = 8
  · rw [if_pos e8]
    simp (disch := omega) only [nv0, lw1, lw0, wc_gt, wif]
    exact fin _ (by omega) (by unfold joinR; rw [if_neg e2, if_neg e3, if_neg e4, if_neg e5, if_neg e6, if_neg e7, if_pos e8]; rfl)
  rw [if_neg e8]
  simp (disch := omega) only [nv0, lw1, lw0, wc_eq, wif]
  exact fin _ (by omega) (by unfold joinR; rw [if_neg e2, if_neg e3, if_neg e4, if_neg e5, if_neg e6, if_neg e7, if_neg e8]; rfl)
