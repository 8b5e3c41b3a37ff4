/-! INTS: Int32 and Int64 by Int -/
def v (z : Int) : Int32 := Int32.ofInt z
def w (z : Int) : Int64 := Int64.ofInt z
abbrev r32 (z : Int) : Prop := -2147483648 ≤ z ∧ z < 2147483648
abbrev r64 (z : Int) : Prop := -9223372036854775808 ≤ z ∧ z < 9223372036854775808
theorem v_toInt {z : Int} (h : r32 z) : (v z).toInt = z := Int32.toInt_ofInt_of_le h.1 h.2
theorem w_toInt {z : Int} (h : r64 z) : (w z).toInt = z := Int64.toInt_ofInt_of_le h.1 h.2
theorem nI_v (k : Nat) : nI k = v k := rfl
theorem lN_w (k : Nat) : lN k = w k := rfl
theorem v_add (a b : Int) : v a + v b = v (a + b) := (Int32.ofInt_add a b).symm
theorem v_sub (a b : Int) : v a - v b = v (a - b) := (Int32.ofInt_sub a b).symm
theorem v_mul (a b : Int) : v a * v b = v (a * b) := (Int32.ofInt_mul a b).symm
theorem v_neg (a : Int) : -(v a) = v (-a) := (Int32.ofInt_neg a).symm
theorem w_add (a b : Int) : w a + w b = w (a + b) := (Int64.ofInt_add a b).symm
theorem w_sub (a b : Int) : w a - w b = w (a - b) := (Int64.ofInt_sub a b).symm
theorem w_mul (a b : Int) : w a * w b = w (a * b) := (Int64.ofInt_mul a b).symm
theorem w_neg (a : Int) : -(w a) = w (-a) := (Int64.ofInt_neg a).symm
theorem v_lt {a b : Int} (ha : r32 a) (hb : r32 b) : (v a < v b) ↔ a < b := by rw [Int32.lt_iff_toInt_lt, v_toInt ha, v_toInt hb]
theorem v_le {a b : Int} (ha : r32 a) (hb : r32 b) : (v a ≤ v b) ↔ a ≤ b := by rw [Int32.le_iff_toInt_le, v_toInt ha, v_toInt hb]
theorem v_inj {a b : Int} (ha : r32 a) (hb : r32 b) : (v a = v b) ↔ a = b := ⟨fun h => by rw [← v_toInt ha, ← v_toInt hb, h], fun h => by rw [h]⟩
theorem w_lt {a b : Int} (ha : r64 a) (hb : r64 b) : (w a < w b) ↔ a < b := by rw [Int64.lt_iff_toInt_lt, w_toInt ha, w_toInt hb]
theorem w_le {a b : Int} (ha : r64 a) (hb : r64 b) : (w a ≤ w b) ↔ a ≤ b := by rw [Int64.le_iff_toInt_le, w_toInt ha, w_toInt hb]
theorem w_inj {a b : Int} (ha : r64 a) (hb : r64 b) : (w a = w b) ↔ a = b := ⟨fun h => by rw [← w_toInt ha, ← w_toInt hb, h], fun h => by rw [h]⟩
theorem v_ix {a : Int} (ha : 0 ≤ a ∧ a < 2147483648) : (v a).toNatClampNeg = a.toNat := by
  show (v a).toInt.toNat = _
  rw [v_toInt ⟨by omega, ha.2⟩]
theorem v_inA {a : Int} {n : Nat} (ha : 0 ≤ a ∧ a < 2147483648) (h : a < n) : inA (v a) n := by
  intro hc
  rw [show (0 : Int32) = v 0 from rfl, v_lt ⟨by omega, ha.2⟩ ⟨by omega, by omega⟩, v_ix ha] at hc
  omega
theorem v_div {a b : Int} (ha : 0 ≤ a ∧ a < 2147483648) (hb : 0 < b ∧ b < 2147483648) : v a / v b = v (a / b) := by
  have := Int32.ofInt_tdiv (a := a) (b := b) (by show (-2147483648 : Int) ≤ a; omega) (by show a ≤ (2147483647 : Int); omega) (by show (-2147483648 : Int) ≤ b; omega) (by show b ≤ (2147483647 : Int); omega)
  rw [Int.tdiv_eq_ediv_of_nonneg ha.1] at this
  exact this.symm
theorem v_mod {a b : Int} (ha : 0 ≤ a ∧ a < 2147483648) (hb : 0 < b ∧ b < 2147483648) : v a % v b = v (a % b) := by
  have := Int32.ofInt_tmod (a := a) (b := b) (by show (-2147483648 : Int) ≤ a; omega) (by show a ≤ (2147483647 : Int); omega) (by show (-2147483648 : Int) ≤ b; omega) (by show b ≤ (2147483647 : Int); omega)
  rw [Int.tmod_eq_emod_of_nonneg ha.1] at this
  exact this.symm
theorem v_w {a : Int} (ha : r32 a) : (v a).toInt64 = w a := Int64.toInt_inj.mp (by rw [Int32.toInt_toInt64, v_toInt ha, w_toInt ⟨by omega, by omega⟩])
theorem w_v (a : Int) : (w a).toInt32 = v a := by
  unfold v w
  exact Int64.toInt32_ofInt
theorem v_of (x : Int32) : ∃ z : Int, r32 z ∧ x = v z := ⟨x.toInt, ⟨Int32.le_toInt x, Int32.toInt_lt x⟩, (Int32.ofInt_toInt x).symm⟩
/-! PLACES: what the writes leave -/
theorem sI_setI (s : AS) (p j q k : Nat) (x : Int32) : sI (setI s p j x) q k = if q = p ∧ k = j then x else sI s q k := rfl
theorem sI_rowI (s : AS) (p q : Nat) (f : Nat → Int32) : sI (rowI s p f) q = if q = p then f else sI s q := by
  show up1 _ _ _ _ = _
  unfold up1
  rfl
theorem sL_setJ (s : AS) (p j q k : Nat) (x : Int64) : sL (setJ s p j x) q k = if q = p ∧ k = j then x else sL s q k := rfl
theorem sR_setR (s : AS) (p j q k : Nat) (x : Nat) : sR (setR s p j x) q k = if q = p ∧ k = j then x else sR s q k := rfl
theorem setI_T (s : AS) (p j : Nat) (x : Int32) : sT (setI s p j x) = sT s := rfl
theorem setI_N (s : AS) (p j : Nat) (x : Int32) : sN (setI s p j x) = sN s := rfl
theorem setI_R (s : AS) (p j : Nat) (x : Int32) : sR (setI s p j x) = sR s := rfl
theorem setI_L (s : AS) (p j : Nat) (x : Int32) : sL (setI s p j x) = sL s := rfl
theorem setI_X (s : AS) (p j : Nat) (x : Int32) : sX (setI s p j x) = sX s := rfl
theorem setI_Z (s : AS) (p j : Nat) (x : Int32) : sZ (setI s p j x) = sZ s := rfl
theorem setJ_T (s : AS) (p j : Nat) (x : Int64) : sT (setJ s p j x) = sT s := rfl
theorem setJ_N (s : AS) (p j : Nat) (x : Int64) : sN (setJ s p j x) = sN s := rfl
theorem setJ_R (s : AS) (p j : Nat) (x : Int64) : sR (setJ s p j x) = sR s := rfl
theorem setJ_I (s : AS) (p j : Nat) (x : Int64) : sI (setJ s p j x) = sI s := rfl
theorem setJ_X (s : AS) (p j : Nat) (x : Int64) : sX (setJ s p j x) = sX s := rfl
theorem setJ_Z (s : AS) (p j : Nat) (x : Int64) : sZ (setJ s p j x) = sZ s := rfl
theorem rowI_T (s : AS) (p : Nat) (f : Nat → Int32) : sT (rowI s p f) = sT s := rfl
theorem rowI_N (s : AS) (p : Nat) (f : Nat → Int32) : sN (rowI s p f) = sN s := rfl
theorem rowI_R (s : AS) (p : Nat) (f : Nat → Int32) : sR (rowI s p f) = sR s := rfl
theorem rowI_L (s : AS) (p : Nat) (f : Nat → Int32) : sL (rowI s p f) = sL s := rfl
theorem rowI_X (s : AS) (p : Nat) (f : Nat → Int32) : sX (rowI s p f) = sX s := rfl
theorem rowI_Z (s : AS) (p : Nat) (f : Nat → Int32) : sZ (rowI s p f) = sZ s := rfl
/-- the same shape; the same but at some places -/
def St (s s' : AS) : Prop := sR s' = sR s ∧ sT s' = sT s ∧ sN s' = sN s ∧ sX s' = sX s ∧ sZ s' = sZ s
def Fr (F : Nat → Prop) (s s' : AS) : Prop := St s s' ∧ ∀ q, ¬ F q → sI s' q = sI s q ∧ sL s' q = sL s q
theorem St.rf (s : AS) : St s s := ⟨rfl, rfl, rfl, rfl, rfl⟩
theorem St.tr {a b c : AS} (h : St a b) (k : St b c) : St a c := ⟨k.1.trans h.1, k.2.1.trans h.2.1, k.2.2.1.trans h.2.2.1, k.2.2.2.1.trans h.2.2.2.1, k.2.2.2.2.trans h.2.2.2.2⟩
theorem Fr.rf (F : Nat → Prop) (s : AS) : Fr F s s := ⟨St.rf s, fun _ _ => ⟨rfl, rfl⟩⟩
theorem Fr.tr {F : Nat → Prop} {a b c : AS} (h : Fr F a b) (k : Fr F b c) : Fr F a c := ⟨h.1.tr k.1, fun q hq => ⟨(k.2 q hq).1.trans (h.2 q hq).1, (k.2 q hq).2.trans (h.2 q hq).2⟩⟩
theorem Fr.mo {F G : Nat → Prop} {a b : AS} (h : Fr F a b) (hFG : ∀ q, F q → G q) : Fr G a b := ⟨h.1, fun q hq => h.2 q (fun hf => hq (hFG q hf))⟩
theorem Fr.si {F : Nat → Prop} {s : AS} {p j : Nat} {x : Int32} (h : F p) : Fr F s (setI s p j x) := ⟨St.rf s, fun q hq => ⟨by
  have hn : q ≠ p := fun e => hq (e ▸ h)
  funext k
  rw [sI_setI, if_neg (fun e => hn e.1)], rfl⟩⟩
theorem Fr.sj {F : Nat → Prop} {s : AS} {p j : Nat} {x : Int64} (h : F p) : Fr F s (setJ s p j x) := ⟨St.rf s, fun q hq => ⟨rfl, by
  have hn : q ≠ p := fun e => hq (e ▸ h)
  funext k
  rw [sL_setJ, if_neg (fun e => hn e.1)]⟩⟩
theorem Fr.ri {F : Nat → Prop} {s : AS} {p : Nat} {f : Nat → Int32} (h : F p) : Fr F s (rowI s p f) := ⟨St.rf s, fun q hq => ⟨by
  have hn : q ≠ p := fun e => hq (e ▸ h)
  rw [sI_rowI, if_neg hn], rfl⟩⟩
