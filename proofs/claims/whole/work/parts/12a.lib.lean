/-! INTS: Int32 and Int64 by Int -/
def v (z : Int) : Int32 := Int32.ofInt z
def w (z : Int) : Int64 := Int64.ofInt z
abbrev r32 (z : Int) : Prop := -2147483648 ≤ z ∧ z < 2147483648
abbrev r64 (z : Int) : Prop := -9223372036854775808 ≤ z ∧ z < 9223372036854775808
theorem v_toInt {z : Int} (h : r32 z) : (v z).toInt = z := Int32.toInt_ofInt_of_le h.1 h.2
theorem w_toInt {z : Int} (h : r64 z) : (w z).toInt = z := Int64.toInt_ofInt_of_le h.1 h.2
theorem nI_v (k : Nat) : nI k = v k := rfl
theorem lN_w (k : Nat) : lN k = w k := rfl
theorem v_add (a b : Int) : v a + v b = v (a + b) := (Int32.ofInt_add a b).symm
theorem v_sub (a b : Int) : v a - v b = v (a - b) := (Int32.ofInt_sub a b).symm
theorem v_mul (a b : Int) : v a * v b = v (a * b) := (Int32.ofInt_mul a b).symm
theorem v_neg (a : Int) : -(v a) = v (-a) := (Int32.ofInt_neg a).symm
theorem w_add (a b : Int) : w a + w b = w (a + b) := (Int64.ofInt_add a b).symm
theorem w_sub (a b : Int) : w a - w b = w (a - b) := (Int64.ofInt_sub a b).symm
theorem w_mul (a b : Int) : w a * w b = w (a * b) := (Int64.ofInt_mul a b).symm
theorem w_neg (a : Int) : -(w a) = w (-a) := (Int64.ofInt_neg a).symm
theorem v_lt {a b : Int} (ha : r32 a) (hb : r32 b) : (v a < v b) ↔ a < b := by rw [Int32.lt_iff_toInt_lt, v_toInt ha, v_toInt hb]
theorem v_le {a b : Int} (ha : r32 a) (hb : r32 b) : (v a ≤ v b) ↔ a ≤ b := by rw [Int32.le_iff_toInt_le, v_toInt ha, v_toInt hb]
theorem v_inj {a b : Int} (ha : r32 a) (hb : r32 b) : (v a = v b) ↔ a = b := ⟨fun h => by rw [← v_toInt ha, ← v_toInt hb, h], fun h => by rw [h]⟩
theorem w_lt {a b : Int} (ha : r64 a) (hb : r64 b) : (w a < w b) ↔ a < b := by rw [Int64.lt_iff_toInt_lt, w_toInt ha, w_toInt hb]
theorem w_le {a b : Int} (ha : r64 a) (hb : r64 b) : (w a ≤ w b) ↔ a ≤ b := by rw [Int64.le_iff_toInt_le, w_toInt ha, w_toInt hb]
theorem w_inj {a b : Int} (ha : r64 a) (hb : r64 b) : (w a = w b) ↔ a = b := ⟨fun h => by rw [← w_toInt ha, ← w_toInt hb, h], fun h => by rw [h]⟩
theorem v_ix {a : Int} (ha : 0 ≤ a ∧ a < 2147483648) : (v a).toNatClampNeg = a.toNat := by
  show (v a).toInt.toNat = _
  rw [v_toInt ⟨by omega, ha.2⟩]
theorem v_inA {a : Int} {n : Nat} (ha : 0 ≤ a ∧ a < 2147483648) (h : a < n) : inA (v a) n := by
  intro hc
  rw [show (0 : Int32) = v 0 from rfl, v_lt ⟨by omega, ha.2⟩ ⟨by omega, by omega⟩, v_ix ha] at hc
  omega
theorem v_div {a b : Int} (ha : 0 ≤ a ∧ a < 2147483648) (hb : 0 < b ∧ b < 2147483648) : v a / v b = v (a / b) := by
  have := Int32.ofInt_tdiv (a := a) (b := b) (by show (-2147483648 : Int) ≤ a; omega) (by show a ≤ (2147483647 : Int); omega) (by show (-2147483648 : Int) ≤ b; omega) (by show b ≤ (2147483647 : Int); omega)
  rw [Int.tdiv_eq_ediv_of_nonneg ha.1] at this
  exact this.symm
theorem v_mod {a b : Int} (ha : 0 ≤ a ∧ a < 2147483648) (hb : 0 < b ∧ b < 2147483648) : v a % v b = v (a % b) := by
  have := Int32.ofInt_tmod (a := a) (b := b) (by show (-2147483648 : Int) ≤ a; omega) (by show a ≤ (2147483647 : Int); omega) (by show (-2147483648 : Int) ≤ b; omega) (by show b ≤ (2147483647 : Int); omega)
  rw [Int.tmod_eq_emod_of_nonneg ha.1] at this
  exact this.symm
theorem v_w {a : Int} (ha : r32 a) : (v a).toInt64 = w a := Int64.toInt_inj.mp (by rw [Int32.toInt_toInt64, v_toInt ha, w_toInt ⟨by omega, by omega⟩])
theorem w_v (a : Int) : (w a).toInt32 = v a := by
  unfold v w
  exact Int64.toInt32_ofInt
theorem v_of (x : Int32) : ∃ z : Int, r32 z ∧ x = v z := ⟨x.toInt, ⟨Int32.le_toInt x, Int32.toInt_lt x⟩, (Int32.ofInt_toInt x).symm⟩
/-! PLACES: what the writes leave -/
theorem sI_setI (s : AS) (p j q k : Nat) (x : Int32) : sI (setI s p j x) q k = if q = p ∧ k = j then x else sI s q k := rfl
theorem sI_rowI (s : AS) (p q : Nat) (f : Nat → Int32) : sI (rowI s p f) q = if q = p then f else sI s q := by
  show up1 _ _ _ _ = _
  unfold up1
  rfl
theorem sL_setJ (s : AS) (p j q k : Nat) (x : Int64) : sL (setJ s p j x) q k = if q = p ∧ k = j then x else sL s q k := rfl
theorem sR_setR (s : AS) (p j q k : Nat) (x : Nat) : sR (setR s p j x) q k = if q = p ∧ k = j then x else sR s q k := rfl
theorem setI_T (s : AS) (p j : Nat) (x : Int32) : sT (setI s p j x) = sT s := rfl
theorem setI_N (s : AS) (p j : Nat) (x : Int32) : sN (setI s p j x) = sN s := rfl
theorem setI_R (s : AS) (p j : Nat) (x : Int32) : sR (setI s p j x) = sR s := rfl
theorem setI_L (s : AS) (p j : Nat) (x : Int32) : sL (setI s p j x) = sL s := rfl
theorem setI_X (s : AS) (p j : Nat) (x : Int32) : sX (setI s p j x) = sX s := rfl
theorem setI_Z (s : AS) (p j : Nat) (x : Int32) : sZ (setI s p j x) = sZ s := rfl
theorem setJ_T (s : AS) (p j : Nat) (x : Int64) : sT (setJ s p j x) = sT s := rfl
theorem setJ_N (s : AS) (p j : Nat) (x : Int64) : sN (setJ s p j x) = sN s := rfl
theorem setJ_R (s : AS) (p j : Nat) (x : Int64) : sR (setJ s p j x) = sR s := rfl
theorem setJ_I (s : AS) (p j : Nat) (x : Int64) : sI (setJ s p j x) = sI s := rfl
theorem setJ_X (s : AS) (p j : Nat) (x : Int64) : sX (setJ s p j x) = sX s := rfl
theorem setJ_Z (s : AS) (p j : Nat) (x : Int64) : sZ (setJ s p j x) = sZ s := rfl
theorem rowI_T (s : AS) (p : Nat) (f : Nat → Int32) : sT (rowI s p f) = sT s := rfl
theorem rowI_N (s : AS) (p : Nat) (f : Nat → Int32) : sN (rowI s p f) = sN s := rfl
theorem rowI_R (s : AS) (p : Nat) (f : Nat → Int32) : sR (rowI s p f) = sR s := rfl
theorem rowI_L (s : AS) (p : Nat) (f : Nat → Int32) : sL (rowI s p f) = sL s := rfl
theorem rowI_X (s : AS) (p : Nat) (f : Nat → Int32) : sX (rowI s p f) = sX s := rfl
theorem rowI_Z (s : AS) (p : Nat) (f : Nat → Int32) : sZ (rowI s p f) = sZ s := rfl
/-- the same shape; the same but at some places -/
def St (s s' : AS) : Prop := sR s' = sR s ∧ sT s' = sT s ∧ sN s' = sN s ∧ sX s' = sX s ∧ sZ s' = sZ s
def Fr (F : Nat → Prop) (s s' : AS) : Prop := St s s' ∧ ∀ q, ¬ F q → sI s' q = sI s q ∧ sL s' q = sL s q
theorem St.rf (s : AS) : St s s := ⟨rfl, rfl, rfl, rfl, rfl⟩
theorem St.tr {a b c : AS} (h : St a b) (k : St b c) : St a c := ⟨k.1.trans h.1, k.2.1.trans h.2.1, k.2.2.1.trans h.2.2.1, k.2.2.2.1.trans h.2.2.2.1, k.2.2.2.2.trans h.2.2.2.2⟩
theorem Fr.rf (F : Nat → Prop) (s : AS) : Fr F s s := ⟨St.rf s, fun _ _ => ⟨rfl, rfl⟩⟩
theorem Fr.tr {F : Nat → Prop} {a b c : AS} (h : Fr F a b) (k : Fr F b c) : Fr F a c := ⟨h.1.tr k.1, fun q hq => ⟨(k.2 q hq).1.trans (h.2 q hq).1, (k.2 q hq).2.trans (h.2 q hq).2⟩⟩
theorem Fr.mo {F G : Nat → Prop} {a b : AS} (h : Fr F a b) (hFG : ∀ q, F q → G q) : Fr G a b := ⟨h.1, fun q hq => h.2 q (fun hf => hq (hFG q hf))⟩
theorem Fr.si {F : Nat → Prop} {s : AS} {p j : Nat} {x : Int32} (h : F p) : Fr F s (setI s p j x) := ⟨St.rf s, fun q hq => ⟨by
  have hn : q ≠ p := fun e => hq (e ▸ h)
  funext k
  rw [sI_setI, if_neg (fun e => hn e.1)], rfl⟩⟩
theorem Fr.sj {F : Nat → Prop} {s : AS} {p j : Nat} {x : Int64} (h : F p) : Fr F s (setJ s p j x) := ⟨St.rf s, fun q hq => ⟨rfl, by
  have hn : q ≠ p := fun e => hq (e ▸ h)
  funext k
  rw [sL_setJ, if_neg (fun e => hn e.1)]⟩⟩
theorem Fr.ri {F : Nat → Prop} {s : AS} {p : Nat} {f : Nat → Int32} (h : F p) : Fr F s (rowI s p f) := ⟨St.rf s, fun q hq => ⟨by
  have hn : q ≠ p := fun e => hq (e ▸ h)
  rw [sI_rowI, if_neg hn], rfl⟩⟩
/-! literals -/
theorem nv0 : nI 0 = v 0 := rfl
theorem nv1 : nI 1 = v 1 := rfl
theorem nv2 : nI 2 = v 2 := rfl
theorem nv3 : nI 3 = v 3 := rfl
theorem nv4 : nI 4 = v 4 := rfl
theorem nv5 : nI 5 = v 5 := rfl
theorem nv6 : nI 6 = v 6 := rfl
theorem nv7 : nI 7 = v 7 := rfl
theorem nv8 : nI 8 = v 8 := rfl
theorem nv9 : nI 9 = v 9 := rfl
theorem nv10 : nI 10 = v 10 := rfl
theorem nv11 : nI 11 = v 11 := rfl
theorem nv12 : nI 12 = v 12 := rfl
theorem nv13 : nI 13 = v 13 := rfl
theorem nv14 : nI 14 = v 14 := rfl
theorem nv15 : nI 15 = v 15 := rfl
theorem nv16 : nI 16 = v 16 := rfl
theorem nv17 : nI 17 = v 17 := rfl
theorem nv18 : nI 18 = v 18 := rfl
theorem nv19 : nI 19 = v 19 := rfl
theorem nv20 : nI 20 = v 20 := rfl
theorem nv21 : nI 21 = v 21 := rfl
theorem nv22 : nI 22 = v 22 := rfl
theorem nv23 : nI 23 = v 23 := rfl
theorem nv24 : nI 24 = v 24 := rfl
theorem nv25 : nI 25 = v 25 := rfl
theorem nv26 : nI 26 = v 26 := rfl
theorem nv27 : nI 27 = v 27 := rfl
theorem nv28 : nI 28 = v 28 := rfl
theorem nv29 : nI 29 = v 29 := rfl
theorem nv30 : nI 30 = v 30 := rfl
theorem nv31 : nI 31 = v 31 := rfl
theorem nv32 : nI 32 = v 32 := rfl
theorem nv38 : nI 38 = v 38 := rfl
theorem nv39 : nI 39 = v 39 := rfl
theorem nv40 : nI 40 = v 40 := rfl
theorem nv42 : nI 42 = v 42 := rfl
theorem nv43 : nI 43 = v 43 := rfl
theorem nv45 : nI 45 = v 45 := rfl
theorem nv47 : nI 47 = v 47 := rfl
theorem nv48 : nI 48 = v 48 := rfl
theorem nv50 : nI 50 = v 50 := rfl
theorem nv57 : nI 57 = v 57 := rfl
theorem nv59 : nI 59 = v 59 := rfl
theorem nv60 : nI 60 = v 60 := rfl
theorem nv61 : nI 61 = v 61 := rfl
theorem nv62 : nI 62 = v 62 := rfl
theorem nv63 : nI 63 = v 63 := rfl
theorem nv64 : nI 64 = v 64 := rfl
theorem nv70 : nI 70 = v 70 := rfl
theorem nv72 : nI 72 = v 72 := rfl
theorem nv91 : nI 91 = v 91 := rfl
theorem nv93 : nI 93 = v 93 := rfl
theorem nv96 : nI 96 = v 96 := rfl
theorem nv97 : nI 97 = v 97 := rfl
theorem nv98 : nI 98 = v 98 := rfl
theorem nv102 : nI 102 = v 102 := rfl
theorem nv120 : nI 120 = v 120 := rfl
theorem nv122 : nI 122 = v 122 := rfl
theorem nv128 : nI 128 = v 128 := rfl
theorem nv198 : nI 198 = v 198 := rfl
theorem nv199 : nI 199 = v 199 := rfl
theorem nv200 : nI 200 = v 200 := rfl
theorem nv255 : nI 255 = v 255 := rfl
theorem nv256 : nI 256 = v 256 := rfl
theorem nv257 : nI 257 = v 257 := rfl
theorem nv400 : nI 400 = v 400 := rfl
theorem nv401 : nI 401 = v 401 := rfl
theorem nv512 : nI 512 = v 512 := rfl
theorem nv816 : nI 816 = v 816 := rfl
theorem nv819 : nI 819 = v 819 := rfl
theorem nv821 : nI 821 = v 821 := rfl
theorem nv900 : nI 900 = v 900 := rfl
theorem nv999 : nI 999 = v 999 := rfl
theorem nv1000 : nI 1000 = v 1000 := rfl
theorem nv1001 : nI 1001 = v 1001 := rfl
theorem nv1103 : nI 1103 = v 1103 := rfl
theorem nv6221 : nI 6221 = v 6221 := rfl
theorem nv12240 : nI 12240 = v 12240 := rfl
theorem nv12345 : nI 12345 = v 12345 := rfl
theorem nv13056 : nI 13056 = v 13056 := rfl
theorem nv15504 : nI 15504 = v 15504 := rfl
theorem nv1000000 : nI 1000000 = v 1000000 := rfl
theorem nv1000003 : nI 1000003 = v 1000003 := rfl
theorem lw0 : lN 0 = w 0 := rfl
theorem lw1 : lN 1 = w 1 := rfl
theorem lw2 : lN 2 = w 2 := rfl
theorem lw3 : lN 3 = w 3 := rfl
theorem lw4 : lN 4 = w 4 := rfl
theorem lw5 : lN 5 = w 5 := rfl
theorem lw6 : lN 6 = w 6 := rfl
theorem lw7 : lN 7 = w 7 := rfl
theorem lw8 : lN 8 = w 8 := rfl
theorem lw9 : lN 9 = w 9 := rfl
theorem lw10 : lN 10 = w 10 := rfl
theorem lw11 : lN 11 = w 11 := rfl
theorem lw12 : lN 12 = w 12 := rfl
theorem lw13 : lN 13 = w 13 := rfl
theorem lw14 : lN 14 = w 14 := rfl
theorem lw15 : lN 15 = w 15 := rfl
theorem lw16 : lN 16 = w 16 := rfl
theorem lw17 : lN 17 = w 17 := rfl
theorem lw18 : lN 18 = w 18 := rfl
theorem lw19 : lN 19 = w 19 := rfl
theorem lw20 : lN 20 = w 20 := rfl
theorem lw21 : lN 21 = w 21 := rfl
theorem lw22 : lN 22 = w 22 := rfl
theorem lw23 : lN 23 = w 23 := rfl
theorem lw24 : lN 24 = w 24 := rfl
theorem lw25 : lN 25 = w 25 := rfl
theorem lw26 : lN 26 = w 26 := rfl
theorem lw27 : lN 27 = w 27 := rfl
theorem lw28 : lN 28 = w 28 := rfl
theorem lw29 : lN 29 = w 29 := rfl
theorem lw30 : lN 30 = w 30 := rfl
theorem lw31 : lN 31 = w 31 := rfl
theorem lw32 : lN 32 = w 32 := rfl
theorem lw33 : lN 33 = w 33 := rfl
theorem lw34 : lN 34 = w 34 := rfl
theorem lw35 : lN 35 = w 35 := rfl
theorem lw36 : lN 36 = w 36 := rfl
theorem lw37 : lN 37 = w 37 := rfl
theorem lw38 : lN 38 = w 38 := rfl
theorem lw39 : lN 39 = w 39 := rfl
theorem lw40 : lN 40 = w 40 := rfl
theorem lw60 : lN 60 = w 60 := rfl
theorem lw64 : lN 64 = w 64 := rfl
theorem lw128 : lN 128 = w 128 := rfl
theorem lw200 : lN 200 = w 200 := rfl
theorem lw1000000 : lN 1000000 = w 1000000 := rfl
theorem v_inT {a : Int} {n : Nat} (ha : 0 ≤ a ∧ a < 2147483648) (h : a < n) : (inA (v a) n) = True := eq_true (v_inA ha h)
/-- a truth as a number -/
def bi (c : Prop) [Decidable c] : Int := if c then 1 else 0
theorem bi_t {c : Prop} [Decidable c] (h : c) : bi c = 1 := if_pos h
theorem bi_f {c : Prop} [Decidable c] (h : ¬ c) : bi c = 0 := if_neg h
theorem bi_r {c : Prop} [Decidable c] : 0 ≤ bi c ∧ bi c ≤ 1 := by unfold bi; split <;> omega
theorem bi_0 {c : Prop} [Decidable c] : bi c = 0 ↔ ¬ c := by unfold bi; split <;> simp_all
theorem bi_1 {c : Prop} [Decidable c] : bi c = 1 ↔ c := by unfold bi; split <;> simp_all
theorem vif {c : Prop} [Decidable c] {a b : Int} : (if c then v a else v b) = v (if c then a else b) := by split <;> rfl
