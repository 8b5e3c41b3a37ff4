/-! PAGES, AS NUMBERS -/
abbrev PG : Type := Nat → Int → Int
def sumZ (f : Int → Int) : Nat → Int
  | 0 => 0
  | n + 1 => sumZ f n + f n
def IsP (s : AS) (b : Nat) : Prop := sT s b = 7 ∧ (sR s b 0 = b + 1 ∧ sT s (b + 1) = 20 ∧ sN s (b + 1) = 128) ∧ (sR s b 1 = b + 2 ∧ sT s (b + 2) = 20 ∧ sN s (b + 2) = 128) ∧ (sR s b 2 = b + 3 ∧ sT s (b + 3) = 20 ∧ sN s (b + 3) = 128) ∧ (sR s b 3 = b + 4 ∧ sT s (b + 4) = 20 ∧ sN s (b + 4) = 8) ∧ (sR s b 4 = b + 5 ∧ sT s (b + 5) = 20 ∧ sN s (b + 5) = 8) ∧ (sR s b 5 = b + 6 ∧ sT s (b + 6) = 20 ∧ sN s (b + 6) = 512)
def PgC (s : AS) (b : Nat) (P : PG) : Prop := (∀ z : Int, 0 ≤ z ∧ z < 128 → sI s (b + 1) z.toNat = v (P 0 z)) ∧ (∀ z : Int, 0 ≤ z ∧ z < 128 → sI s (b + 2) z.toNat = v (P 1 z)) ∧ (∀ z : Int, 0 ≤ z ∧ z < 128 → sI s (b + 3) z.toNat = v (P 2 z)) ∧ (∀ z : Int, 0 ≤ z ∧ z < 8 → sI s (b + 4) z.toNat = v (P 3 z)) ∧ (∀ z : Int, 0 ≤ z ∧ z < 8 → sI s (b + 5) z.toNat = v (P 4 z)) ∧ (∀ z : Int, 0 ≤ z ∧ z < 512 → sI s (b + 6) z.toNat = v (P 5 z))
/-- numbers within their bounds -/
def PgB (P : PG) : Prop := ∀ z : Int, (0 ≤ P 0 z ∧ P 0 z ≤ 5) ∧ (-1000 ≤ P 1 z ∧ P 1 z ≤ 1000) ∧ (0 ≤ P 2 z ∧ P 2 z ≤ 40) ∧ (0 ≤ P 3 z ∧ P 3 z ≤ 12) ∧ (-1000 ≤ P 4 z ∧ P 4 z ≤ 1000) ∧ (-1000 ≤ P 5 z ∧ P 5 z ≤ 1000)
def PgR (s : AS) (b : Nat) (P : PG) : Prop := IsP s b ∧ PgC s b P
theorem v_inT {a : Int} {n : Nat} (ha : 0 ≤ a ∧ a < 2147483648) (h : a < n) : (inA (v a) n) = True := eq_true (v_inA ha h)
theorem nv0 : nI 0 = v 0 := rfl
theorem nv1 : nI 1 = v 1 := rfl
theorem nv2 : nI 2 = v 2 := rfl
theorem nv16 : nI 16 = v 16 := rfl
theorem nv64 : nI 64 = v 64 := rfl
def freeP (P : PG) (p : Int) : Int := 64 - 2 * P 3 p - sumZ (fun k => P 2 (p * 16 + k)) (P 3 p).toNat
theorem s_freeL {s : AS} {b : Nat} {P : PG} {p : Int} (h : PgR s b P) (hB : PgB P) (hp : 0 ≤ p ∧ p < 8) : ∀ (k n : Nat) (i acc : Int), i + k = P 3 p → 0 ≤ i → k < n →
    l_Pages_freeOf_14 s n b (v p) (v acc) (v i) = some (v (acc - (sumZ (fun k => P 2 (p * 16 + k)) (P 3 p).toNat - sumZ (fun k => P 2 (p * 16 + k)) i.toNat))) := by
  obtain ⟨⟨h7, -, -, ⟨a3, b3, c3⟩, ⟨a4, b4, c4⟩, -, -⟩, -, -, d3, d4, -, -⟩ := h
  have hb := hB p
  intro k
  induction k with
  | zero =>
    intro n i acc hi h0 hn
    obtain ⟨n, rfl⟩ : ∃ m, n = m + 1 := ⟨n - 1, by omega⟩
    simp (disch := omega) only [l_Pages_freeOf_14, b_Pages_freeOf_14, h7, a4, b4, c4, v_inT, v_ix, d4, v_lt, and_self, if_true, if_false]
    rw [if_neg (by omega)]
    rw [show i = P 3 p by omega, Int.sub_self, Int.sub_zero]
  | succ k ih =>
    intro n i acc hi h0 hn
    obtain ⟨n, rfl⟩ : ∃ m, n = m + 1 := ⟨n - 1, by omega⟩
    simp (disch := omega) only [l_Pages_freeOf_14, b_Pages_freeOf_14, h7, a4, b4, c4, a3, b3, c3, v_inT, v_ix, d4, d3, v_lt, and_self, if_true, if_false, nv16, nv1, v_add, v_sub, v_mul]
    rw [if_pos (by omega), ih n (i + 1) _ (by omega) (by omega) (by omega)]
    rw [show (i + 1).toNat = i.toNat + 1 by omega]
    show some (v _) = some (v _)
    simp only [sumZ]
    rw [show ((i.toNat : Nat) : Int) = i by omega]
    congr 2
    omega
