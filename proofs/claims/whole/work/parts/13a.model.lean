/-! THE REFERENCE, AS NUMBERS: row 0 its ints, row 28 its longs, rows 1 .. 27 its arrays -/
def fdM : Nat → Nat
  | 1 => 2
  | 2 => 3
  | 3 => 4
  | 4 => 5
  | 5 => 6
  | 6 => 7
  | 7 => 9
  | 8 => 10
  | 9 => 11
  | 10 => 21
  | 11 => 23
  | 12 => 24
  | 13 => 26
  | 14 => 27
  | 15 => 30
  | 16 => 31
  | 17 => 32
  | 18 => 34
  | 19 => 35
  | 20 => 36
  | 21 => 40
  | 22 => 43
  | 23 => 45
  | 24 => 47
  | 25 => 48
  | 26 => 49
  | 27 => 55
  | _ => 0
def tyM : Nat → Nat
  | 1 => 20
  | 2 => 20
  | 3 => 20
  | 4 => 22
  | 5 => 20
  | 6 => 20
  | 7 => 20
  | 8 => 20
  | 9 => 20
  | 10 => 20
  | 11 => 20
  | 12 => 20
  | 13 => 20
  | 14 => 20
  | 15 => 21
  | 16 => 21
  | 17 => 21
  | 18 => 21
  | 19 => 21
  | 20 => 21
  | 21 => 20
  | 22 => 20
  | 23 => 20
  | 24 => 21
  | 25 => 21
  | 26 => 20
  | 27 => 20
  | _ => 0
def szM : Nat → Nat
  | 1 => 7
  | 2 => 6221
  | 3 => 12442
  | 4 => 2
  | 5 => 15504
  | 6 => 16
  | 7 => 13056
  | 8 => 16
  | 9 => 400
  | 10 => 96
  | 11 => 400
  | 12 => 400
  | 13 => 400
  | 14 => 400
  | 15 => 7
  | 16 => 6
  | 17 => 2
  | 18 => 13
  | 19 => 13
  | 20 => 400
  | 21 => 64
  | 22 => 200
  | 23 => 200
  | 24 => 21
  | 25 => 5
  | 26 => 96
  | 27 => 24
  | _ => 0
abbrev MA : Type := Nat → Int → Int
def IsM (s : AS) (m : Nat) : Prop := sT s m = 13 ∧ ∀ j, 1 ≤ j → j < 28 → sR s m (fdM j) = m + j ∧ sT s (m + j) = tyM j ∧ sN s (m + j) = szM j
def MR (s : AS) (m : Nat) (A : MA) : Prop := IsM s m ∧ (∀ k : Nat, k < 57 → sI s m k = v (A 0 k)) ∧ (∀ k : Nat, k < 57 → sL s m k = w (A 28 k)) ∧ (∀ j, 1 ≤ j → j < 28 → tyM j ≠ 21 → ∀ z : Int, 0 ≤ z ∧ z < szM j → sI s (m + j) z.toNat = v (A j z)) ∧ (∀ j, 1 ≤ j → j < 28 → tyM j = 21 → ∀ z : Int, 0 ≤ z ∧ z < szM j → sL s (m + j) z.toNat = w (A j z))
abbrev inM (m : Nat) : Nat → Prop := fun q => m ≤ q ∧ q ≤ m + 27
theorem MR.t {s : AS} {m : Nat} {A : MA} (h : MR s m A) : sT s m = 13 := h.1.1
theorem MR.r2 {s : AS} {m : Nat} {A : MA} (h : MR s m A) : sR s m 2 = m + 1 := (h.1.2 1 (by decide) (by decide)).1
theorem MR.t2 {s : AS} {m : Nat} {A : MA} (h : MR s m A) : sT s (m + 1) = 20 := (h.1.2 1 (by decide) (by decide)).2.1
theorem MR.n2 {s : AS} {m : Nat} {A : MA} (h : MR s m A) : sN s (m + 1) = 7 := (h.1.2 1 (by decide) (by decide)).2.2
theorem MR.a2 {s : AS} {m : Nat} {A : MA} (h : MR s m A) : ∀ z : Int, 0 ≤ z ∧ z < 7 → sI s (m + 1) z.toNat = v (A 1 z) := h.2.2.2.1 1 (by decide) (by decide) (by decide)
theorem MR.r3 {s : AS} {m : Nat} {A : MA} (h : MR s m A) : sR s m 3 = m + 2 := (h.1.2 2 (by decide) (by decide)).1
theorem MR.t3 {s : AS} {m : Nat} {A : MA} (h : MR s m A) : sT s (m + 2) = 20 := (h.1.2 2 (by decide) (by decide)).2.1
theorem MR.n3 {s : AS} {m : Nat} {A : MA} (h : MR s m A) : sN s (m + 2) = 6221 := (h.1.2 2 (by decide) (by decide)).2.2
theorem MR.a3 {s : AS} {m : Nat} {A : MA} (h : MR s m A) : ∀ z : Int, 0 ≤ z ∧ z < 6221 → sI s (m + 2) z.toNat = v (A 2 z) := h.2.2.2.1 2 (by decide) (by decide) (by decide)
theorem MR.r4 {s : AS} {m : Nat} {A : MA} (h : MR s m A) : sR s m 4 = m + 3 := (h.1.2 3 (by decide) (by decide)).1
theorem MR.t4 {s : AS} {m : Nat} {A : MA} (h : MR s m A) : sT s (m + 3) = 20 := (h.1.2 3 (by decide) (by decide)).2.1
theorem MR.n4 {s : AS} {m : Nat} {A : MA} (h : MR s m A) : sN s (m + 3) = 12442 := (h.1.2 3 (by decide) (by decide)).2.2
theorem MR.a4 {s : AS} {m : Nat} {A : MA} (h : MR s m A) : ∀ z : Int, 0 ≤ z ∧ z < 12442 → sI s (m + 3) z.toNat = v (A 3 z) := h.2.2.2.1 3 (by decide) (by decide) (by decide)
theorem MR.r5 {s : AS} {m : Nat} {A : MA} (h : MR s m A) : sR s m 5 = m + 4 := (h.1.2 4 (by decide) (by decide)).1
theorem MR.t5 {s : AS} {m : Nat} {A : MA} (h : MR s m A) : sT s (m + 4) = 22 := (h.1.2 4 (by decide) (by decide)).2.1
theorem MR.n5 {s : AS} {m : Nat} {A : MA} (h : MR s m A) : sN s (m + 4) = 2 := (h.1.2 4 (by decide) (by decide)).2.2
theorem MR.a5 {s : AS} {m : Nat} {A : MA} (h : MR s m A) : ∀ z : Int, 0 ≤ z ∧ z < 2 → sI s (m + 4) z.toNat = v (A 4 z) := h.2.2.2.1 4 (by decide) (by decide) (by decide)
theorem MR.r6 {s : AS} {m : Nat} {A : MA} (h : MR s m A) : sR s m 6 = m + 5 := (h.1.2 5 (by decide) (by decide)).1
theorem MR.t6 {s : AS} {m : Nat} {A : MA} (h : MR s m A) : sT s (m + 5) = 20 := (h.1.2 5 (by decide) (by decide)).2.1
theorem MR.n6 {s : AS} {m : Nat} {A : MA} (h : MR s m A) : sN s (m + 5) = 15504 := (h.1.2 5 (by decide) (by decide)).2.2
theorem MR.a6 {s : AS} {m : Nat} {A : MA} (h : MR s m A) : ∀ z : Int, 0 ≤ z ∧ z < 15504 → sI s (m + 5) z.toNat = v (A 5 z) := h.2.2.2.1 5 (by decide) (by decide) (by decide)
theorem MR.r7 {s : AS} {m : Nat} {A : MA} (h : MR s m A) : sR s m 7 = m + 6 := (h.1.2 6 (by decide) (by decide)).1
theorem MR.t7 {s : AS} {m : Nat} {A : MA} (h : MR s m A) : sT s (m + 6) = 20 := (h.1.2 6 (by decide) (by decide)).2.1
theorem MR.n7 {s : AS} {m : Nat} {A : MA} (h : MR s m A) : sN s (m + 6) = 16 := (h.1.2 6 (by decide) (by decide)).2.2
theorem MR.a7 {s : AS} {m : Nat} {A : MA} (h : MR s m A) : ∀ z : Int, 0 ≤ z ∧ z < 16 → sI s (m + 6) z.toNat = v (A 6 z) := h.2.2.2.1 6 (by decide) (by decide) (by decide)
theorem MR.r9 {s : AS} {m : Nat} {A : MA} (h : MR s m A) : sR s m 9 = m + 7 := (h.1.2 7 (by decide) (by decide)).1
theorem MR.t9 {s : AS} {m : Nat} {A : MA} (h : MR s m A) : sT s (m + 7) = 20 := (h.1.2 7 (by decide) (by decide)).2.1
theorem MR.n9 {s : AS} {m : Nat} {A : MA} (h : MR s m A) : sN s (m + 7) = 13056 := (h.1.2 7 (by decide) (by decide)).2.2
theorem MR.a9 {s : AS} {m : Nat} {A : MA} (h : MR s m A) : ∀ z : Int, 0 ≤ z ∧ z < 13056 → sI s (m + 7) z.toNat = v (A 7 z) := h.2.2.2.1 7 (by decide) (by decide) (by decide)
theorem MR.r10 {s : AS} {m : Nat} {A : MA} (h : MR s m A) : sR s m 10 = m + 8 := (h.1.2 8 (by decide) (by decide)).1
theorem MR.t10 {s : AS} {m : Nat} {A : MA} (h : MR s m A) : sT s (m + 8) = 20 := (h.1.2 8 (by decide) (by decide)).2.1
theorem MR.n10 {s : AS} {m : Nat} {A : MA} (h : MR s m A) : sN s (m + 8) = 16 := (h.1.2 8 (by decide) (by decide)).2.2
theorem MR.a10 {s : AS} {m : Nat} {A : MA} (h : MR s m A) : ∀ z : Int, 0 ≤ z ∧ z < 16 → sI s (m + 8) z.toNat = v (A 8 z) := h.2.2.2.1 8 (by decide) (by decide) (by decide)
theorem MR.r11 {s : AS} {m : Nat} {A : MA} (h : MR s m A) : sR s m 11 = m + 9 := (h.1.2 9 (by decide) (by decide)).1
theorem MR.t11 {s : AS} {m : Nat} {A : MA} (h : MR s m A) : sT s (m + 9) = 20 := (h.1.2 9 (by decide) (by decide)).2.1
theorem MR.n11 {s : AS} {m : Nat} {A : MA} (h : MR s m A) : sN s (m + 9) = 400 := (h.1.2 9 (by decide) (by decide)).2.2
theorem MR.a11 {s : AS} {m : Nat} {A : MA} (h : MR s m A) : ∀ z : Int, 0 ≤ z ∧ z < 400 → sI s (m + 9) z.toNat = v (A 9 z) := h.2.2.2.1 9 (by decide) (by decide) (by decide)
theorem MR.r21 {s : AS} {m : Nat} {A : MA} (h : MR s m A) : sR s m 21 = m + 10 := (h.1.2 10 (by decide) (by decide)).1
theorem MR.t21 {s : AS} {m : Nat} {A : MA} (h : MR s m A) : sT s (m + 10) = 20 := (h.1.2 10 (by decide) (by decide)).2.1
theorem MR.n21 {s : AS} {m : Nat} {A : MA} (h : MR s m A) : sN s (m + 10) = 96 := (h.1.2 10 (by decide) (by decide)).2.2
theorem MR.a21 {s : AS} {m : Nat} {A : MA} (h : MR s m A) : ∀ z : Int, 0 ≤ z ∧ z < 96 → sI s (m + 10) z.toNat = v (A 10 z) := h.2.2.2.1 10 (by decide) (by decide) (by decide)
theorem MR.r23 {s : AS} {m : Nat} {A : MA} (h : MR s m A) : sR s m 23 = m + 11 := (h.1.2 11 (by decide) (by decide)).1
theorem MR.t23 {s : AS} {m : Nat} {A : MA} (h : MR s m A) : sT s (m + 11) = 20 := (h.1.2 11 (by decide) (by decide)).2.1
theorem MR.n23 {s : AS} {m : Nat} {A : MA} (h : MR s m A) : sN s (m + 11) = 400 := (h.1.2 11 (by decide) (by decide)).2.2
theorem MR.a23 {s : AS} {m : Nat} {A : MA} (h : MR s m A) : ∀ z : Int, 0 ≤ z ∧ z < 400 → sI s (m + 11) z.toNat = v (A 11 z) := h.2.2.2.1 11 (by decide) (by decide) (by decide)
theorem MR.r24 {s : AS} {m : Nat} {A : MA} (h : MR s m A) : sR s m 24 = m + 12 := (h.1.2 12 (by decide) (by decide)).1
theorem MR.t24 {s : AS} {m : Nat} {A : MA} (h : MR s m A) : sT s (m + 12) = 20 := (h.1.2 12 (by decide) (by decide)).2.1
theorem MR.n24 {s : AS} {m : Nat} {A : MA} (h : MR s m A) : sN s (m + 12) = 400 := (h.1.2 12 (by decide) (by decide)).2.2
theorem MR.a24 {s : AS} {m : Nat} {A : MA} (h : MR s m A) : ∀ z : Int, 0 ≤ z ∧ z < 400 → sI s (m + 12) z.toNat = v (A 12 z) := h.2.2.2.1 12 (by decide) (by decide) (by decide)
theorem MR.r26 {s : AS} {m : Nat} {A : MA} (h : MR s m A) : sR s m 26 = m + 13 := (h.1.2 13 (by decide) (by decide)).1
theorem MR.t26 {s : AS} {m : Nat} {A : MA} (h : MR s m A) : sT s (m + 13) = 20 := (h.1.2 13 (by decide) (by decide)).2.1
theorem MR.n26 {s : AS} {m : Nat} {A : MA} (h : MR s m A) : sN s (m + 13) = 400 := (h.1.2 13 (by decide) (by decide)).2.2
theorem MR.a26 {s : AS} {m : Nat} {A : MA} (h : MR s m A) : ∀ z : Int, 0 ≤ z ∧ z < 400 → sI s (m + 13) z.toNat = v (A 13 z) := h.2.2.2.1 13 (by decide) (by decide) (by decide)
theorem MR.r27 {s : AS} {m : Nat} {A : MA} (h : MR s m A) : sR s m 27 = m + 14 := (h.1.2 14 (by decide) (by decide)).1
theorem MR.t27 {s : AS} {m : Nat} {A : MA} (h : MR s m A) : sT s (m + 14) = 20 := (h.1.2 14 (by decide) (by decide)).2.1
theorem MR.n27 {s : AS} {m : Nat} {A : MA} (h : MR s m A) : sN s (m + 14) = 400 := (h.1.2 14 (by decide) (by decide)).2.2
theorem MR.a27 {s : AS} {m : Nat} {A : MA} (h : MR s m A) : ∀ z : Int, 0 ≤ z ∧ z < 400 → sI s (m + 14) z.toNat = v (A 14 z) := h.2.2.2.1 14 (by decide) (by decide) (by decide)
theorem MR.r30 {s : AS} {m : Nat} {A : MA} (h : MR s m A) : sR s m 30 = m + 15 := (h.1.2 15 (by decide) (by decide)).1
theorem MR.t30 {s : AS} {m : Nat} {A : MA} (h : MR s m A) : sT s (m + 15) = 21 := (h.1.2 15 (by decide) (by decide)).2.1
theorem MR.n30 {s : AS} {m : Nat} {A : MA} (h : MR s m A) : sN s (m + 15) = 7 := (h.1.2 15 (by decide) (by decide)).2.2
theorem MR.a30 {s : AS} {m : Nat} {A : MA} (h : MR s m A) : ∀ z : Int, 0 ≤ z ∧ z < 7 → sL s (m + 15) z.toNat = w (A 15 z) := h.2.2.2.2 15 (by decide) (by decide) rfl
theorem MR.r31 {s : AS} {m : Nat} {A : MA} (h : MR s m A) : sR s m 31 = m + 16 := (h.1.2 16 (by decide) (by decide)).1
theorem MR.t31 {s : AS} {m : Nat} {A : MA} (h : MR s m A) : sT s (m + 16) = 21 := (h.1.2 16 (by decide) (by decide)).2.1
theorem MR.n31 {s : AS} {m : Nat} {A : MA} (h : MR s m A) : sN s (m + 16) = 6 := (h.1.2 16 (by decide) (by decide)).2.2
theorem MR.a31 {s : AS} {m : Nat} {A : MA} (h : MR s m A) : ∀ z : Int, 0 ≤ z ∧ z < 6 → sL s (m + 16) z.toNat = w (A 16 z) := h.2.2.2.2 16 (by decide) (by decide) rfl
theorem MR.r32 {s : AS} {m : Nat} {A : MA} (h : MR s m A) : sR s m 32 = m + 17 := (h.1.2 17 (by decide) (by decide)).1
theorem MR.t32 {s : AS} {m : Nat} {A : MA} (h : MR s m A) : sT s (m + 17) = 21 := (h.1.2 17 (by decide) (by decide)).2.1
theorem MR.n32 {s : AS} {m : Nat} {A : MA} (h : MR s m A) : sN s (m + 17) = 2 := (h.1.2 17 (by decide) (by decide)).2.2
theorem MR.a32 {s : AS} {m : Nat} {A : MA} (h : MR s m A) : ∀ z : Int, 0 ≤ z ∧ z < 2 → sL s (m + 17) z.toNat = w (A 17 z) := h.2.2.2.2 17 (by decide) (by decide) rfl
theorem MR.r34 {s : AS} {m : Nat} {A : MA} (h : MR s m A) : sR s m 34 = m + 18 := (h.1.2 18 (by decide) (by decide)).1
theorem MR.t34 {s : AS} {m : Nat} {A : MA} (h : MR s m A) : sT s (m + 18) = 21 := (h.1.2 18 (by decide) (by decide)).2.1
theorem MR.n34 {s : AS} {m : Nat} {A : MA} (h : MR s m A) : sN s (m + 18) = 13 := (h.1.2 18 (by decide) (by decide)).2.2
theorem MR.a34 {s : AS} {m : Nat} {A : MA} (h : MR s m A) : ∀ z : Int, 0 ≤ z ∧ z < 13 → sL s (m + 18) z.toNat = w (A 18 z) := h.2.2.2.2 18 (by decide) (by decide) rfl
theorem MR.r35 {s : AS} {m : Nat} {A : MA} (h : MR s m A) : sR s m 35 = m + 19 := (h.1.2 19 (by decide) (by decide)).1
theorem MR.t35 {s : AS} {m : Nat} {A : MA} (h : MR s m A) : sT s (m + 19) = 21 := (h.1.2 19 (by decide) (by decide)).2.1
theorem MR.n35 {s : AS} {m : Nat} {A : MA} (h : MR s m A) : sN s (m + 19) = 13 := (h.1.2 19 (by decide) (by decide)).2.2
theorem MR.a35 {s : AS} {m : Nat} {A : MA} (h : MR s m A) : ∀ z : Int, 0 ≤ z ∧ z < 13 → sL s (m + 19) z.toNat = w (A 19 z) := h.2.2.2.2 19 (by decide) (by decide) rfl
theorem MR.r36 {s : AS} {m : Nat} {A : MA} (h : MR s m A) : sR s m 36 = m + 20 := (h.1.2 20 (by decide) (by decide)).1
theorem MR.t36 {s : AS} {m : Nat} {A : MA} (h : MR s m A) : sT s (m + 20) = 21 := (h.1.2 20 (by decide) (by decide)).2.1
theorem MR.n36 {s : AS} {m : Nat} {A : MA} (h : MR s m A) : sN s (m + 20) = 400 := (h.1.2 20 (by decide) (by decide)).2.2
theorem MR.a36 {s : AS} {m : Nat} {A : MA} (h : MR s m A) : ∀ z : Int, 0 ≤ z ∧ z < 400 → sL s (m + 20) z.toNat = w (A 20 z) := h.2.2.2.2 20 (by decide) (by decide) rfl
theorem MR.r40 {s : AS} {m : Nat} {A : MA} (h : MR s m A) : sR s m 40 = m + 21 := (h.1.2 21 (by decide) (by decide)).1
theorem MR.t40 {s : AS} {m : Nat} {A : MA} (h : MR s m A) : sT s (m + 21) = 20 := (h.1.2 21 (by decide) (by decide)).2.1
theorem MR.n40 {s : AS} {m : Nat} {A : MA} (h : MR s m A) : sN s (m + 21) = 64 := (h.1.2 21 (by decide) (by decide)).2.2
theorem MR.a40 {s : AS} {m : Nat} {A : MA} (h : MR s m A) : ∀ z : Int, 0 ≤ z ∧ z < 64 → sI s (m + 21) z.toNat = v (A 21 z) := h.2.2.2.1 21 (by decide) (by decide) (by decide)
theorem MR.r43 {s : AS} {m : Nat} {A : MA} (h : MR s m A) : sR s m 43 = m + 22 := (h.1.2 22 (by decide) (by decide)).1
theorem MR.t43 {s : AS} {m : Nat} {A : MA} (h : MR s m A) : sT s (m + 22) = 20 := (h.1.2 22 (by decide) (by decide)).2.1
theorem MR.n43 {s : AS} {m : Nat} {A : MA} (h : MR s m A) : sN s (m + 22) = 200 := (h.1.2 22 (by decide) (by decide)).2.2
theorem MR.a43 {s : AS} {m : Nat} {A : MA} (h : MR s m A) : ∀ z : Int, 0 ≤ z ∧ z < 200 → sI s (m + 22) z.toNat = v (A 22 z) := h.2.2.2.1 22 (by decide) (by decide) (by decide)
theorem MR.r45 {s : AS} {m : Nat} {A : MA} (h : MR s m A) : sR s m 45 = m + 23 := (h.1.2 23 (by decide) (by decide)).1
theorem MR.t45 {s : AS} {m : Nat} {A : MA} (h : MR s m A) : sT s (m + 23) = 20 := (h.1.2 23 (by decide) (by decide)).2.1
theorem MR.n45 {s : AS} {m : Nat} {A : MA} (h : MR s m A) : sN s (m + 23) = 200 := (h.1.2 23 (by decide) (by decide)).2.2
theorem MR.a45 {s : AS} {m : Nat} {A : MA} (h : MR s m A) : ∀ z : Int, 0 ≤ z ∧ z < 200 → sI s (m + 23) z.toNat = v (A 23 z) := h.2.2.2.1 23 (by decide) (by decide) (by decide)
theorem MR.r47 {s : AS} {m : Nat} {A : MA} (h : MR s m A) : sR s m 47 = m + 24 := (h.1.2 24 (by decide) (by decide)).1
theorem MR.t47 {s : AS} {m : Nat} {A : MA} (h : MR s m A) : sT s (m + 24) = 21 := (h.1.2 24 (by decide) (by decide)).2.1
theorem MR.n47 {s : AS} {m : Nat} {A : MA} (h : MR s m A) : sN s (m + 24) = 21 := (h.1.2 24 (by decide) (by decide)).2.2
theorem MR.a47 {s : AS} {m : Nat} {A : MA} (h : MR s m A) : ∀ z : Int, 0 ≤ z ∧ z < 21 → sL s (m + 24) z.toNat = w (A 24 z) := h.2.2.2.2 24 (by decide) (by decide) rfl
theorem MR.r48 {s : AS} {m : Nat} {A : MA} (h : MR s m A) : sR s m 48 = m + 25 := (h.1.2 25 (by decide) (by decide)).1
theorem MR.t48 {s : AS} {m : Nat} {A : MA} (h : MR s m A) : sT s (m + 25) = 21 := (h.1.2 25 (by decide) (by decide)).2.1
theorem MR.n48 {s : AS} {m : Nat} {A : MA} (h : MR s m A) : sN s (m + 25) = 5 := (h.1.2 25 (by decide) (by decide)).2.2
theorem MR.a48 {s : AS} {m : Nat} {A : MA} (h : MR s m A) : ∀ z : Int, 0 ≤ z ∧ z < 5 → sL s (m + 25) z.toNat = w (A 25 z) := h.2.2.2.2 25 (by decide) (by decide) rfl
theorem MR.r49 {s : AS} {m : Nat} {A : MA} (h : MR s m A) : sR s m 49 = m + 26 := (h.1.2 26 (by decide) (by decide)).1
theorem MR.t49 {s : AS} {m : Nat} {A : MA} (h : MR s m A) : sT s (m + 26) = 20 := (h.1.2 26 (by decide) (by decide)).2.1
theorem MR.n49 {s : AS} {m : Nat} {A : MA} (h : MR s m A) : sN s (m + 26) = 96 := (h.1.2 26 (by decide) (by decide)).2.2
theorem MR.a49 {s : AS} {m : Nat} {A : MA} (h : MR s m A) : ∀ z : Int, 0 ≤ z ∧ z < 96 → sI s (m + 26) z.toNat = v (A 26 z) := h.2.2.2.1 26 (by decide) (by decide) (by decide)
theorem MR.r55 {s : AS} {m : Nat} {A : MA} (h : MR s m A) : sR s m 55 = m + 27 := (h.1.2 27 (by decide) (by decide)).1
theorem MR.t55 {s : AS} {m : Nat} {A : MA} (h : MR s m A) : sT s (m + 27) = 20 := (h.1.2 27 (by decide) (by decide)).2.1
theorem MR.n55 {s : AS} {m : Nat} {A : MA} (h : MR s m A) : sN s (m + 27) = 24 := (h.1.2 27 (by decide) (by decide)).2.2
theorem MR.a55 {s : AS} {m : Nat} {A : MA} (h : MR s m A) : ∀ z : Int, 0 ≤ z ∧ z < 24 → sI s (m + 27) z.toNat = v (A 27 z) := h.2.2.2.1 27 (by decide) (by decide) (by decide)
theorem MR.i0 {s : AS} {m : Nat} {A : MA} (h : MR s m A) : sI s m 0 = v (A 0 0) := h.2.1 0 (by decide)
theorem MR.i1 {s : AS} {m : Nat} {A : MA} (h : MR s m A) : sI s m 1 = v (A 0 1) := h.2.1 1 (by decide)
theorem MR.i8 {s : AS} {m : Nat} {A : MA} (h : MR s m A) : sI s m 8 = v (A 0 8) := h.2.1 8 (by decide)
theorem MR.i12 {s : AS} {m : Nat} {A : MA} (h : MR s m A) : sI s m 12 = v (A 0 12) := h.2.1 12 (by decide)
theorem MR.i13 {s : AS} {m : Nat} {A : MA} (h : MR s m A) : sI s m 13 = v (A 0 13) := h.2.1 13 (by decide)
theorem MR.i14 {s : AS} {m : Nat} {A : MA} (h : MR s m A) : sI s m 14 = v (A 0 14) := h.2.1 14 (by decide)
theorem MR.i15 {s : AS} {m : Nat} {A : MA} (h : MR s m A) : sI s m 15 = v (A 0 15) := h.2.1 15 (by decide)
theorem MR.i17 {s : AS} {m : Nat} {A : MA} (h : MR s m A) : sI s m 17 = v (A 0 17) := h.2.1 17 (by decide)
theorem MR.i18 {s : AS} {m : Nat} {A : MA} (h : MR s m A) : sI s m 18 = v (A 0 18) := h.2.1 18 (by decide)
theorem MR.i19 {s : AS} {m : Nat} {A : MA} (h : MR s m A) : sI s m 19 = v (A 0 19) := h.2.1 19 (by decide)
theorem MR.i20 {s : AS} {m : Nat} {A : MA} (h : MR s m A) : sI s m 20 = v (A 0 20) := h.2.1 20 (by decide)
theorem MR.i22 {s : AS} {m : Nat} {A : MA} (h : MR s m A) : sI s m 22 = v (A 0 22) := h.2.1 22 (by decide)
theorem MR.i25 {s : AS} {m : Nat} {A : MA} (h : MR s m A) : sI s m 25 = v (A 0 25) := h.2.1 25 (by decide)
theorem MR.i28 {s : AS} {m : Nat} {A : MA} (h : MR s m A) : sI s m 28 = v (A 0 28) := h.2.1 28 (by decide)
theorem MR.i29 {s : AS} {m : Nat} {A : MA} (h : MR s m A) : sI s m 29 = v (A 0 29) := h.2.1 29 (by decide)
theorem MR.i33 {s : AS} {m : Nat} {A : MA} (h : MR s m A) : sI s m 33 = v (A 0 33) := h.2.1 33 (by decide)
theorem MR.i37 {s : AS} {m : Nat} {A : MA} (h : MR s m A) : sI s m 37 = v (A 0 37) := h.2.1 37 (by decide)
theorem MR.i41 {s : AS} {m : Nat} {A : MA} (h : MR s m A) : sI s m 41 = v (A 0 41) := h.2.1 41 (by decide)
theorem MR.i42 {s : AS} {m : Nat} {A : MA} (h : MR s m A) : sI s m 42 = v (A 0 42) := h.2.1 42 (by decide)
theorem MR.i44 {s : AS} {m : Nat} {A : MA} (h : MR s m A) : sI s m 44 = v (A 0 44) := h.2.1 44 (by decide)
theorem MR.i46 {s : AS} {m : Nat} {A : MA} (h : MR s m A) : sI s m 46 = v (A 0 46) := h.2.1 46 (by decide)
theorem MR.i50 {s : AS} {m : Nat} {A : MA} (h : MR s m A) : sI s m 50 = v (A 0 50) := h.2.1 50 (by decide)
theorem MR.i51 {s : AS} {m : Nat} {A : MA} (h : MR s m A) : sI s m 51 = v (A 0 51) := h.2.1 51 (by decide)
theorem MR.i52 {s : AS} {m : Nat} {A : MA} (h : MR s m A) : sI s m 52 = v (A 0 52) := h.2.1 52 (by decide)
theorem MR.i53 {s : AS} {m : Nat} {A : MA} (h : MR s m A) : sI s m 53 = v (A 0 53) := h.2.1 53 (by decide)
theorem MR.i56 {s : AS} {m : Nat} {A : MA} (h : MR s m A) : sI s m 56 = v (A 0 56) := h.2.1 56 (by decide)
theorem MR.i16 {s : AS} {m : Nat} {A : MA} (h : MR s m A) : sL s m 16 = w (A 28 16) := h.2.2.1 16 (by decide)
theorem MR.i38 {s : AS} {m : Nat} {A : MA} (h : MR s m A) : sL s m 38 = w (A 28 38) := h.2.2.1 38 (by decide)
theorem MR.i39 {s : AS} {m : Nat} {A : MA} (h : MR s m A) : sL s m 39 = w (A 28 39) := h.2.2.1 39 (by decide)
theorem MR.i54 {s : AS} {m : Nat} {A : MA} (h : MR s m A) : sL s m 54 = w (A 28 54) := h.2.2.1 54 (by decide)
theorem MR.s0 {s : AS} {m : Nat} {A : MA} {x : Int} (h : MR s m A) {k : Nat} {z : Int} (hz : z = k) (hk : k < 57) : MR (setI s m k (v x)) m (pu A 0 z x) := by
  obtain ⟨h0, h1, h2, h3, h4⟩ := h
  refine ⟨h0, fun i hi => ?_, fun i hi => ?_, fun j j1 j2 hj y hy => ?_, fun j j1 j2 hj y hy => ?_⟩
  · rw [sI_setI, pu_v]
    by_cases e : i = k
    · rw [if_pos ⟨rfl, e⟩, if_pos (by omega)]
    · rw [if_neg (fun c => e c.2), if_neg (by omega)]; exact h1 i hi
  · rw [pu_row _ _ _ _ (by decide)]; exact h2 i hi
  · rw [sI_setI, if_neg (by omega), pu_row _ _ _ _ (by omega)]; exact h3 j j1 j2 hj y hy
  · rw [pu_row _ _ _ _ (by omega)]; exact h4 j j1 j2 hj y hy
theorem MR.s28 {s : AS} {m : Nat} {A : MA} {x : Int} (h : MR s m A) {k : Nat} {z : Int} (hz : z = k) (hk : k < 57) : MR (setJ s m k (w x)) m (pu A 28 z x) := by
  obtain ⟨h0, h1, h2, h3, h4⟩ := h
  refine ⟨h0, fun i hi => ?_, fun i hi => ?_, fun j j1 j2 hj y hy => ?_, fun j j1 j2 hj y hy => ?_⟩
  · rw [pu_row _ _ _ _ (by decide)]; exact h1 i hi
  · rw [sL_setJ, pu_v]
    by_cases e : i = k
    · rw [if_pos ⟨rfl, e⟩, if_pos (by omega)]
    · rw [if_neg (fun c => e c.2), if_neg (by omega)]; exact h2 i hi
  · rw [pu_row _ _ _ _ (by omega)]; exact h3 j j1 j2 hj y hy
  · rw [sL_setJ, if_neg (by omega), pu_row _ _ _ _ (by omega)]; exact h4 j j1 j2 hj y hy
theorem MR.si {s : AS} {m : Nat} {A : MA} {x : Int} (h : MR s m A) (j : Nat) (hj : 1 ≤ j ∧ j < 28) (ht : tyM j ≠ 21) {z : Int} (hz : 0 ≤ z ∧ z < szM j) : MR (setI s (m + j) z.toNat (v x)) m (pu A j z x) := by
  obtain ⟨h0, h1, h2, h3, h4⟩ := h
  refine ⟨h0, fun i hi => ?_, fun i hi => ?_, fun i j1 j2 hi y hy => ?_, fun i j1 j2 hi y hy => ?_⟩
  · rw [sI_setI, if_neg (by omega), pu_row _ _ _ _ (by omega)]; exact h1 i hi
  · rw [pu_row _ _ _ _ (by omega)]; exact h2 i hi
  · by_cases e : i = j
    · subst e
      rw [sI_setI, pu_v]
      by_cases ey : y = z
      · rw [if_pos ⟨rfl, by rw [ey]⟩, if_pos ey]
      · rw [if_neg (fun c => ey (by omega)), if_neg ey]; exact h3 i j1 j2 hi y hy
    · rw [sI_setI, if_neg (by omega), pu_row _ _ _ _ e]; exact h3 i j1 j2 hi y hy
  · rw [pu_row _ _ _ _ (show i ≠ j from fun e => ht (by rw [← e]; exact hi))]; exact h4 i j1 j2 hi y hy
theorem MR.sj {s : AS} {m : Nat} {A : MA} {x : Int} (h : MR s m A) (j : Nat) (hj : 1 ≤ j ∧ j < 28) (ht : tyM j = 21) {z : Int} (hz : 0 ≤ z ∧ z < szM j) : MR (setJ s (m + j) z.toNat (w x)) m (pu A j z x) := by
  obtain ⟨h0, h1, h2, h3, h4⟩ := h
  refine ⟨h0, fun i hi => ?_, fun i hi => ?_, fun i j1 j2 hi y hy => ?_, fun i j1 j2 hi y hy => ?_⟩
  · rw [pu_row _ _ _ _ (by omega)]; exact h1 i hi
  · rw [sL_setJ, if_neg (by omega), pu_row _ _ _ _ (by omega)]; exact h2 i hi
  · rw [pu_row _ _ _ _ (show i ≠ j from fun e => hi (by rw [e]; exact ht))]; exact h3 i j1 j2 hi y hy
  · by_cases e : i = j
    · subst e
      rw [sL_setJ, pu_v]
      by_cases ey : y = z
      · rw [if_pos ⟨rfl, by rw [ey]⟩, if_pos ey]
      · rw [if_neg (fun c => ey (by omega)), if_neg ey]; exact h4 i j1 j2 hi y hy
    · rw [sL_setJ, if_neg (by omega), pu_row _ _ _ _ e]; exact h4 i j1 j2 hi y hy
theorem MR.fr {F : Nat → Prop} {s s' : AS} {m : Nat} {A : MA} (h : MR s m A) (hf : Fr F s s') (hn : ∀ j, j < 28 → ¬ F (m + j)) : MR s' m A := by
  obtain ⟨h0, h1, h2, h3, h4⟩ := h
  obtain ⟨⟨t1, t2, t3, -, -⟩, hq⟩ := hf
  refine ⟨by unfold IsM; rw [t1, t2, t3]; exact h0, ?_, ?_, fun j j1 j2 hj y hy => ?_, fun j j1 j2 hj y hy => ?_⟩
  · rw [(hq m (hn 0 (by omega))).1]; exact h1
  · rw [(hq m (hn 0 (by omega))).2]; exact h2
  · rw [(hq _ (hn j j2)).1]; exact h3 j j1 j2 hj y hy
  · rw [(hq _ (hn j j2)).2]; exact h4 j j1 j2 hj y hy
theorem inM_s {s : AS} {m j k : Nat} {x : Int32} (hj : j < 28) : Fr (inM m) s (setI s (m + j) k x) := Fr.si ⟨by omega, by omega⟩
theorem inM_j {s : AS} {m j k : Nat} {x : Int64} (hj : j < 28) : Fr (inM m) s (setJ s (m + j) k x) := Fr.sj ⟨by omega, by omega⟩
/-- the same but at some numbers -/
def AF (F : Nat → Int → Prop) (A B : MA) : Prop := ∀ j z, ¬ F j z → B j z = A j z
theorem AF.rf (F : Nat → Int → Prop) (A : MA) : AF F A A := fun _ _ _ => rfl
theorem AF.tr {F : Nat → Int → Prop} {A B C : MA} (h : AF F A B) (k : AF F B C) : AF F A C := fun j z hn => (k j z hn).trans (h j z hn)
theorem AF.mo {F G : Nat → Int → Prop} {A B : MA} (h : AF F A B) (hg : ∀ j z, F j z → G j z) : AF G A B := fun j z hn => h j z (fun c => hn (hg j z c))
theorem AF.pu {F : Nat → Int → Prop} {A : MA} {j : Nat} {z x : Int} (h : F j z) : AF F A (pu A j z x) := fun i y hn => pu_ne _ _ _ _ (fun e => hn (by rw [e.1, e.2]; exact h))
theorem m_pageAt {s : AS} {p : Int} : f_M_pageAt s (v p) = some (v (5 + 102 * p)) := by
  unfold f_M_pageAt
  rw [nv5, nv102, v_mul, v_add]
theorem m_slotAt {s : AS} {p i : Int} : f_M_slotAt s (v p) (v i) = some (v (5 + 102 * p + 2 + 3 * i)) := by
  unfold f_M_slotAt
  rw [m_pageAt, Option.bind_some, nv2, nv3, v_add, v_mul, v_add]
theorem m_in {s : AS} {x a b : Int} (hx : r64 x) (ha : r64 a) (hb : r64 b) : f_M_in s (w x) (w a) (w b) = some (v (bi (a ≤ x ∧ x ≤ b))) := by
  unfold f_M_in
  simp (disch := omega) only [nv0, nv1, vif, wc_lt, wc_gt, lw0]
  unfold bi
  repeat' split
  all_goals first | rfl | omega
