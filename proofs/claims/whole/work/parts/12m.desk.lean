/-! A DESK: squeezing a page -/
/-- where a slot's cell comes when a page is squeezed, slot by slot: what is left, the slot, the end -/
def sqz (sp : Int → Int) (p : Int) : Nat → Int → Int → PG → PG
  | 0, _, _, P => P
  | k + 1, i, e, P => if P 0 (p * 16 + i) = 0 then sqz sp p k (i + 1) e P else
    sqz sp p k (i + 1) (e - P 2 (p * 16 + i)) (pu (wrB P (p * 64 + (e - P 2 (p * 16 + i))) (fun z => sp (P 1 (p * 16 + i) + z)) (P 2 (p * 16 + i))) 1 (p * 16 + i) (e - P 2 (p * 16 + i)))
def squeezeP (P : PG) (p : Int) : PG := sqz (fun z => P 5 (p * 64 + z)) p (P 3 p).toNat 0 64 P
theorem wrB_row {P : PG} {base : Int} {B : Int → Int} {i : Int} {j : Nat} (h : j ≠ 5) (y : Int) : wrB P base B i j y = P j y := if_neg (fun e => h e.1)
/-- cells that are there lie on the page -/
def InPg (P : PG) (p : Int) : Prop := ∀ i : Int, 0 ≤ i → i < P 3 p → P 0 (p * 16 + i) ≠ 0 → 0 ≤ P 1 (p * 16 + i) ∧ P 1 (p * 16 + i) + P 2 (p * 16 + i) ≤ 64
/-- how many bytes the cells from a slot on take -/
def tailZ (P : PG) (p : Int) : Nat → Int → Int
  | 0, _ => 0
  | k + 1, i => (if P 0 (p * 16 + i) = 0 then 0 else P 2 (p * 16 + i)) + tailZ P p k (i + 1)
theorem pg_wr {s : AS} {b : Nat} {P : PG} {x : Nat} {sp dp k : Int} {A : Int → Int} {m : Int} (h : PgR s b P) (hf : ∀ z : Int, 0 ≤ z ∧ z < m → sI s x z.toNat = v (A z)) (hr : (0 ≤ sp ∧ 0 ≤ dp ∧ 0 ≤ k) ∧ sp + k ≤ m) :
    PgR (rowI s (b + 6) (va_cpy (sI s x) (sI s (b + 6)) sp.toNat dp.toNat k.toNat)) b (wrB P dp (fun z => A (sp + z)) k) := by
  obtain ⟨h0, d0, d1, d2, d3, d4, d5⟩ := h
  have hn : ∀ j : Nat, j ≠ 6 → sI (rowI s (b + 6) (va_cpy (sI s x) (sI s (b + 6)) sp.toNat dp.toNat k.toNat)) (b + j) = sI s (b + j) := fun j hj => by rw [sI_rowI, if_neg (by omega)]
  refine ⟨h0, fun y hy => ?_, fun y hy => ?_, fun y hy => ?_, fun y hy => ?_, fun y hy => ?_, fun y hy => ?_⟩
  · rw [hn 1 (by decide), wrB_row (by decide)]; exact d0 y hy
  · rw [hn 2 (by decide), wrB_row (by decide)]; exact d1 y hy
  · rw [hn 3 (by decide), wrB_row (by decide)]; exact d2 y hy
  · rw [hn 4 (by decide), wrB_row (by decide)]; exact d3 y hy
  · rw [hn 5 (by decide), wrB_row (by decide)]; exact d4 y hy
  · rw [sI_rowI, if_pos rfl, cp_val hf d5 hr y hy]
    unfold wrB
    by_cases e : dp ≤ y ∧ y < dp + k
    · rw [if_pos e, if_pos ⟨rfl, e⟩]
    · rw [if_neg e, if_neg (fun c => e c.2)]
