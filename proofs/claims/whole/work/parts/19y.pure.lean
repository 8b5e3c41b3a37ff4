/-! what a put depends on; how many cells there are -/
theorem celB_ext {next n from_ len : Int} {R R' : Int → Int} (hR : ∀ z, 0 ≤ z → z < n → R z = R' z) (hf : 0 ≤ from_) (hl : from_ + (if next = -1 then len else len - 2) ≤ n) : ∀ z, 0 ≤ z → z < len → celB next R from_ z = celB next R' from_ z := by
  intro z z0 z1
  unfold celB
  by_cases c : next = -1
  · rw [if_pos c] at hl
    rw [if_pos c, if_pos c]
    exact hR _ (by omega) (by omega)
  · rw [if_neg c] at hl
    rw [if_neg c, if_neg c]
    show (if z = 0 then _ else if z = 1 then next else R (from_ + (z - 2))) = (if z = 0 then _ else if z = 1 then next else R' (from_ + (z - 2)))
    by_cases c1 : z = 0
    · rw [if_pos c1, if_pos c1]
    rw [if_neg c1, if_neg c1]
    by_cases c2 : z = 1
    · rw [if_pos c2, if_pos c2]
    rw [if_neg c2, if_neg c2]
    exact hR _ (by omega) (by omega)
theorem pie_ext {o : LWS} {V : Int → Int} {kept n : Int} {R R' : Int → Int} (hR : ∀ z, 0 ≤ z → z < n → R z = R' z) : ∀ (k : Nat) (next : Int) (P : PG), pieL o V kept R n k next P = pieL o V kept R' n k next P := by
  intro k
  induction k with
  | zero => intro next P; rfl
  | succ k ih =>
    intro next P
    unfold pieL
    by_cases c : next = -1
    · rw [if_pos c, if_pos c]
    rw [if_neg c, if_neg c]
    by_cases c2 : placeA o V P kept (2 + (min ((k + 1 + 1 : Int) * 38) n - (k + 1 : Int) * 38)) = -1
    · rw [if_pos c2, if_pos c2]
    rw [if_neg c2, if_neg c2, ih, layP_ext (celB_ext hR (by omega) (by rw [if_neg c]; omega))]
theorem bring_ext {o : LWS} {V : Int → Int} {n : Int} {R R' : Int → Int} {P : PG} (hn : 0 ≤ n) (hR : ∀ z, 0 ≤ z → z < n → R z = R' z) : bringP o V R n P = bringP o V R' n P := by
  unfold bringP
  by_cases c : n ≤ 40
  · rw [if_pos c, if_pos c, layP_ext (celB_ext hR (Int.le_refl 0) (by rw [if_pos rfl]; omega))]
  · rw [if_neg c, if_neg c]
    have e : piecesP o V (-1) R n P = piecesP o V (-1) R' n P := pie_ext hR _ _ _
    rw [e]
    by_cases c2 : (piecesP o V (-1) R' n P).1 = -1
    · rw [if_pos c2, if_pos c2]
    · rw [if_neg c2, if_neg c2, layP_ext (celB_ext hR (Int.le_refl 0) (by rw [if_neg c2]; omega))]
theorem anew_ext {o : LWS} {V : Int → Int} {n a : Int} {R R' : Int → Int} {P : PG} (hn : 0 ≤ n) (hR : ∀ z, 0 ≤ z → z < n → R z = R' z) : anewP o V R n a P = anewP o V R' n a P := by
  unfold anewP
  by_cases c : n ≤ 40
  · have e1 : ∀ (Q : PG) (b kd : Int), layP Q b kd (celB (-1) R 0) n = layP Q b kd (celB (-1) R' 0) n := fun Q b kd => layP_ext (celB_ext hR (Int.le_refl 0) (by rw [if_pos rfl]; omega))
    rw [if_pos c, if_pos c]
    simp only [e1]
  · have e : piecesP o V a R n (takeP P a a) = piecesP o V a R' n (takeP P a a) := pie_ext hR _ _ _
    rw [if_neg c, if_neg c, e]
    by_cases c2 : (piecesP o V a R' n (takeP P a a)).1 = -1
    · rw [if_pos c2, if_pos c2]
    · rw [if_neg c2, if_neg c2, layP_ext (celB_ext hR (Int.le_refl 0) (by rw [if_neg c2]; omega))]
/-- how many places hold a cell -/
def nzP (P : PG) : Int := sumZ (fun a => if P 0 a = 0 then 0 else 1) 128
theorem nzP_r (P : PG) : 0 ≤ nzP P ∧ nzP P ≤ 128 := by
  have := sumZ_r (f := fun a => if P 0 a = 0 then 0 else 1) (m := 1) (by decide) (fun z => by
    show 0 ≤ (if P 0 z = 0 then (0 : Int) else 1) ∧ _ ≤ (1 : Int)
    split <;> omega) 128
  unfold nzP
  omega
theorem nz_lay {P : PG} {a kind len : Int} {B : Int → Int} (hI : PgI P) (hc : canL P a kind B len) (hf : needL P a len ≤ freeP P (a / 16)) : nzP (layP P a kind B len) = nzP P + 1 := by
  have h0 := layP_0 hI hc hf
  have e : (fun z => if layP P a kind B len 0 z = 0 then (0 : Int) else 1) = fun z => (if P 0 z = 0 then (0 : Int) else 1) + (if a ≤ z ∧ z < a + 1 then 1 else 0) := by
    funext z
    rw [h0 z]
    by_cases c : z = a
    · rw [if_pos c, if_neg (by have := hc.2.2.2.1; omega), c, hc.2.2.1, if_pos rfl, if_pos (by omega)]
      rfl
    · rw [if_neg c, if_neg (show ¬(a ≤ z ∧ z < a + 1) by omega), Int.add_zero]
  unfold nzP
  rw [e, sumZ_add, sumZ_ind hc.1.1 (by decide)]
  have := hc.1
  omega
theorem nz_pie {o : LWS} {V : Int → Int} {kept n : Int} {R : Int → Int} (h2 : n ≤ 200) (hR : RecB R n) : ∀ (k : Nat) (next : Int) (P : PG), PieI P next kept k → (k : Int) ≤ (n - 1) / 38 → (next ≠ 255 → next ≠ -1 → (k + 1 : Int) ≤ (n - 1) / 38) → nzP P ≤ nzP (pieL o V kept R n k next P).2 := by
  intro k
  induction k with
  | zero => intro next P h _ _; exact Int.le_refl _
  | succ k ih =>
    intro next P h hk hl
    unfold pieL
    by_cases e : next = -1
    · rw [if_pos e]; exact Int.le_refl _
    · rw [if_neg e]
      by_cases e2 : placeA o V P kept (2 + (min ((k + 1 + 1 : Int) * 38) n - (k + 1 : Int) * 38)) = -1
      · rw [if_pos e2]; exact Int.le_refl _
      · rw [if_neg e2]
        obtain ⟨g1, g2, g3⟩ := pie_can h hR (by omega) h2 e (fun c => by have := hl c e; omega) e2
        have i1 := ih _ _ g3 (by omega) (fun _ _ => by omega)
        have i2 := nz_lay h.1 g1 g2
        omega
theorem nz_bring {o : LWS} {V : Int → Int} {R : Int → Int} {n : Int} {P : PG} (hG : PgG P) (hR : RecB R n) (hn : 0 ≤ n ∧ n ≤ 200) (hk : (bringP o V R n P).1 ≠ -1) : nzP P + 1 ≤ nzP (bringP o V R n P).2 := by
  obtain ⟨hI, rk, hL⟩ := hG
  unfold bringP at hk ⊢
  by_cases c : n ≤ 40
  · rw [if_pos c] at hk ⊢
    by_cases e : placeA o V P (-1) n = -1
    · rw [if_pos e] at hk; exact absurd rfl hk
    · rw [if_neg e]
      obtain ⟨h1, h2, -⟩ := one_can (kind := 1) hI (Or.inl rfl) hL hR ⟨hn.1, c⟩ (Or.inl rfl) e
      exact Int.le_of_eq (nz_lay hI h1 h2).symm
  · rw [if_neg c] at hk ⊢
    have hJ0 : PieI P 255 (-1) (((n - 1) / 38).toNat : Nat) := ⟨hI, Or.inl rfl, rk, hL, Or.inr (Or.inl rfl)⟩
    have hJ : PieI (piecesP o V (-1) R n P).2 (piecesP o V (-1) R n P).1 (-1) 0 := pie_I hn.2 hR _ _ _ hJ0 (by omega) (fun h => absurd rfl h)
    have hz : nzP P ≤ nzP (piecesP o V (-1) R n P).2 := nz_pie hn.2 hR _ _ _ hJ0 (by omega) (fun h => absurd rfl h)
    by_cases e : (piecesP o V (-1) R n P).1 = -1
    · rw [if_pos e] at hk; exact absurd rfl hk
    · rw [if_neg e] at hk ⊢
      by_cases e2 : placeA o V (piecesP o V (-1) R n P).2 (-1) 40 = -1
      · rw [if_pos e2] at hk; exact absurd rfl hk
      · rw [if_neg e2]
        obtain ⟨p1, p2, p3, p4, p5, -⟩ := placeA_r hJ.1 (Or.inl rfl) (by decide) e2
        have := nz_lay hJ.1 (head_can hJ hR (by omega) e ⟨p1, p2, p3⟩ p4).1 p4
        show nzP P + 1 ≤ nzP (layP (piecesP o V (-1) R n P).2 (placeA o V (piecesP o V (-1) R n P).2 (-1) 40) 4 (celB (piecesP o V (-1) R n P).1 R 0) 40)
        omega
def fitL (o : LWS) (V : Int → Int) (R : Int → Int) (n : Int) : Nat → Int → PG → Int
  | 0, c, _ => c
  | k + 1, c, P => if (bringP o V R n P).1 = -1 then c else fitL o V R n k (c + 1) (bringP o V R n P).2
theorem fit_one {o : LWS} {V : Int → Int} {R : Int → Int} {n : Int} (hR : RecB R n) (hn : 0 ≤ n ∧ n ≤ 200) : ∀ (k : Nat) (c : Int) (P : PG), PgG P → 128 ≤ nzP P + k → fitL o V R n (k + 1) c P = fitL o V R n k c P := by
  intro k
  induction k with
  | zero =>
    intro c P hG hk
    show (if (bringP o V R n P).1 = -1 then c else c + 1) = c
    by_cases e : (bringP o V R n P).1 = -1
    · rw [if_pos e]
    · have h1 := nz_bring hG hR hn e
      have h2 := nzP_r (bringP o V R n P).2
      omega
  | succ k ih =>
    intro c P hG hk
    rw [fitL]
    conv => rhs; rw [fitL]
    by_cases e : (bringP o V R n P).1 = -1
    · rw [if_pos e, if_pos e]
    · rw [if_neg e, if_neg e]
      exact ih _ _ (bring_G hG hR hn) (by have := nz_bring hG hR hn e; omega)
def fitZ (se : ST1) (P : PG) (a : Int) : Int := if 0 ≤ a ∧ a ≤ 200 then fitL (lwF se) se.1 (fun _ => 0) a 128 0 P else -1
