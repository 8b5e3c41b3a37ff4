/-! PAGES, PURELY: records come and go -/
def placeA (o : LWS) (V : Int → Int) (P : PG) (kept m : Int) : Int := if searchP o V P kept m = -1 then -1 else searchP o V P kept m * 16 + openP P (searchP o V P kept m) kept
/-- a slot that is kept lies in its directory -/
def KpI (P : PG) (kept : Int) : Prop := kept = -1 ∨ ((0 ≤ kept ∧ kept < 128) ∧ kept % 16 < P 3 (kept / 16) ∧ P 0 kept = 0)
theorem placeA_r {o : LWS} {V : Int → Int} {P : PG} {kept m : Int} (hI : PgI P) (hk : KpI P kept) (hm : 0 ≤ m) (h : placeA o V P kept m ≠ -1) : (0 ≤ placeA o V P kept m ∧ placeA o V P kept m < 128) ∧ (placeA o V P kept m % 16 ≤ P 3 (placeA o V P kept m / 16) ∧ placeA o V P kept m % 16 < 12) ∧ P 0 (placeA o V P kept m) = 0 ∧ needL P (placeA o V P kept m) m ≤ freeP P (placeA o V P kept m / 16) ∧ placeA o V P kept m ≠ kept ∧ searchP o V P kept m = placeA o V P kept m / 16 ∧ searchP o V P kept m ≠ -1 := by
  unfold placeA at h ⊢
  by_cases e : searchP o V P kept m = -1
  · rw [if_pos e] at h; exact absurd rfl h
  · rw [if_neg e] at h ⊢
    rcases searchP_r (o := o) (V := V) (P := P) (kept := kept) (m := m) with c | ⟨c1, c2, c3⟩
    · exact absurd c e
    · rcases openP_r hI.1.1 (searchP o V P kept m) kept with c | ⟨d1, d2, d3, d4⟩
      · exact absurd c c2
      · generalize searchP o V P kept m = p at *
        generalize openP P p kept = i at *
        have ep : (p * 16 + i) / 16 = p := by omega
        have ei : (p * 16 + i) % 16 = i := by omega
        have hl := (hI.1.1.2 p).2.2.2.1
        rw [ep, ei]
        have h0 : P 0 (p * 16 + i) = 0 := by
          by_cases c : i < P 3 p
          · exact (d3 c).1
          · exact hI.1.2.2 p i c1 ⟨by omega, by omega⟩
        refine ⟨by omega, ⟨d4, d2⟩, h0, by unfold needL; rw [ep, ei]; omega, ?_, rfl, e⟩
        intro ek
        by_cases c : i < P 3 p
        · exact (d3 c).2 ek
        · rcases hk with hk | ⟨hk1, hk2, hk3⟩
          · omega
          · rw [← ek, ep, ei] at hk2
            exact c hk2
/-- the bytes of a cell: the next cell's address (255: none; -1: no such bytes), then a record's -/
def celB (next : Int) (R : Int → Int) (from_ : Int) : Int → Int := if next = -1 then (fun z => R (from_ + z)) else fun z => if z = 0 then (if next = 255 then 255 else 0) else if z = 1 then next else R (from_ + (z - 2))
def lnkB (n : Int) : Int → Int := fun z => if z = 0 then 0 else n
theorem layP_ext {P : PG} {a kind len : Int} {B C : Int → Int} (h : ∀ z, 0 ≤ z → z < len → B z = C z) : layP P a kind B len = layP P a kind C len := by
  unfold layP layQ writeP
  have hw : ∀ (R : PG) (base : Int), wrB R base B len = wrB R base C len := by
    intro R base
    funext j y
    unfold wrB
    by_cases e : j = 5 ∧ base ≤ y ∧ y < base + len
    · rw [if_pos e, if_pos e]; exact h _ (by omega) (by omega)
    · rw [if_neg e, if_neg e]
  rw [hw]
def pieL (o : LWS) (V : Int → Int) (kept : Int) (R : Int → Int) (n : Int) : Nat → Int → PG → Int × PG
  | 0, next, P => (next, P)
  | k + 1, next, P => if next = -1 then (-1, P) else if placeA o V P kept (2 + (min ((k + 1 + 1 : Int) * 38) n - (k + 1 : Int) * 38)) = -1 then (-1, P) else
    pieL o V kept R n k (placeA o V P kept (2 + (min ((k + 1 + 1 : Int) * 38) n - (k + 1 : Int) * 38))) (layP P (placeA o V P kept (2 + (min ((k + 1 + 1 : Int) * 38) n - (k + 1 : Int) * 38))) 5 (celB next R ((k + 1 : Int) * 38)) (2 + (min ((k + 1 + 1 : Int) * 38) n - (k + 1 : Int) * 38)))
def piecesP (o : LWS) (V : Int → Int) (kept : Int) (R : Int → Int) (n : Int) (P : PG) : Int × PG := pieL o V kept R n ((n - 1) / 38).toNat 255 P
def bringP (o : LWS) (V : Int → Int) (R : Int → Int) (n : Int) (P : PG) : Int × PG :=
  if n ≤ 40 then (if placeA o V P (-1) n = -1 then (-1, P) else (placeA o V P (-1) n, layP P (placeA o V P (-1) n) 1 (celB (-1) R 0) n)) else
  if (piecesP o V (-1) R n P).1 = -1 then (-1, P) else
  if placeA o V (piecesP o V (-1) R n P).2 (-1) 40 = -1 then (-1, P) else
  (placeA o V (piecesP o V (-1) R n P).2 (-1) 40, layP (piecesP o V (-1) R n P).2 (placeA o V (piecesP o V (-1) R n P).2 (-1) 40) 4 (celB (piecesP o V (-1) R n P).1 R 0) 40)
def takeL (kept : Int) : Nat → Int → PG → PG
  | 0, _, P => P
  | k + 1, at_, P => if at_ = -1 then P else takeL kept k (nextP P at_) (clearP P at_ kept)
def takeP (P : PG) (a kept : Int) : PG := takeL kept 128 a P
def anewP (o : LWS) (V : Int → Int) (R : Int → Int) (n : Int) (a : Int) (P : PG) : Int × PG :=
  if n ≤ 40 then
    (if n ≤ freeP (takeP P a a) (a / 16) then (0, layP (takeP P a a) a 1 (celB (-1) R 0) n) else
    if placeA o V (takeP P a a) a n = -1 then (-1, P) else
    if freeP (layP (takeP P a a) (placeA o V (takeP P a a) a n) 3 (celB (-1) R 0) n) (a / 16) < 2 then (-1, P) else
    (1, layP (layP (takeP P a a) (placeA o V (takeP P a a) a n) 3 (celB (-1) R 0) n) a 2 (lnkB (placeA o V (takeP P a a) a n)) 2)) else
  if (piecesP o V a R n (takeP P a a)).1 = -1 then (-1, P) else
  if freeP (piecesP o V a R n (takeP P a a)).2 (a / 16) < 40 then (-1, P) else
  (2, layP (piecesP o V a R n (takeP P a a)).2 a 4 (celB (piecesP o V a R n (takeP P a a)).1 R 0) 40)
theorem celB_r {next n from_ len : Int} {R : Int → Int} (hn : next = -1 ∨ (0 ≤ next ∧ next ≤ 255)) (hR : ∀ z, 0 ≤ z → z < n → 0 ≤ R z ∧ R z ≤ 255) (hf : 0 ≤ from_) (hl : from_ + (if next = -1 then len else len - 2) ≤ n) : ∀ z, 0 ≤ z → z < len → 0 ≤ celB next R from_ z ∧ celB next R from_ z ≤ 255 := by
  intro z h0 h1
  unfold celB
  by_cases e : next = -1
  · rw [if_pos e] at hl ⊢
    exact hR _ (by omega) (by omega)
  · rw [if_neg e] at hl ⊢
    show 0 ≤ (if z = 0 then _ else _) ∧ (if z = 0 then _ else _) ≤ 255
    by_cases z0 : z = 0
    · rw [if_pos z0]; split <;> omega
    · rw [if_neg z0]
      by_cases z1 : z = 1
      · rw [if_pos z1]; omega
      · rw [if_neg z1]; exact hR _ (by omega) (by omega)
theorem KpI.lay {P : PG} {kept a kind len : Int} {B : Int → Int} (h : KpI P kept) (hI : PgI P) (hc : canL P a kind B len) (hf : needL P a len ≤ freeP P (a / 16)) (hne : a ≠ kept) : KpI (layP P a kind B len) kept := by
  rcases h with h | ⟨h1, h2, h3⟩
  · exact Or.inl h
  · refine Or.inr ⟨h1, ?_, ?_⟩
    · rw [layP_3 hI hc hf]
      split
      · rename_i e; rw [e] at h2; omega
      · exact h2
    · rw [layP_0 hI hc hf, if_neg (fun c => hne c.symm)]
      exact h3
/-- where pieces stand while they are laid -/
def PieI (P : PG) (next kept k : Int) : Prop := PgI P ∧ KpI P kept ∧ ∃ rk, PgLk P rk ∧ (next = -1 ∨ next = 255 ∨ ((0 ≤ next ∧ next < 128) ∧ P 0 next = 5 ∧ NoPt P next ∧ rk next + k ≤ 5))
theorem pie_can {o : LWS} {V : Int → Int} {P : PG} {kept next n : Int} {R : Int → Int} {k : Nat} (hJ : PieI P next kept (k + 1)) (hR : ∀ z, 0 ≤ z → z < n → 0 ≤ R z ∧ R z ≤ 255) (hk : (k + 1 : Int) ≤ (n - 1) / 38) (h2 : n ≤ 200) (hn : next ≠ -1) (hlast : next ≠ 255 → (k + 2 : Int) ≤ (n - 1) / 38)
    (ha : placeA o V P kept (2 + (min ((k + 1 + 1 : Int) * 38) n - (k + 1 : Int) * 38)) ≠ -1) :
    canL P (placeA o V P kept (2 + (min ((k + 1 + 1 : Int) * 38) n - (k + 1 : Int) * 38))) 5 (celB next R ((k + 1 : Int) * 38)) (2 + (min ((k + 1 + 1 : Int) * 38) n - (k + 1 : Int) * 38)) ∧ needL P (placeA o V P kept (2 + (min ((k + 1 + 1 : Int) * 38) n - (k + 1 : Int) * 38))) (2 + (min ((k + 1 + 1 : Int) * 38) n - (k + 1 : Int) * 38)) ≤ freeP P (placeA o V P kept (2 + (min ((k + 1 + 1 : Int) * 38) n - (k + 1 : Int) * 38)) / 16) ∧
    PieI (layP P (placeA o V P kept (2 + (min ((k + 1 + 1 : Int) * 38) n - (k + 1 : Int) * 38))) 5 (celB next R ((k + 1 : Int) * 38)) (2 + (min ((k + 1 + 1 : Int) * 38) n - (k + 1 : Int) * 38))) (placeA o V P kept (2 + (min ((k + 1 + 1 : Int) * 38) n - (k + 1 : Int) * 38))) kept k := by
  obtain ⟨hI, hK, rk, hL, hx⟩ := hJ
  have hm : 3 ≤ 2 + (min ((k + 1 + 1 : Int) * 38) n - (k + 1 : Int) * 38) ∧ 2 + (min ((k + 1 + 1 : Int) * 38) n - (k + 1 : Int) * 38) ≤ 40 := by omega
  have hm2 : next ≠ 255 → 2 + (min ((k + 1 + 1 : Int) * 38) n - (k + 1 : Int) * 38) = 40 := fun e => by have := hlast e; omega
  have hcut : (k + 1 : Int) * 38 + (2 + (min ((k + 1 + 1 : Int) * 38) n - (k + 1 : Int) * 38) - 2) ≤ n := by omega
  generalize 2 + (min ((k + 1 + 1 : Int) * 38) n - (k + 1 : Int) * 38) = len at *
  obtain ⟨p1, p2, p3, p4, p5, -⟩ := placeA_r hI hK (by omega) ha
  have hc : canL P (placeA o V P kept len) 5 (celB next R ((k + 1 : Int) * 38)) len := ⟨p1, p2, p3, by decide, by omega, celB_r (n := n) (by omega) hR (by omega) (by rw [if_neg hn]; exact hcut)⟩
  have c0 : celB next R ((k + 1 : Int) * 38) 0 = if next = 255 then 255 else 0 := by unfold celB; rw [if_neg hn]; rfl
  have c1 : celB next R ((k + 1 : Int) * 38) 1 = next := by unfold celB; rw [if_neg hn]; rfl
  have hr5 : ∀ a, 0 ≤ a ∧ a < 128 → 0 ≤ rk a ∧ rk a ≤ 6 := fun a h => (hL a h).2.2.2.2
  obtain ⟨l1, l2, l3, l4⟩ := lay_Lk (n := if next = 255 then -1 else next) hI hL hc p4 ⟨fun h => by omega, fun h => by omega, fun _ => hm.1⟩ (by
    by_cases e : next = 255
    · rw [if_pos e]
      exact Or.inl ⟨rfl, by decide, fun _ => ⟨by rw [c0, if_pos e], by rw [c1, e]⟩⟩
    · rw [if_neg e]
      rcases hx with hx | hx | ⟨x1, x2, x3, x4⟩
      · exact absurd hx hn
      · exact absurd hx e
      · exact Or.inr ⟨x1, by rw [c0, if_neg e], c1, Or.inr ⟨Or.inr rfl, x2, hm2 e⟩, x3, by omega⟩)
  refine ⟨hc, p4, layP_I hI hc p4, hK.lay hI hc p4 p5, _, l1, Or.inr (Or.inr ⟨p1, by rw [layP_0 hI hc p4, if_pos rfl], l2, ?_⟩)⟩
  unfold bu
  rw [if_pos rfl]
  by_cases e : next = 255
  · rw [if_pos e, if_pos rfl]; omega
  · rw [if_neg e]
    rcases hx with hx | hx | ⟨x1, x2, x3, x4⟩
    · exact absurd hx hn
    · exact absurd hx e
    · rw [if_neg (by omega)]; omega
theorem pie_I {o : LWS} {V : Int → Int} {kept n : Int} {R : Int → Int} (h2 : n ≤ 200) (hR : ∀ z, 0 ≤ z → z < n → 0 ≤ R z ∧ R z ≤ 255) : ∀ (k : Nat) (next : Int) (P : PG), PieI P next kept k → (k : Int) ≤ (n - 1) / 38 → (next ≠ 255 → next ≠ -1 → (k + 1 : Int) ≤ (n - 1) / 38) → PieI (pieL o V kept R n k next P).2 (pieL o V kept R n k next P).1 kept 0 := by
  intro k
  induction k with
  | zero => intro next P h _ _; exact h
  | succ k ih =>
    intro next P h hk hl
    unfold pieL
    by_cases e : next = -1
    · rw [if_pos e]
      exact ⟨h.1, h.2.1, h.2.2.choose, h.2.2.choose_spec.1, Or.inl rfl⟩
    · rw [if_neg e]
      by_cases e2 : placeA o V P kept (2 + (min ((k + 1 + 1 : Int) * 38) n - (k + 1 : Int) * 38)) = -1
      · rw [if_pos e2]
        exact ⟨h.1, h.2.1, h.2.2.choose, h.2.2.choose_spec.1, Or.inl rfl⟩
      · rw [if_neg e2]
        exact ih _ _ (pie_can h hR (by omega) h2 e (fun c => by have := hl c e; omega) e2).2.2 (by omega) (fun _ _ => by omega)
