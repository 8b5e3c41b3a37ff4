/-! PAGES, PURELY: all stays good -/
def RecB (R : Int → Int) (n : Int) : Prop := ∀ z, 0 ≤ z → z < n → 0 ≤ R z ∧ R z ≤ 255
theorem one_can {o : LWS} {V : Int → Int} {P : PG} {kept n kind : Int} {R : Int → Int} {rk : Int → Int} (hI : PgI P) (hK : KpI P kept) (hL : PgLk P rk) (hR : RecB R n) (hn : 0 ≤ n ∧ n ≤ 40) (hk : kind = 1 ∨ kind = 3) (ha : placeA o V P kept n ≠ -1) :
    canL P (placeA o V P kept n) kind (celB (-1) R 0) n ∧ needL P (placeA o V P kept n) n ≤ freeP P (placeA o V P kept n / 16) ∧ PgI (layP P (placeA o V P kept n) kind (celB (-1) R 0) n) ∧ KpI (layP P (placeA o V P kept n) kind (celB (-1) R 0) n) kept ∧ ∃ rk', PgLk (layP P (placeA o V P kept n) kind (celB (-1) R 0) n) rk' ∧ NoPt (layP P (placeA o V P kept n) kind (celB (-1) R 0) n) (placeA o V P kept n) ∧ rk' (placeA o V P kept n) = 0 := by
  obtain ⟨p1, p2, p3, p4, p5, -⟩ := placeA_r hI hK hn.1 ha
  have hc : canL P (placeA o V P kept n) kind (celB (-1) R 0) n := ⟨p1, p2, p3, by omega, hn, celB_r (n := n) (Or.inl rfl) hR (by omega) (by rw [if_pos rfl]; omega)⟩
  obtain ⟨l1, l2, l3, l4⟩ := lay_Lk (n := -1) hI hL hc p4 ⟨fun h => by omega, fun h => by omega, fun h => by omega⟩ (Or.inl ⟨rfl, by omega, fun h => by omega⟩)
  exact ⟨hc, p4, layP_I hI hc p4, hK.lay hI hc p4 p5, _, l1, l2, by unfold bu; rw [if_pos rfl]; rfl⟩
/-- a head in a slot that has the room -/
theorem head_can {P : PG} {a next kept n : Int} {R : Int → Int} (hJ : PieI P next kept 0) (hR : RecB R n) (h40 : 40 < n) (hn : next ≠ -1) (ha : (0 ≤ a ∧ a < 128) ∧ (a % 16 ≤ P 3 (a / 16) ∧ a % 16 < 12) ∧ P 0 a = 0) (hf : needL P a 40 ≤ freeP P (a / 16)) :
    canL P a 4 (celB next R 0) 40 ∧ PgG (layP P a 4 (celB next R 0) 40) := by
  obtain ⟨hI, hK, rk, hL, hx⟩ := hJ
  have hc : canL P a 4 (celB next R 0) 40 := ⟨ha.1, ha.2.1, ha.2.2, by decide, by decide, celB_r (n := n) (by omega) hR (by omega) (by rw [if_neg hn]; omega)⟩
  have c0 : celB next R 0 0 = if next = 255 then 255 else 0 := by unfold celB; rw [if_neg hn]; rfl
  have c1 : celB next R 0 1 = next := by unfold celB; rw [if_neg hn]; rfl
  obtain ⟨l1, -⟩ := lay_Lk (n := if next = 255 then -1 else next) hI hL hc hf ⟨fun h => by omega, fun _ => rfl, fun h => by omega⟩ (by
    by_cases e : next = 255
    · rw [if_pos e]
      exact Or.inl ⟨rfl, by decide, fun _ => ⟨by rw [c0, if_pos e], by rw [c1, e]⟩⟩
    · rw [if_neg e]
      rcases hx with hx | hx | ⟨x1, x2, x3, x4⟩
      · exact absurd hx hn
      · exact absurd hx e
      · exact Or.inr ⟨x1, by rw [c0, if_neg e], c1, Or.inr ⟨Or.inl rfl, x2, rfl⟩, x3, by omega⟩)
  exact ⟨hc, layP_I hI hc hf, _, l1⟩
theorem take_I {kept : Int} : ∀ (k : Nat) (a : Int) (P : PG), PgI P → (∃ rk, PgLk P rk) → -1 ≤ a ∧ a < 128 → (a ≠ -1 → NoPt P a) → (KpI P kept ∨ (kept = a ∧ 0 < k ∧ kept % 16 < P 3 (kept / 16))) → PgI (takeL kept k a P) ∧ (∃ rk, PgLk (takeL kept k a P) rk) ∧ (KpI (takeL kept k a P) kept ∨ a = -1) := by
  intro k
  induction k with
  | zero =>
    intro a P hI hL ha hno hk
    refine ⟨hI, hL, ?_⟩
    rcases hk with hk | hk
    · exact Or.inl hk
    · omega
  | succ k ih =>
    intro a P hI ⟨rk, hL⟩ ha hno hk
    unfold takeL
    by_cases e : a = -1
    · rw [if_pos e]
      exact ⟨hI, ⟨rk, hL⟩, Or.inr e⟩
    · rw [if_neg e]
      have ha' : 0 ≤ a ∧ a < 128 := by omega
      obtain ⟨i1, -, -⟩ := clearP_I (kept := kept) hI ha'
      obtain ⟨c1, c2, c3⟩ := clearP_Lk (kept := kept) hL ha' (hno e)
      have hnr := nextP_r (P := P) a
      have hkp : KpI (clearP P a kept) kept := by
        have ht := trimL_r (pu P 0 a 0) (a / 16) kept (P 3 (a / 16)).toNat
        rcases hk with (hk | ⟨k1, k2, k3⟩) | ⟨k1, k2, k3⟩
        · exact Or.inl hk
        · refine Or.inr ⟨k1, ?_, by rw [clearP_0]; split <;> first | rfl | exact k3⟩
          rw [clearP_3]
          split
          · rename_i ep
            rw [ep] at k2
            exact ht.2.2 (kept % 16) (by omega) (by omega) (by omega)
          · exact k2
        · subst k1
          refine Or.inr ⟨ha', ?_, by rw [clearP_0, if_pos rfl]⟩
          rw [clearP_3, if_pos rfl]
          exact ht.2.2 (kept % 16) (by omega) (by omega) (by omega)
      obtain ⟨r1, r2, r3⟩ := ih (nextP P a) (clearP P a kept) i1 ⟨rk, c1⟩ hnr (fun hx b hb => by
        by_cases eb : b = a
        · rw [eb, c3]; exact fun c => hx c.symm
        · rw [c2 b hb eb]
          exact fun c => eb ((hL a ha').2.2.1 hx |>.2.2 b hb c)) (Or.inl hkp)
      refine ⟨r1, r2, ?_⟩
      rcases r3 with r3 | r3
      · exact Or.inl r3
      · left
        rw [r3]
        cases k with
        | zero => exact hkp
        | succ k => unfold takeL; rw [if_pos rfl]; exact hkp
/-- a record is pointed to by none -/
theorem rec_no {P : PG} {rk : Int → Int} (hL : PgLk P rk) {a : Int} (hr : recP P a) : NoPt P a := by
  intro b hb e
  have := (hL b hb).2.2.1 (by rw [e]; have := hr.1; omega)
  have h1 := this.1
  unfold tgtP at h1
  rw [e] at h1
  have := hr.2
  unfold recK at this
  omega
theorem rec_dir {P : PG} (hI : PgI P) {a : Int} (hr : recP P a) : a % 16 < P 3 (a / 16) ∧ a % 16 < 12 := by
  have hl := (hI.1.1.2 (a / 16)).2.2.2.1
  by_cases c : a % 16 < P 3 (a / 16)
  · exact ⟨c, by omega⟩
  · have h0 := hI.1.2.2 (a / 16) (a % 16) (by have := hr.1; omega) ⟨by omega, by omega⟩
    rw [show a / 16 * 16 + a % 16 = a by omega] at h0
    have := hr.2
    unfold recK at this
    omega
theorem takeP_I {P : PG} (hG : PgG P) {a : Int} (hr : recP P a) : (PgG (takeP P a (-1))) ∧ PgG (takeP P a a) ∧ KpI (takeP P a a) a := by
  obtain ⟨hI, rk, hL⟩ := hG
  have hno := rec_no hL hr
  have hd := rec_dir hI hr
  obtain ⟨a1, a2, a3⟩ := take_I (kept := -1) 128 a P hI ⟨rk, hL⟩ (by have := hr.1; omega) (fun _ => hno) (Or.inl (Or.inl rfl))
  obtain ⟨b1, b2, b3⟩ := take_I (kept := a) 128 a P hI ⟨rk, hL⟩ (by have := hr.1; omega) (fun _ => hno) (Or.inr ⟨rfl, by decide, hd.1⟩)
  refine ⟨⟨a1, a2⟩, ⟨b1, b2⟩, ?_⟩
  rcases b3 with b3 | b3
  · exact b3
  · have := hr.1; omega
theorem bring_G {o : LWS} {V : Int → Int} {R : Int → Int} {n : Int} {P : PG} (hG : PgG P) (hR : RecB R n) (hn : 0 ≤ n ∧ n ≤ 200) : PgG (bringP o V R n P).2 := by
  have hG' := hG
  obtain ⟨hI, rk, hL⟩ := hG
  unfold bringP
  by_cases c : n ≤ 40
  · rw [if_pos c]
    by_cases e : placeA o V P (-1) n = -1
    · rw [if_pos e]; exact hG'
    · rw [if_neg e]
      obtain ⟨-, -, h1, -, rk', h2, -⟩ := one_can (kind := 1) hI (Or.inl rfl) hL hR ⟨hn.1, c⟩ (Or.inl rfl) e
      exact ⟨h1, rk', h2⟩
  · rw [if_neg c]
    have hJ : PieI (piecesP o V (-1) R n P).2 (piecesP o V (-1) R n P).1 (-1) 0 := pie_I hn.2 hR _ _ _ ⟨hI, Or.inl rfl, rk, hL, Or.inr (Or.inl rfl)⟩ (by omega) (fun h => absurd rfl h)
    by_cases e : (piecesP o V (-1) R n P).1 = -1
    · rw [if_pos e]; exact hG'
    · rw [if_neg e]
      by_cases e2 : placeA o V (piecesP o V (-1) R n P).2 (-1) 40 = -1
      · rw [if_pos e2]; exact hG'
      · rw [if_neg e2]
        obtain ⟨p1, p2, p3, p4, p5, -⟩ := placeA_r hJ.1 (Or.inl rfl) (by decide) e2
        exact (head_can hJ hR (by omega) e ⟨p1, p2, p3⟩ p4).2
theorem own_need {P : PG} {a len : Int} (h : a % 16 < P 3 (a / 16)) : needL P a len = len := by unfold needL; omega
theorem stub_can {P : PG} {a to_ : Int} {rk : Int → Int} (hI : PgI P) (hL : PgLk P rk) (hK : KpI P a) (ha : 0 ≤ a ∧ a < 128) (ht : (0 ≤ to_ ∧ to_ < 128) ∧ P 0 to_ = 3 ∧ NoPt P to_ ∧ rk to_ = 0) (hf : 2 ≤ freeP P (a / 16)) : canL P a 2 (lnkB to_) 2 ∧ needL P a 2 ≤ freeP P (a / 16) ∧ PgG (layP P a 2 (lnkB to_) 2) := by
  rcases hK with hK | ⟨k1, k2, k3⟩
  · omega
  · have hl := (hI.1.1.2 (a / 16)).2.2.2.1
    have hc : canL P a 2 (lnkB to_) 2 := ⟨ha, ⟨by omega, by omega⟩, k3, by decide, by decide, fun z z0 z1 => by unfold lnkB; split <;> omega⟩
    have hnd : needL P a 2 ≤ freeP P (a / 16) := by rw [own_need k2]; exact hf
    obtain ⟨l1, -⟩ := lay_Lk (n := to_) hI hL hc hnd ⟨fun _ => rfl, fun h => by omega, fun h => by omega⟩ (Or.inr ⟨ht.1, rfl, rfl, Or.inl ⟨rfl, ht.2.1⟩, ht.2.2.1, by omega⟩)
    exact ⟨hc, hnd, layP_I hI hc hnd, _, l1⟩
theorem own_can {P : PG} {a n : Int} {R : Int → Int} {rk : Int → Int} (hI : PgI P) (hL : PgLk P rk) (hK : KpI P a) (ha : 0 ≤ a ∧ a < 128) (hR : RecB R n) (hn : 0 ≤ n ∧ n ≤ 40) (hf : n ≤ freeP P (a / 16)) : canL P a 1 (celB (-1) R 0) n ∧ needL P a n ≤ freeP P (a / 16) ∧ PgG (layP P a 1 (celB (-1) R 0) n) := by
  rcases hK with hK | ⟨k1, k2, k3⟩
  · omega
  · have hl := (hI.1.1.2 (a / 16)).2.2.2.1
    have hc : canL P a 1 (celB (-1) R 0) n := ⟨ha, ⟨by omega, by omega⟩, k3, by decide, hn, celB_r (n := n) (Or.inl rfl) hR (by omega) (by rw [if_pos rfl]; omega)⟩
    have hnd : needL P a n ≤ freeP P (a / 16) := by rw [own_need k2]; exact hf
    obtain ⟨l1, -⟩ := lay_Lk (n := -1) hI hL hc hnd ⟨fun h => by omega, fun h => by omega, fun h => by omega⟩ (Or.inl ⟨rfl, by decide, fun h => by omega⟩)
    exact ⟨hc, hnd, layP_I hI hc hnd, _, l1⟩
theorem anew_G {o : LWS} {V : Int → Int} {R : Int → Int} {n a : Int} {P : PG} (hG : PgG P) (hR : RecB R n) (hn : 0 ≤ n ∧ n ≤ 200) (hr : recP P a) : PgG (anewP o V R n a P).2 := by
  obtain ⟨-, ⟨tI, rk, tL⟩, tK⟩ := takeP_I hG hr
  unfold anewP
  by_cases c : n ≤ 40
  · rw [if_pos c]
    by_cases c1 : n ≤ freeP (takeP P a a) (a / 16)
    · rw [if_pos c1]
      exact (own_can tI tL tK hr.1 hR ⟨hn.1, c⟩ c1).2.2
    · rw [if_neg c1]
      by_cases e : placeA o V (takeP P a a) a n = -1
      · rw [if_pos e]; exact hG
      · rw [if_neg e]
        obtain ⟨p1, -⟩ := placeA_r tI tK hn.1 e
        obtain ⟨q1, q2, q3, q4, rk', q5, q6, q7⟩ := one_can (kind := 3) tI tK tL hR ⟨hn.1, c⟩ (Or.inr rfl) e
        by_cases e2 : freeP (layP (takeP P a a) (placeA o V (takeP P a a) a n) 3 (celB (-1) R 0) n) (a / 16) < 2
        · rw [if_pos e2]; exact hG
        · rw [if_neg e2]
          exact (stub_can q3 q5 q4 hr.1 ⟨p1, by rw [layP_0 tI q1 q2, if_pos rfl], q6, q7⟩ (by omega)).2.2
  · rw [if_neg c]
    have hJ : PieI (piecesP o V a R n (takeP P a a)).2 (piecesP o V a R n (takeP P a a)).1 a 0 := pie_I hn.2 hR _ _ _ ⟨tI, tK, rk, tL, Or.inr (Or.inl rfl)⟩ (by omega) (fun h => absurd rfl h)
    by_cases e : (piecesP o V a R n (takeP P a a)).1 = -1
    · rw [if_pos e]; exact hG
    · rw [if_neg e]
      by_cases e2 : freeP (piecesP o V a R n (takeP P a a)).2 (a / 16) < 40
      · rw [if_pos e2]; exact hG
      · rw [if_neg e2]
        rcases hJ.2.1 with hk | ⟨k1, k2, k3⟩
        · have := hr.1; omega
        · have hl := (hJ.1.1.1.2 (a / 16)).2.2.2.1
          exact (head_can hJ hR (by omega) e ⟨k1, ⟨by omega, by omega⟩, k3⟩ (by rw [own_need k2]; omega)).2
theorem prom_G {P : PG} (hG : PgG P) {p : Int} (hp : 0 ≤ p ∧ p < 8) : PgG (promP P p) := by
  obtain ⟨hI, rk, hL⟩ := hG
  have hfr := freeP_r hI.1.1 p
  have hf0 := hI.2.2.1 p hp
  have row : ∀ (j : Nat) (z : Int), j ≠ 4 → promP P p j z = P j z := fun j z h => pu_row _ _ _ _ h _
  have h4 : ∀ z, 0 ≤ promP P p 4 z ∧ promP P p 4 z ≤ 8 := by
    intro z
    unfold promP
    rw [pu_v]
    split
    · omega
    · exact hI.2.2.2.1 z
  have hfree : ∀ q, freeP (promP P p) q = freeP P q := fun q => free_rows (row 3 q (by decide)) (fun k _ _ => row 2 _ (by decide))
  refine ⟨⟨⟨⟨fun a ha h0 => ?_, fun z => ?_⟩, fun a h => ?_, fun q i hq hi => ?_⟩, fun q i hq hi hn => ?_, fun q hq => by rw [hfree]; exact hI.2.2.1 q hq, h4, fun z => by rw [row 5 z (by decide)]; exact hI.2.2.2.2.1 z, ?_⟩, rk, hL.cong (fun z => row 0 z (by decide)) (fun z => row 2 z (by decide)) (fun b k _ => ?_)⟩
  · rw [row 2 _ (by decide)] at h0 ⊢; rw [row 1 _ (by decide)]; exact hI.1.1.1 a ha h0
  · have hb := hI.1.1.2 z
    have h4z := h4 z
    rw [row 0 _ (by decide), row 1 _ (by decide), row 2 _ (by decide), row 3 _ (by decide), row 5 _ (by decide)]
    exact ⟨hb.1, hb.2.1, hb.2.2.1, hb.2.2.2.1, by omega, hb.2.2.2.2.2⟩
  · rw [row 0 _ (by decide)] at h; rw [row 2 _ (by decide)]; exact hI.1.2.1 a h
  · rw [row 3 _ (by decide)] at hi; rw [row 0 _ (by decide)]; exact hI.1.2.2 q i hq hi
  · rw [row 0 _ (by decide)] at hn; rw [row 1 _ (by decide), row 2 _ (by decide), row 3 _ (by decide)]; exact hI.2.1 q i hq hi hn
  · unfold PgD
    simp only [row 0 _ (by decide), row 1 _ (by decide), row 2 _ (by decide)]
    exact hI.2.2.2.2.2
  · unfold byteC
    rw [row 1 _ (by decide), row 2 _ (by decide), row 5 _ (by decide)]
def packP (P : PG) (p : Int) : PG := promP (squeezeP P p) p
theorem pack_G {P : PG} (hG : PgG P) {p : Int} (hp : 0 ≤ p ∧ p < 8) : PgG (packP P p) := prom_G (sq_G hG hp) hp
def mendL (P0 : PG) : Nat → Int → Int → PG → Int × PG
  | 0, _, c, P => (c, P)
  | k + 1, p, c, P => mendL P0 k (p + 1) (if promP P p 4 p = P0 4 p then c else c + 1) (promP P p)
def mendP (P : PG) : Int × PG := mendL P 8 0 0 P
theorem mend_G {P0 : PG} : ∀ (k : Nat) (p c : Int) (P : PG), 0 ≤ p → p + k ≤ 8 → PgG P → PgG (mendL P0 k p c P).2 := by
  intro k
  induction k with
  | zero => intro p c P _ _ h; exact h
  | succ k ih => intro p c P h0 h8 h; exact ih _ _ _ (by omega) (by omega) (prom_G h (by omega))
