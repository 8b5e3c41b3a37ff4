/-! PAGES, PURELY: how many bytes a long record has from a cell on -/
def PgWt (P : PG) (wt : Int → Int) : Prop := ∀ a : Int, 0 ≤ a ∧ a < 128 → (P 0 a = 4 ∨ P 0 a = 5) → (0 ≤ wt a ∧ wt a ≤ 200) ∧ P 2 a - 2 + (if nextP P a = -1 then 0 else wt (nextP P a)) ≤ wt a
def PgH (P : PG) : Prop := PgG P ∧ ∃ wt, PgWt P wt
theorem fresh_no {P : PG} {rk : Int → Int} (hL : PgLk P rk) {a : Int} (ha : 0 ≤ a) (h0 : P 0 a = 0) : NoPt P a := by
  intro b hb e
  have := ((hL b hb).2.2.1 (by rw [e]; omega)).1
  unfold tgtP at this
  rw [e, h0] at this
  omega
theorem bu_eq' {B : Int → Int} {z x : Int} : bu B z x z = x := if_pos rfl
section WT
variable {P : PG} {a kind len x : Int} {B wt : Int → Int}
theorem lay_nb (hI : PgI P) (hc : canL P a kind B len) (hf : needL P a len ≤ freeP P (a / 16)) {b : Int} (hb : 0 ≤ b ∧ b < 128) (e : b ≠ a) : nextP (layP P a kind B len) b = nextP P b := nextP_eq (by rw [layP_0 hI hc hf, if_neg e]) (by rw [layP_b hI hc hf hb, if_neg e])
theorem lay_na (hI : PgI P) (hc : canL P a kind B len) (hf : needL P a len ≤ freeP P (a / 16)) (h2 : 2 ≤ len) (hk : kind = 4 ∨ kind = 5) : nextP (layP P a kind B len) a = if 0 ≤ B 1 ∧ B 1 < 128 then B 1 else -1 := by
  have hlk : linkP (layP P a kind B len) a = 2 := by unfold linkP; rw [layP_0 hI hc hf, if_pos rfl, if_pos (by omega)]
  have hb1 : byteC (layP P a kind B len) a 1 = B 1 := by rw [layP_b hI hc hf hc.1, if_pos rfl, if_neg (by omega)]
  unfold nextP
  rw [hlk, if_neg (by decide), hb1]
theorem lay_Wt (hI : PgI P) (hw : PgWt P wt) (hno : NoPt P a) (hc : canL P a kind B len) (hf : needL P a len ≤ freeP P (a / 16)) (hx : kind = 4 ∨ kind = 5 → (0 ≤ x ∧ x ≤ 200) ∧ nextP (layP P a kind B len) a ≠ a ∧ len - 2 + (if nextP (layP P a kind B len) a = -1 then 0 else wt (nextP (layP P a kind B len) a)) ≤ x) : PgWt (layP P a kind B len) (bu wt a x) := by
  intro b hb hk
  rw [layP_0 hI hc hf] at hk
  rw [layP_2 hI hc hf]
  by_cases e : b = a
  · rw [if_pos e] at hk
    obtain ⟨x1, x2, x3⟩ := hx hk
    rw [if_pos e, e, bu_eq']
    refine ⟨x1, ?_⟩
    by_cases en : nextP (layP P a kind B len) a = -1
    · rw [if_pos en] at x3 ⊢; exact x3
    · rw [if_neg en] at x3 ⊢
      unfold bu
      rw [if_neg x2]
      exact x3
  · rw [if_neg e] at hk ⊢
    obtain ⟨w1, w2⟩ := hw b hb hk
    rw [lay_nb hI hc hf hb e]
    unfold bu
    rw [if_neg e, if_neg (hno b hb)]
    exact ⟨w1, w2⟩
end WT
theorem PgWt.cong {P R : PG} {wt : Int → Int} (h : PgWt P wt) (h0 : ∀ z, R 0 z = P 0 z) (h2 : ∀ z, R 2 z = P 2 z) (hn : ∀ b, 0 ≤ b ∧ b < 128 → nextP R b = nextP P b) : PgWt R wt := by
  intro b hb hk
  rw [h0] at hk
  rw [h2, hn b hb]
  exact h b hb hk
theorem clear_Wt {P : PG} {a kept : Int} {rk wt : Int → Int} (hL : PgLk P rk) (hw : PgWt P wt) (ha : 0 ≤ a ∧ a < 128) (hno : NoPt P a) : PgWt (clearP P a kept) wt := by
  obtain ⟨-, c2, -⟩ := clearP_Lk (kept := kept) hL ha hno
  intro b hb hk
  rw [clearP_0] at hk
  by_cases e : b = a
  · rw [if_pos e] at hk; omega
  · rw [if_neg e] at hk
    rw [clearP_2, if_neg e, c2 b hb e]
    exact hw b hb hk
theorem take_Wt {kept : Int} {wt : Int → Int} : ∀ (k : Nat) (a : Int) (P : PG), PgI P → (∃ rk, PgLk P rk) → PgWt P wt → -1 ≤ a ∧ a < 128 → (a ≠ -1 → NoPt P a) → PgWt (takeL kept k a P) wt := by
  intro k
  induction k with
  | zero => intro a P _ _ hw _ _; exact hw
  | succ k ih =>
    intro a P hI ⟨rk, hL⟩ hw ha hno
    unfold takeL
    by_cases e : a = -1
    · rw [if_pos e]; exact hw
    · rw [if_neg e]
      have ha' : 0 ≤ a ∧ a < 128 := by omega
      obtain ⟨c1, c2, c3⟩ := clearP_Lk (kept := kept) hL ha' (hno e)
      exact ih _ _ (clearP_I hI ha').1 ⟨rk, c1⟩ (clear_Wt hL hw ha' (hno e)) (nextP_r a) (fun hx b hb => by
        by_cases eb : b = a
        · rw [eb, c3]; exact fun c => hx c.symm
        · rw [c2 b hb eb]
          exact fun c => eb ((hL a ha').2.2.1 hx |>.2.2 b hb c))
theorem takeP_H {P : PG} (hH : PgH P) {a : Int} (hr : recP P a) : PgH (takeP P a (-1)) ∧ PgH (takeP P a a) := by
  obtain ⟨hG, wt, hw⟩ := hH
  obtain ⟨g1, g2, -⟩ := takeP_I hG hr
  obtain ⟨hI, rk, hL⟩ := hG
  have hno := rec_no hL hr
  exact ⟨⟨g1, wt, take_Wt 128 a P hI ⟨rk, hL⟩ hw (by have := hr.1; omega) (fun _ => hno)⟩, ⟨g2, wt, take_Wt 128 a P hI ⟨rk, hL⟩ hw (by have := hr.1; omega) (fun _ => hno)⟩⟩
def PieW (P : PG) (next n k : Int) : Prop := ∃ wt, PgWt P wt ∧ (next = -1 ∨ next = 255 ∨ (0 ≤ wt next ∧ wt next ≤ n - (k + 1) * 38))
theorem pie_W {o : LWS} {V : Int → Int} {kept n : Int} {R : Int → Int} (h2 : n ≤ 200) (hR : RecB R n) : ∀ (k : Nat) (next : Int) (P : PG), PieI P next kept k → (k : Int) ≤ (n - 1) / 38 → (next ≠ 255 → next ≠ -1 → (k + 1 : Int) ≤ (n - 1) / 38) → (next = 255 → (k : Int) = (n - 1) / 38) → PieW P next n k → PieW (pieL o V kept R n k next P).2 (pieL o V kept R n k next P).1 n 0 := by
  intro k
  induction k with
  | zero => intro next P _ _ _ _ h; exact h
  | succ k ih =>
    intro next P hJ hk hl he ⟨wt, hw, hx⟩
    unfold pieL
    by_cases e : next = -1
    · rw [if_pos e]; exact ⟨wt, hw, Or.inl rfl⟩
    · rw [if_neg e]
      by_cases e2 : placeA o V P kept (2 + (min ((k + 1 + 1 : Int) * 38) n - (k + 1 : Int) * 38)) = -1
      · rw [if_pos e2]; exact ⟨wt, hw, Or.inl rfl⟩
      · rw [if_neg e2]
        obtain ⟨c1, c2, c3⟩ := pie_can hJ hR (by omega) h2 e (fun c => by have := hl c e; omega) e2
        obtain ⟨hI, -, rk, hL, hxx⟩ := hJ
        have hno := fresh_no hL c1.1.1 c1.2.2.1
        have hb1 : celB next R ((k + 1 : Int) * 38) 1 = next := by unfold celB; rw [if_neg e]; rfl
        have hna := lay_na hI c1 c2 (by omega) (Or.inr rfl)
        rw [hb1] at hna
        have hd : next ≠ 255 → (k + 1 + 1 : Int) * 38 ≤ n := fun c => by have := hl c e; omega
        have hd2 : next = 255 → n ≤ (k + 1 + 1 : Int) * 38 := fun c => by have := he c; omega
        have hnn : next ≠ 255 → (0 ≤ next ∧ next < 128) ∧ P 0 next = 5 := fun c => by
          rcases hxx with h | h | ⟨h1, h3, -⟩
          · exact absurd h e
          · exact absurd h c
          · exact ⟨h1, h3⟩
        have hW := lay_Wt (x := n - (k + 1 : Int) * 38) hI hw hno c1 c2 (fun _ => by
          rw [hna]
          by_cases c : next = 255
          · have h1 := hd2 c
            rw [if_neg (by omega)]
            refine ⟨by omega, by have := c1.1; omega, ?_⟩
            rw [if_pos rfl]
            omega
          · obtain ⟨n1, n2⟩ := hnn c
            have h1 := hd c
            rw [if_pos n1]
            refine ⟨by omega, ?_, ?_⟩
            · intro c'
              rw [c', c1.2.2.1] at n2
              omega
            · rw [if_neg e]
              rcases hx with h | h | h
              · exact absurd h e
              · exact absurd h c
              · omega)
        have hpr := c1.1
        refine ih _ _ c3 (by omega) (fun _ _ => by omega) (fun c => by omega) ⟨_, hW, Or.inr (Or.inr ?_)⟩
        rw [bu_eq']
        omega
theorem pieces_W {o : LWS} {V : Int → Int} {kept n : Int} {R : Int → Int} {P : PG} (h2 : 40 < n ∧ n ≤ 200) (hR : RecB R n) (hI : PgI P) (hK : KpI P kept) (hL : ∃ rk, PgLk P rk) (hw : ∃ wt, PgWt P wt) : PieW (piecesP o V kept R n P).2 (piecesP o V kept R n P).1 n 0 := by
  obtain ⟨rk, hL⟩ := hL
  obtain ⟨wt, hw⟩ := hw
  exact pie_W h2.2 hR _ _ _ ⟨hI, hK, rk, hL, Or.inr (Or.inl rfl)⟩ (by omega) (fun c => absurd rfl c) (fun _ => by omega) ⟨wt, hw, Or.inr (Or.inl rfl)⟩
/-- a head: how many bytes from it on -/
theorem head_W {P : PG} {a next kept n : Int} {R : Int → Int} (hJ : PieI P next kept 0) (hW : PieW P next n 0) (h2 : 40 < n ∧ n ≤ 200) (hn : next ≠ -1) (hc : canL P a 4 (celB next R 0) 40) (hf : needL P a 40 ≤ freeP P (a / 16)) : ∃ wt, PgWt (layP P a 4 (celB next R 0) 40) wt := by
  obtain ⟨hI, -, rk, hL, hxx⟩ := hJ
  obtain ⟨wt, hw, hx⟩ := hW
  have hno := fresh_no hL hc.1.1 hc.2.2.1
  have hb1 : celB next R 0 1 = next := by unfold celB; rw [if_neg hn]; rfl
  have hna := lay_na hI hc hf (by decide) (Or.inl rfl)
  rw [hb1] at hna
  refine ⟨_, lay_Wt (x := n) hI hw hno hc hf (fun _ => ?_)⟩
  rw [hna]
  by_cases c : next = 255
  · rw [if_neg (by omega)]
    refine ⟨by omega, by have := hc.1; omega, ?_⟩
    rw [if_pos rfl]
    omega
  · rcases hxx with h | h | ⟨n1, n2, -⟩
    · exact absurd h hn
    · exact absurd h c
    · rw [if_pos n1]
      refine ⟨by omega, ?_, ?_⟩
      · intro c'
        rw [c', hc.2.2.1] at n2
        omega
      · rw [if_neg hn]
        rcases hx with h | h | h
        · exact absurd h hn
        · exact absurd h c
        · omega
theorem short_W {P : PG} {a kind len : Int} {B : Int → Int} (hG : PgG P) (hw : ∃ wt, PgWt P wt) (hc : canL P a kind B len) (hf : needL P a len ≤ freeP P (a / 16)) (hk : kind = 1 ∨ kind = 2 ∨ kind = 3) : ∃ wt, PgWt (layP P a kind B len) wt := by
  obtain ⟨hI, rk, hL⟩ := hG
  obtain ⟨wt, hw⟩ := hw
  exact ⟨_, lay_Wt (x := 0) hI hw (fresh_no hL hc.1.1 hc.2.2.1) hc hf (fun c => by omega)⟩
theorem bring_H {o : LWS} {V : Int → Int} {R : Int → Int} {n : Int} {P : PG} (hH : PgH P) (hR : RecB R n) (hn : 0 ≤ n ∧ n ≤ 200) : PgH (bringP o V R n P).2 := by
  refine ⟨bring_G hH.1 hR hn, ?_⟩
  obtain ⟨hG, hw⟩ := hH
  have hG' := hG
  obtain ⟨hI, rk, hL⟩ := hG
  unfold bringP
  by_cases c : n ≤ 40
  · rw [if_pos c]
    by_cases e : placeA o V P (-1) n = -1
    · rw [if_pos e]; exact hw
    · rw [if_neg e]
      obtain ⟨h1, h2, -⟩ := one_can (kind := 1) hI (Or.inl rfl) hL hR ⟨hn.1, c⟩ (Or.inl rfl) e
      exact short_W hG' hw h1 h2 (Or.inl rfl)
  · rw [if_neg c]
    have hJ : PieI (piecesP o V (-1) R n P).2 (piecesP o V (-1) R n P).1 (-1) 0 := pie_I hn.2 hR _ _ _ ⟨hI, Or.inl rfl, rk, hL, Or.inr (Or.inl rfl)⟩ (by omega) (fun h => absurd rfl h)
    have hW := pieces_W (o := o) (V := V) (kept := -1) ⟨by omega, hn.2⟩ hR hI (Or.inl rfl) ⟨rk, hL⟩ hw
    by_cases e : (piecesP o V (-1) R n P).1 = -1
    · rw [if_pos e]; exact hw
    · rw [if_neg e]
      by_cases e2 : placeA o V (piecesP o V (-1) R n P).2 (-1) 40 = -1
      · rw [if_pos e2]; exact hw
      · rw [if_neg e2]
        obtain ⟨p1, p2, p3, p4, p5, -⟩ := placeA_r hJ.1 (Or.inl rfl) (by decide) e2
        exact head_W hJ hW ⟨by omega, hn.2⟩ e (head_can hJ hR (by omega) e ⟨p1, p2, p3⟩ p4).1 p4
theorem anew_H {o : LWS} {V : Int → Int} {R : Int → Int} {n a : Int} {P : PG} (hH : PgH P) (hR : RecB R n) (hn : 0 ≤ n ∧ n ≤ 200) (hr : recP P a) : PgH (anewP o V R n a P).2 := by
  refine ⟨anew_G hH.1 hR hn hr, ?_⟩
  obtain ⟨-, hT⟩ := takeP_H hH hr
  obtain ⟨-, -, tK⟩ := takeP_I hH.1 hr
  obtain ⟨⟨tI, rk, tL⟩, tw⟩ := hT
  have hw := hH.2
  unfold anewP
  by_cases c : n ≤ 40
  · rw [if_pos c]
    by_cases c1 : n ≤ freeP (takeP P a a) (a / 16)
    · rw [if_pos c1]
      obtain ⟨h1, h2, -⟩ := own_can tI tL tK hr.1 hR ⟨hn.1, c⟩ c1
      exact short_W ⟨tI, rk, tL⟩ tw h1 h2 (Or.inl rfl)
    · rw [if_neg c1]
      by_cases e : placeA o V (takeP P a a) a n = -1
      · rw [if_pos e]; exact hw
      · rw [if_neg e]
        obtain ⟨p1, -⟩ := placeA_r tI tK hn.1 e
        obtain ⟨q1, q2, q3, q4, rk', q5, q6, q7⟩ := one_can (kind := 3) tI tK tL hR ⟨hn.1, c⟩ (Or.inr rfl) e
        by_cases e2 : freeP (layP (takeP P a a) (placeA o V (takeP P a a) a n) 3 (celB (-1) R 0) n) (a / 16) < 2
        · rw [if_pos e2]; exact hw
        · rw [if_neg e2]
          obtain ⟨h1, h2, -⟩ := stub_can q3 q5 q4 hr.1 ⟨p1, by rw [layP_0 tI q1 q2, if_pos rfl], q6, q7⟩ (by omega)
          exact short_W ⟨q3, rk', q5⟩ (short_W ⟨tI, rk, tL⟩ tw q1 q2 (Or.inr (Or.inr rfl))) h1 h2 (Or.inr (Or.inl rfl))
  · rw [if_neg c]
    have hJ : PieI (piecesP o V a R n (takeP P a a)).2 (piecesP o V a R n (takeP P a a)).1 a 0 := pie_I hn.2 hR _ _ _ ⟨tI, tK, rk, tL, Or.inr (Or.inl rfl)⟩ (by omega) (fun h => absurd rfl h)
    have hW := pieces_W (o := o) (V := V) (kept := a) ⟨by omega, hn.2⟩ hR tI tK ⟨rk, tL⟩ tw
    by_cases e : (piecesP o V a R n (takeP P a a)).1 = -1
    · rw [if_pos e]; exact hw
    · rw [if_neg e]
      by_cases e2 : freeP (piecesP o V a R n (takeP P a a)).2 (a / 16) < 40
      · rw [if_pos e2]; exact hw
      · rw [if_neg e2]
        rcases hJ.2.1 with hk | ⟨k1, k2, k3⟩
        · have := hr.1; omega
        · have hl := (hJ.1.1.1.2 (a / 16)).2.2.2.1
          have hnd : needL (piecesP o V a R n (takeP P a a)).2 a 40 ≤ freeP (piecesP o V a R n (takeP P a a)).2 (a / 16) := by rw [own_need k2]; omega
          exact head_W hJ hW ⟨by omega, hn.2⟩ e (head_can hJ hR (by omega) e ⟨k1, ⟨by omega, by omega⟩, k3⟩ hnd).1 hnd
theorem prom_H {P : PG} (hH : PgH P) {p : Int} (hp : 0 ≤ p ∧ p < 8) : PgH (promP P p) := by
  refine ⟨prom_G hH.1 hp, ?_⟩
  obtain ⟨-, wt, hw⟩ := hH
  have row : ∀ (j : Nat) (z : Int), j ≠ 4 → promP P p j z = P j z := fun j z h => pu_row _ _ _ _ h _
  exact ⟨wt, hw.cong (fun z => row 0 z (by decide)) (fun z => row 2 z (by decide)) (fun b hb => nextP_eq (row 0 b (by decide)) (by unfold byteC; rw [row 1 _ (by decide), row 2 _ (by decide), row 5 _ (by decide)]))⟩
theorem sq_H {P : PG} (hH : PgH P) {p : Int} (hp : 0 ≤ p ∧ p < 8) : PgH (squeezeP P p) := by
  refine ⟨sq_G hH.1 hp, ?_⟩
  obtain ⟨hG, wt, hw⟩ := hH
  exact ⟨wt, hw.cong (fun z => sq_row (by decide) (by decide) z) (fun z => sq_row (by decide) (by decide) z) (fun b hb => sq_next hG.1 hp hb)⟩
theorem pack_H {P : PG} (hH : PgH P) {p : Int} (hp : 0 ≤ p ∧ p < 8) : PgH (packP P p) := prom_H (sq_H hH hp) hp
theorem mend_H {P0 : PG} : ∀ (k : Nat) (p c : Int) (P : PG), 0 ≤ p → p + k ≤ 8 → PgH P → PgH (mendL P0 k p c P).2 := by
  intro k
  induction k with
  | zero => intro p c P _ _ h; exact h
  | succ k ih => intro p c P h0 h8 h; exact ih _ _ _ (by omega) (by omega) (prom_H h (by omega))
