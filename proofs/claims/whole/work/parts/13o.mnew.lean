/-! THE REFERENCE: a record is written anew -/
/-- written anew behind its cells have left; with -1 what stands then doesn't matter -/
def anewT (o : LWS) (V : Int → Int) (R : Int → Int) (n a : Int) (T : PG) : Int × PG :=
  if n ≤ 40 then
    (if n ≤ freeP T (a / 16) then (0, layP T a 1 (celB (-1) R 0) n) else
    if placeA o V T a n = -1 then (-1, T) else
    if freeP (layP T (placeA o V T a n) 3 (celB (-1) R 0) n) (a / 16) < 2 then (-1, T) else
    (1, layP (layP T (placeA o V T a n) 3 (celB (-1) R 0) n) a 2 (lnkB (placeA o V T a n)) 2)) else
  if (piecesP o V a R n T).1 = -1 then (-1, T) else
  if freeP (piecesP o V a R n T).2 (a / 16) < 40 then (-1, T) else
  (2, layP (piecesP o V a R n T).2 a 4 (celB (piecesP o V a R n T).1 R 0) 40)
theorem anewT_P {o : LWS} {V : Int → Int} {R : Int → Int} {n a : Int} {P : PG} : (anewP o V R n a P).1 = (anewT o V R n a (takeP P a a)).1 ∧ (anewP o V R n a P).2 = (if (anewT o V R n a (takeP P a a)).1 = -1 then P else (anewT o V R n a (takeP P a a)).2) := by
  unfold anewP anewT
  by_cases c : n ≤ 40
  · rw [if_pos c, if_pos c]
    by_cases c1 : n ≤ freeP (takeP P a a) (a / 16)
    · rw [if_pos c1, if_pos c1]; exact ⟨rfl, (if_neg (show ¬ (0 : Int) = -1 by decide)).symm⟩
    · rw [if_neg c1, if_neg c1]
      by_cases c2 : placeA o V (takeP P a a) a n = -1
      · rw [if_pos c2, if_pos c2]; exact ⟨rfl, (if_pos rfl).symm⟩
      · rw [if_neg c2, if_neg c2]
        by_cases c3 : freeP (layP (takeP P a a) (placeA o V (takeP P a a) a n) 3 (celB (-1) R 0) n) (a / 16) < 2
        · rw [if_pos c3, if_pos c3]; exact ⟨rfl, (if_pos rfl).symm⟩
        · rw [if_neg c3, if_neg c3]; exact ⟨rfl, (if_neg (show ¬ (1 : Int) = -1 by decide)).symm⟩
  · rw [if_neg c, if_neg c]
    by_cases c1 : (piecesP o V a R n (takeP P a a)).1 = -1
    · rw [if_pos c1, if_pos c1]; exact ⟨rfl, (if_pos rfl).symm⟩
    · rw [if_neg c1, if_neg c1]
      by_cases c2 : freeP (piecesP o V a R n (takeP P a a)).2 (a / 16) < 40
      · rw [if_pos c2, if_pos c2]; exact ⟨rfl, (if_pos rfl).symm⟩
      · rw [if_neg c2, if_neg c2]; exact ⟨rfl, (if_neg (show ¬ (2 : Int) = -1 by decide)).symm⟩
theorem anewT_r {o : LWS} {V : Int → Int} {R : Int → Int} {n a : Int} {T : PG} : -1 ≤ (anewT o V R n a T).1 ∧ (anewT o V R n a T).1 ≤ 2 := by
  unfold anewT
  repeat' split
  all_goals exact ⟨by first | (show (-1 : Int) ≤ 0; decide) | (show (-1 : Int) ≤ -1; decide) | (show (-1 : Int) ≤ 1; decide) | (show (-1 : Int) ≤ 2; decide), by first | (show (0 : Int) ≤ 2; decide) | (show (-1 : Int) ≤ 2; decide) | (show (1 : Int) ≤ 2; decide) | (show (2 : Int) ≤ 2; decide)⟩
section MN
variable {m : Nat} {o : LWS} {V : Int → Int} {n : Int} {R : Int → Int}
theorem m_placeOwn {s : AS} {A : MA} {P : PG} {a kind len : Int} {B : Int → Int} (h : MR s m A) (hP : PgM (A 2) P) (hI : PgI P) (hK : KpI P a) (ha : 0 ≤ a ∧ a < 128) (hl : 0 ≤ len ∧ len ≤ 40) (hc : len ≤ freeP P (a / 16) → canL P a kind B len) :
    ∃ s' A', f_M_placeOwn s m (v a) (v kind) (v len) = some (v (bi (len ≤ freeP P (a / 16))), s') ∧ MR s' m A' ∧ AF scrP A A' ∧ Fr (inM m) s s' ∧ (len ≤ freeP P (a / 16) → ∃ C, PgM (A' 2) (layP P a kind C len)) ∧ (¬ len ≤ freeP P (a / 16) → PgM (A' 2) P) := by
  have hf := m_freeOf h hP hI.1 (p := a / 16) (by omega)
  have hfr := freeP_r hI.1.1 (a / 16)
  unfold f_M_placeOwn
  rw [if_pos (show ¬ nI 16 = nI 0 by decide), if_pos h.t, nv16, v_div (by omega) (by omega), hf, Option.bind_some]
  by_cases e : len ≤ freeP P (a / 16)
  · rcases hK with hK | ⟨k1, k2, k3⟩
    · omega
    · obtain ⟨s1, A1, C, q1, q2, q3, q4, q5⟩ := m_placeIn h hP hI (hc e) k2 (by rw [own_need k2]; exact e)
      rw [if_neg (nlt (by omega)), v_mul, v_sub, show a - a / 16 * 16 = a % 16 by omega, q1, Option.bind_some, bi_t e, nv1]
      exact ⟨s1, A1, rfl, q2, q4, q5, fun _ => ⟨C, q3⟩, fun c => absurd e c⟩
  · rw [if_pos (plt (by omega)), bi_f e, nv0]
    exact ⟨s, A, rfl, h, AF.rf _ _, Fr.rf _ _, fun c => absurd c e, fun _ => hP⟩
theorem m_rewrite {s : AS} {A : MA} {P : PG} {a : Int} (h : MR s m A) (hE : MkE A o V a P) (hb : BrM A R n) (hn : 0 ≤ n ∧ n ≤ 200) (hRb : RecB R n) (hG : PgG P) (hK : KpI P a) (ha : 0 ≤ a ∧ a < 128) :
    ∃ s' A' P', (if 40 < n then f_M_rewriteLong s m (v a) else f_M_rewriteShort s m (v a)) = some (v (anewT o V R n a P).1, s') ∧ MR s' m A' ∧ PgM (A' 2) P' ∧ ((anewT o V R n a P).1 ≠ -1 → P' = (anewT o V R n a P).2) ∧ AF scrP A A' ∧ Fr (inM m) s s' := by
  obtain ⟨hI, rk, hL⟩ := hG
  have h44 := h.i44
  rw [hb.1] at h44
  by_cases c40 : n ≤ 40
  · rw [if_neg (by omega)]
    unfold f_M_rewriteShort anewT
    rw [if_pos c40]
    have hown := fun hf => own_can hI hL hK ha hRb ⟨hn.1, c40⟩ hf
    obtain ⟨s1, A1, q1, q2, q3, q4, q5, q6⟩ := m_placeOwn (kind := 1) h hE.1 hI hK ha ⟨hn.1, c40⟩ (fun hf => (hown hf).1)
    have h44' := q2.i44
    rw [(hb.fr q3).1] at h44'
    rw [if_pos h.t, h44, nv1, q1, Option.bind_some]
    by_cases e : n ≤ freeP P (a / 16)
    · obtain ⟨C, hC⟩ := q5 e
      obtain ⟨c1, c2, -⟩ := hown e
      obtain ⟨s2, A2, r1, r2, r3, r4, r5⟩ := m_by1 q2 hC hI c1 c2 (hb.fr q3) (Int.le_refl _)
      rw [bi_t e, if_neg (show ¬ v 1 = nI 0 by decide), if_pos q2.t, h44', nv0, r1, Option.bind_some, if_pos e]
      exact ⟨s2, A2, _, rfl, r2, r3, fun _ => rfl, q3.tr (scrQ_P r4), q4.tr r5⟩
    · have hE1 := hE.pg q3 (q6 e)
      have hcan := fun ha => one_can (o := o) (V := V) (kept := a) (kind := 3) hI hK hL hRb ⟨hn.1, c40⟩ (Or.inr rfl) ha
      obtain ⟨s2, A2, r1, r2, r3, r4, r5, r6⟩ := m_placed (kind := 3) (len := n) q2 hE1 hI hK ⟨hn.1, c40⟩ (fun ha => (hcan ha).1)
      rw [bi_f e, if_pos (show v 0 = nI 0 by rfl), if_pos q2.t, h44', nv3, r1, Option.bind_some, v_neg, if_neg e]
      by_cases e1 : placeA o V P a n = -1
      · rw [if_pos (peq e1), if_pos e1]
        exact ⟨s2, A2, P, rfl, r2, r5 e1, fun c => absurd rfl c, q3.tr r3, q4.tr r4⟩
      · obtain ⟨C, hC⟩ := r6 e1
        obtain ⟨c1, c2, c3, c4, rk', c5, c6, c7⟩ := hcan e1
        have hpr := c1.1
        have h44'' := r2.i44
        rw [((hb.fr q3).fr r3).1] at h44''
        obtain ⟨s3, A3, u1, u2, u3, u4, u5⟩ := m_by1 r2 hC hI c1 c2 ((hb.fr q3).fr r3) (Int.le_refl _)
        have hst := fun hf => stub_can c3 c5 c4 ha ⟨hpr, by rw [layP_0 hI c1 c2, if_pos rfl], c6, c7⟩ hf
        obtain ⟨s4, A4, w1, w2, w3, w4, w5, w6⟩ := m_placeOwn (kind := 2) (len := 2) u2 u3 c3 c4 ha (by decide) (fun hf => (hst hf).1)
        rw [if_neg (pne (by omega)), if_neg e1, if_pos r2.t, h44'', nv0, u1, Option.bind_some, if_pos u2.t, nv2, w1, Option.bind_some]
        by_cases e2 : freeP (layP P (placeA o V P a n) 3 (celB (-1) R 0) n) (a / 16) < 2
        · rw [bi_f (by omega), if_pos rfl, if_pos e2]
          exact ⟨s4, A4, _, rfl, w2, w6 (by omega), fun c => absurd rfl c, ((q3.tr r3).tr (scrQ_P u4)).tr w3, ((q4.tr r4).tr u5).tr w4⟩
        · obtain ⟨C2, hC2⟩ := w5 (by omega)
          obtain ⟨d1, d2, d3⟩ := hst (by omega)
          have hd0 : layP (layP P (placeA o V P a n) 3 (celB (-1) R 0) n) a 2 C2 2 0 a = 2 := by rw [layP_C (B := lnkB (placeA o V P a n)) (by decide), layP_0 c3 d1 d2, if_pos rfl]
          have hin := d3.1.2.1 (a / 16) (a % 16) (by omega) (by omega) (by rw [show a / 16 * 16 + a % 16 = a by omega, layP_0 c3 d1 d2, if_pos rfl]; decide)
          rw [show a / 16 * 16 + a % 16 = a by omega, layP_2 c3 d1 d2, if_pos rfl, ← layP_C (C := C2) (by decide) a] at hin
          have hl3 := (d3.1.1.1.2 (a / 16)).2.2.2.1
          obtain ⟨s5, A5, x1, x2, x3, x4, x5⟩ := m_point (to_ := placeA o V P a n) w2 hC2 ha d1.2.1.2 (by omega) (by rw [hd0]; decide) (by omega)
          rw [bi_t (by omega), if_neg (show ¬ v 1 = v 0 by decide), if_pos w2.t, x1, Option.bind_some, if_neg e2]
          refine ⟨s5, A5, _, rfl, x2, x3, fun _ => ?_, (((q3.tr r3).tr (scrQ_P u4)).tr w3).tr (scrQ_P x4), (((q4.tr r4).tr u5).tr w4).tr x5⟩
          rw [wrB_ext (C := lnkB (placeA o V P a n)) (fun z z0 z1 => by
            show (if z = 0 then _ else _) = if z = 0 then _ else _
            rw [if_neg e1, if_neg e1]), layP_wr]
  · rw [if_pos (by omega)]
    unfold f_M_rewriteLong anewT
    rw [if_neg c40, if_pos h.t]
    obtain ⟨s1, A1, q1, q2, q3, q4, q5, hJ⟩ := m_putPieces h hE hb ⟨by omega, hn.2⟩ hRb hI hK ⟨rk, hL⟩
    generalize hpc : piecesP o V a R n P = pc at *
    obtain ⟨next, P2⟩ := pc
    simp only [] at q1 q3 hJ ⊢
    have hnr : -1 ≤ next ∧ next ≤ 255 := by
      obtain ⟨-, -, rk, -, hx⟩ := hJ
      omega
    have hrm : r32 (resM next) := by unfold resM; split <;> (try split) <;> omega
    rw [q1, Option.bind_some, nv2, v_neg, nv1, v_neg]
    by_cases e : next = -1
    · rw [if_pos (peq (by unfold resM; rw [if_pos e])), if_pos e]
      exact ⟨s1, A1, P2, rfl, q2, q3, fun c => absurd rfl c, q4, q5⟩
    · have hrn : resM next = if next = 255 then -1 else next := by unfold resM; rw [if_neg e]
      have hcan : 40 ≤ freeP P2 (a / 16) → canL P2 a 4 (celB next R 0) 40 ∧ needL P2 a 40 ≤ freeP P2 (a / 16) := fun hf => by
        rcases hJ.2.1 with hk | ⟨k1, k2, k3⟩
        · omega
        · have hl := (hJ.1.1.1.2 (a / 16)).2.2.2.1
          have hnd : needL P2 a 40 ≤ freeP P2 (a / 16) := by rw [own_need k2]; exact hf
          exact ⟨(head_can hJ hRb (by omega) e ⟨k1, ⟨by omega, by omega⟩, k3⟩ hnd).1, hnd⟩
      obtain ⟨s2, A2, r1, r2, r3, r4, r5, r6⟩ := m_placeOwn (kind := 4) (len := 40) q2 q3 hJ.1 hJ.2.1 ha (by decide) (fun hf => (hcan hf).1)
      rw [if_neg (pne ⟨⟨hrm, by omega⟩, by rw [hrn]; split <;> omega⟩), if_neg e, if_pos q2.t, nv4, show nI 40 = v 40 from rfl, r1, Option.bind_some, nv0]
      by_cases e2 : freeP P2 (a / 16) < 40
      · rw [bi_f (by omega), if_pos rfl, if_pos e2]
        exact ⟨s2, A2, P2, rfl, r2, r6 (by omega), fun c => absurd rfl c, q4.tr r3, q5.tr r4⟩
      · obtain ⟨C, hC⟩ := r5 (by omega)
        obtain ⟨c1, c2⟩ := hcan (by omega)
        obtain ⟨s3, A3, s4, A4, u1, u2, u3, u4, u5, u6, u7⟩ := m_by2 (next := next) (from_ := 0) r2 hC hJ.1 c1 c2 ((hb.fr q4).fr r3) ⟨by omega, hn.2⟩ (by decide) (by omega)
        have u3' : f_M_copyTo s3 m (v a) (v 2) (v 0) (v 38) = some s4 := u3
        rw [bi_t (by omega), if_neg (show ¬ v 1 = v 0 by decide), if_pos r2.t, hrn, u1, Option.bind_some, if_pos u2.t, nv38, u3', Option.bind_some, if_neg e2]
        exact ⟨s4, A4, _, rfl, u4, u5, fun _ => rfl, (q4.tr r3).tr (scrQ_P u6), (q5.tr r4).tr u7⟩
end MN
