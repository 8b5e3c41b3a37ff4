/-! A DESK: records come and go -/
section DR
variable {s : AS} {d st mc : Nat} {o : LWS} {V : Int → Int} {kept len : Int} {P Bf : PG} {B : Int → Int}
theorem s_srch (h : DkS s d st mc o V kept P Bf B len) (hB : PgB P) (hl : 0 ≤ len ∧ len ≤ 100) : ∃ t s1, f_Setting_lawInForce s st = some t ∧ f_Desk_pageFor s d (v len) t = some (v (searchP o V P kept len), s1) ∧ DkS s1 d st mc o V kept P Bf B len ∧ Fr (inD d mc) s s1 := by
  have h' := h
  obtain ⟨hE, hkk, hP, hBf, hR, hkr⟩ := h
  have hE' := hE
  obtain ⟨-, -, -, -, -, -, L, n, fo, hS, hnf, hLw⟩ := hE
  obtain ⟨s1, q1, q2, q3⟩ := s_pageFor hE' hLw hP hB hkk hl hkr
  exact ⟨_, s1, s_lawInForce hS ⟨hnf.1, by omega⟩, q1, h'.mch q3 q2, q3.mo (fun q hq => Or.inr hq)⟩
theorem s_layOn (h : DkS s d st mc o V kept P Bf B len) (hI : PgI P) (hK : KpI P kept) (hl : 0 ≤ len ∧ len ≤ 40) {kind : Int} (hc : placeA o V P kept len ≠ -1 → canL P (placeA o V P kept len) kind B len) :
    ∃ s', f_Desk_layOn s d (v (searchP o V P kept len)) (v kind) = some (v (placeA o V P kept len), s') ∧ DkS s' d st mc o V kept (if placeA o V P kept len = -1 then P else layP P (placeA o V P kept len) kind B len) Bf B len ∧ Fr (inD d mc) s s' := by
  unfold f_Desk_layOn b_Desk_layOn_23
  by_cases e : placeA o V P kept len = -1
  · have es : searchP o V P kept len = -1 := by
      unfold placeA at e
      by_cases c : searchP o V P kept len = -1
      · exact c
      · rw [if_neg c] at e
        rcases searchP_r (o := o) (V := V) (P := P) (kept := kept) (m := len) with g | ⟨g1, g2, g3⟩
        · exact g
        · rcases openP_r hI.1.1 (searchP o V P kept len) kept with g | ⟨g4, -⟩
          · exact absurd g g2
          · omega
    rw [es, s_isPage (by omega), Option.bind_some, bi_f (by omega), if_pos (show v 0 = nI 0 by rfl), if_pos rfl, if_pos e, e, nv1, v_neg]
    exact ⟨s, rfl, h, Fr.rf _ _⟩
  · obtain ⟨p1, p2, p3, p4, p5, p6, p7⟩ := placeA_r hI hK hl.1 e
    rcases searchP_r (o := o) (V := V) (P := P) (kept := kept) (m := len) with g | ⟨g1, g2, g3⟩
    · exact absurd g p7
    · have hpl : placeA o V P kept len = searchP o V P kept len * 16 + openP P (searchP o V P kept len) kept := if_neg p7
      have hop := openP_r hI.1.1 (searchP o V P kept len) kept
      obtain ⟨s1, w1, w2, w3⟩ := s_lay h hI (hc e) p4
      have hos := s_openSlot (kept := kept) h.2.2.1 hI.1.1 g1 h.2.2.2.2.2
      have hD := h.1.1
      rw [s_isPage (by omega), Option.bind_some, bi_t g1, if_neg (show ¬ v 1 = nI 0 by decide), if_pos hD.1, hD.2.1.2.2.1, if_pos h.2.2.1.1.1, h.2.1, hos, Option.bind_some, nv1, v_neg, if_neg (pne (by omega)), if_pos hD.1, nv16, v_mul, v_add, ← hpl, w1, Option.bind_some, if_neg e]
      exact ⟨s1, rfl, w2, w3⟩
theorem s_layKept (h : DkS s d st mc o V kept P Bf B len) (hI : PgI P) (hk : 0 ≤ kept) (hl : 0 ≤ len ∧ len ≤ 40) {kind : Int} (hc : len ≤ freeP P (kept / 16) → canL P kept kind B len ∧ needL P kept len ≤ freeP P (kept / 16)) :
    ∃ s', f_Desk_layKept s d (v kind) = some (v (bi (len ≤ freeP P (kept / 16))), s') ∧ DkS s' d st mc o V kept (if len ≤ freeP P (kept / 16) then layP P kept kind B len else P) Bf B len ∧ Fr (inD d mc) s s' := by
  have hD := h.1.1
  have hkr := h.2.2.2.2.2
  have hf := s_freeOf (p := kept / 16) h.2.2.1 hI.1.1 (by omega)
  have hfr := freeP_r hI.1.1 (kept / 16)
  unfold f_Desk_layKept
  rw [if_pos hD.1, h.2.1, s_isAddress (by omega), Option.bind_some, bi_t (by omega), if_neg (show ¬ v 1 = nI 0 by decide), if_pos (show ¬ nI 16 = nI 0 by decide), hD.2.1.2.2.1, if_pos h.2.2.1.1.1, nv16, v_div (by omega) (by omega), hf, Option.bind_some, hD.2.1.2.2.2.2.1, if_pos h.2.2.2.2.1.1.1, h.2.2.2.2.1.2.1]
  by_cases e : len ≤ freeP P (kept / 16)
  · obtain ⟨c1, c2⟩ := hc e
    obtain ⟨s1, w1, w2, w3⟩ := s_lay h hI c1 c2
    rw [if_neg (nlt (by omega)), w1, Option.bind_some, bi_t e, if_pos e]
    exact ⟨s1, rfl, w2, w3⟩
  · rw [if_pos (plt (by omega)), bi_f e, if_neg e]
    exact ⟨s, rfl, h, Fr.rf _ _⟩
theorem s_asmD (h : DkS s d st mc o V kept P Bf B len) {c m : Nat} {R : Int → Int} {n next from_ to_ : Int} (hR : RwR s c m R n) (hc : ¬ inD d mc c ∧ ¬ inD d mc (c + 1)) (hm : 0 ≤ n ∧ n ≤ m ∧ m ≤ 400) (hf : 0 ≤ from_ ∧ from_ ≤ 400) (ht : r32 to_) (hx : r32 next) (hfit : asmN next (max 0 (min to_ n - from_)) ≤ 40) :
    ∃ s' B', f_Row_assemble s (d + 15) (v next) c (v from_) (v to_) = some s' ∧ DkS s' d st mc o V kept P Bf B' (asmN next (max 0 (min to_ n - from_))) ∧ (∀ z, 0 ≤ z → z < asmN next (max 0 (min to_ n - from_)) → B' z = celB next R from_ z) ∧ Fr (inD d mc) s s' := by
  have hr2 : row2 (d + 15) c := by
    have h1 := hc.1
    have h2 := hc.2
    unfold inD at h1 h2
    unfold row2
    omega
  obtain ⟨s', q1, q2, q3⟩ := s_assemble (next := next) (from_ := from_) (to_ := to_) h.2.2.2.2.1 hR hr2 ⟨by omega, by omega, by omega⟩ ⟨hf.1, hf.2, hm.1, hm.2.1⟩ ht hx hfit
  refine ⟨s', _, q1, h.row q3 q2, fun z z0 z1 => ?_, q3.mo (fun q hq => inD_row hq)⟩
  unfold asmN at z1
  unfold asmB celB
  by_cases e : next = -1
  · rw [if_pos e] at z1
    rw [if_pos e, if_pos e]
    unfold asB
    rw [if_pos (by omega), Int.sub_zero]
  · rw [if_neg e] at z1
    rw [if_neg e, if_neg e]
    unfold asB
    by_cases ez : z < 2
    · rw [if_neg (by omega)]
      unfold bu
      show (if z = 1 then next else if z = 0 then _ else _) = if z = 0 then _ else if z = 1 then next else _
      by_cases e0 : z = 0
      · rw [if_neg (by omega), if_pos e0, if_pos e0]
      · rw [if_pos (by omega), if_neg e0, if_pos (by omega)]
    · rw [if_pos (by omega)]
      show _ = if z = 0 then _ else if z = 1 then next else _
      rw [if_neg (by omega), if_neg (by omega)]
theorem canL_ext {P : PG} {a kind len : Int} {B C : Int → Int} (h : canL P a kind B len) (he : ∀ z, 0 ≤ z → z < len → C z = B z) : canL P a kind C len := by
  obtain ⟨h1, h2, h3, h4, h5, h6⟩ := h
  exact ⟨h1, h2, h3, h4, h5, fun z z0 z1 => by rw [he z z0 z1]; exact h6 z z0 z1⟩
theorem pieL_m1 (o : LWS) (V : Int → Int) (kept : Int) (R : Int → Int) (n : Int) (P : PG) : ∀ k : Nat, pieL o V kept R n k (-1) P = (-1, P) := by
  intro k
  cases k with
  | zero => rfl
  | succ k => unfold pieL; rw [if_pos rfl]
theorem s_pieL {c m : Nat} {R : Int → Int} {n : Int} (hc : ¬ inD d mc c ∧ ¬ inD d mc (c + 1)) (hm : 0 ≤ n ∧ n ≤ m ∧ m ≤ 400) (h2 : n ≤ 200) (hRb : RecB R n) : ∀ (k nn : Nat) (next : Int) (P : PG) (s : AS) (B : Int → Int) (len : Int), DkS s d st mc o V kept P Bf B len → RwR s c m R n → PieI P next kept k → (k : Int) ≤ (n - 1) / 38 → (next ≠ 255 → next ≠ -1 → (k + 1 : Int) ≤ (n - 1) / 38) → k < nn →
    ∃ s' B' len', l_Desk_layPieces_14 nn d c (v next) (v k) s = some (v (pieL o V kept R n k next P).1, s') ∧ DkS s' d st mc o V kept (pieL o V kept R n k next P).2 Bf B' len' ∧ Fr (inD d mc) s s' := by
  intro k
  induction k with
  | zero =>
    intro nn next P s B len h hR hJ hk hl hn
    obtain ⟨nn, rfl⟩ : ∃ m, nn = m + 1 := ⟨nn - 1, by omega⟩
    refine ⟨s, B, len, ?_, h, Fr.rf _ _⟩
    show b_Desk_layPieces_14 _ _ _ _ _ _ = _
    unfold b_Desk_layPieces_14
    rw [nv0, if_neg (nlt (by omega))]
    rfl
  | succ k ih =>
    intro nn next P s B len h hR hJ hk hl hn
    obtain ⟨nn, rfl⟩ : ∃ m, nn = m + 1 := ⟨nn - 1, by omega⟩
    have hkc : ((k + 1 : Nat) : Int) = (k : Int) + 1 := by omega
    rw [hkc] at hk hl ⊢
    have hnx : -1 ≤ next ∧ next ≤ 255 := by
      obtain ⟨-, -, rk, -, hx⟩ := hJ
      omega
    show ∃ s' B' len', b_Desk_layPieces_14 _ _ _ _ _ _ = _ ∧ _
    unfold b_Desk_layPieces_14
    rw [nv0, if_pos (plt (by omega)), nv1, v_neg]
    by_cases e : next = -1
    · rw [if_pos (peq e), e, pieL_m1]
      exact ⟨s, B, len, rfl, h, Fr.rf _ _⟩
    · rw [if_neg (pne (by omega)), if_pos h.1.1.1, h.1.1.2.1.2.2.2.2.1, if_pos h.2.2.2.2.1.1.1, nv38, v_mul, v_add, v_mul]
      have hlen : asmN next (max 0 (min ((k + 1 + 1 : Int) * 38) n - (k + 1 : Int) * 38)) = 2 + (min ((k + 1 + 1 : Int) * 38) n - (k + 1 : Int) * 38) := by
        unfold asmN
        rw [if_neg e]
        omega
      obtain ⟨s1, B1, q1, q2, q3, q4⟩ := s_asmD (next := next) (from_ := (k + 1 : Int) * 38) (to_ := (k + 1 + 1 : Int) * 38) h hR hc hm (by omega) (by omega) (by omega) (by rw [hlen]; omega)
      rw [hlen] at q2 q3
      rw [q1, Option.bind_some, if_pos q2.1.1.1, q2.1.1.2.1.2.2.2.2.1, if_pos q2.2.2.2.2.1.1.1]
      obtain ⟨t, s2, r1, r2, r3, r4⟩ := s_srch q2 hJ.1.1.1 (by omega)
      obtain ⟨-, -, -, -, -, -, L, nn', fo, hS, -⟩ := q2.1
      rw [q2.1.1.2.1.1, if_pos hS.1, r1, Option.bind_some, q2.2.2.2.2.1.2.1, r2, Option.bind_some, if_pos r3.1.1.1]
      have hR1 := hR.fr (q4.tr r4) hc.1 hc.2
      have hcan := fun ha => pie_can (o := o) (V := V) hJ hRb (by omega) h2 e (fun c => by have := hl c e; omega) ha
      obtain ⟨s3, u1, u2, u3⟩ := s_layOn (kind := 5) r3 hJ.1 hJ.2.1 (by omega) (fun ha => canL_ext (hcan ha).1 q3)
      rw [nv5, u1, Option.bind_some, v_add, show (k : Int) + 1 + -1 = k by omega]
      have hR3 := hR1.fr u3 hc.1 hc.2
      unfold pieL
      rw [if_neg e]
      by_cases e2 : placeA o V P kept (2 + (min ((k + 1 + 1 : Int) * 38) n - (k + 1 : Int) * 38)) = -1
      · rw [if_pos e2]
        rw [if_pos e2] at u2
        rw [e2]
        obtain ⟨s', B', len', w1, w2, w3⟩ := ih nn (-1) P s3 _ _ u2 hR3 ⟨hJ.1, hJ.2.1, hJ.2.2.choose, hJ.2.2.choose_spec.1, Or.inl rfl⟩ (by omega) (fun _ c => absurd rfl c) (by omega)
        rw [pieL_m1] at w1 w2
        exact ⟨s', B', len', w1, w2, ((q4.tr r4).tr u3).tr w3⟩
      · rw [if_neg e2]
        rw [if_neg e2, layP_ext (C := celB next R ((k + 1 : Int) * 38)) (fun z z0 z1 => q3 z z0 z1)] at u2
        obtain ⟨s', B', len', w1, w2, w3⟩ := ih nn _ _ s3 _ _ u2 hR3 (hcan e2).2.2 (by omega) (fun _ _ => by omega) (by omega)
        exact ⟨s', B', len', w1, w2, ((q4.tr r4).tr u3).tr w3⟩
theorem s_layPieces {c m : Nat} {R : Int → Int} {n : Int} (h : DkS s d st mc o V kept P Bf B len) (hR : RwR s c m R n) (hc : ¬ inD d mc c ∧ ¬ inD d mc (c + 1)) (hm : 0 ≤ n ∧ n ≤ m ∧ m ≤ 400) (h2 : 40 < n ∧ n ≤ 200) (hRb : RecB R n) (hI : PgI P) (hK : KpI P kept) (hL : ∃ rk, PgLk P rk) :
    ∃ s' B' len', f_Desk_layPieces s d c = some (v (piecesP o V kept R n P).1, s') ∧ DkS s' d st mc o V kept (piecesP o V kept R n P).2 Bf B' len' ∧ Fr (inD d mc) s s' ∧ PieI (piecesP o V kept R n P).2 (piecesP o V kept R n P).1 kept 0 := by
  obtain ⟨rk, hL⟩ := hL
  have hJ : PieI P 255 kept ((n - 1) / 38).toNat := ⟨hI, hK, rk, hL, Or.inr (Or.inl rfl)⟩
  obtain ⟨s', B', len', q1, q2, q3⟩ := s_pieL hc hm h2.2 hRb ((n - 1) / 38).toNat fuel 255 P s B len h hR hJ (by omega) (fun c => absurd rfl c) (by unfold fuel; omega)
  refine ⟨s', B', len', ?_, q2, q3, pie_I h2.2 hRb _ _ _ hJ (by omega) (fun c => absurd rfl c)⟩
  unfold f_Desk_layPieces
  rw [if_pos hR.1.1, if_pos (show ¬ nI 38 = nI 0 by decide), hR.2.1, nv1, nv38, nv255, v_sub, v_div (by omega) (by omega)]
  rw [show (((n - 1) / 38).toNat : Int) = (n - 1) / 38 by omega] at q1
  exact q1
end DR
