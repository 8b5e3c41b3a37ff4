/-! A DESK: putting, writing anew, dropping, packing, mending -/
section DW
variable {s : AS} {d st mc : Nat} {o : LWS} {V : Int → Int} {kept len : Int} {P Bf : PG} {B : Int → Int}
/-- what a desk is ahead of a change and behind it -/
def DkT (s : AS) (d st mc : Nat) (o : LWS) (V : Int → Int) (P Bf : PG) : Prop := ∃ B len, DkS s d st mc o V (-1) P Bf B len
theorem DkT.fr {F : Nat → Prop} {s s' : AS} {d st mc : Nat} {o : LWS} {V : Int → Int} {P Bf : PG} (h : DkT s d st mc o V P Bf) (hf : Fr F s s') (hF : ∀ q, F q → ¬ inD d mc q) (h1 : ¬ F st ∧ ¬ F (st + 1)) (h2 : ∀ t o', LwR s t (inD d mc) o' → LwR s' t (inD d mc) o') : DkT s' d st mc o V P Bf := by
  obtain ⟨B, len, ⟨e1, e2, ⟨W, e3, e4⟩, e5, e6, e7, L, n, fo, e8, e9, e10⟩, k2, k3, k4, k5, k6⟩ := h
  have hn : ∀ q, inD d mc q → ¬ F q := fun q hq c => hF q c hq
  exact ⟨B, len, ⟨e1.st hf.1, e2.st hf.1, ⟨W, e3.fr hf (hn _ (by unfold inD; omega)), e4⟩, e5, e6, e7, L, n, fo, e8.fr hf h1.1 h1.2, e9, h2 _ _ e10⟩, by rw [(hf.2 d (hn _ (by unfold inD; omega))).1]; exact k2, k3.fr hf (fun i i1 i2 => hn _ (by unfold inD; omega)), k4.fr hf (fun i i1 i2 => hn _ (by unfold inD; omega)), k5.fr hf (hn _ (by unfold inD; omega)) (hn _ (by unfold inD; omega)), k6⟩
theorem s_keepB (h : DkS s d st mc o V kept P Bf B len) : ∃ s1, f_Pages_takeFrom s (d + 8) (d + 1) = some s1 ∧ DkS s1 d st mc o V kept P P B len ∧ Fr (inD d mc) s s1 := by
  obtain ⟨s1, q1, q2, q3⟩ := s_takeFrom h.2.2.2.1.1 h.2.2.1 (show d + 8 ≠ d + 1 by omega)
  exact ⟨s1, q1, h.bf q3 q2, q3.mo (fun q hq => inD_bf hq)⟩
theorem s_backB (h : DkS s d st mc o V kept P Bf B len) : ∃ s1, f_Pages_takeFrom s (d + 1) (d + 8) = some s1 ∧ DkS s1 d st mc o V kept Bf Bf B len ∧ Fr (inD d mc) s s1 := by
  obtain ⟨s1, q1, q2, q3⟩ := s_takeFrom h.2.2.1.1 h.2.2.2.1 (show d + 1 ≠ d + 8 by omega)
  exact ⟨s1, q1, h.pg (q3.mo (fun q hq => Or.inl hq)) q2, q3.mo (fun q hq => inD_pg (Or.inl hq))⟩
theorem s_bring112 {a : Int} (h : DkS s d st mc o V kept P Bf B len) (ha : r32 a) : ∃ s1, b_Desk_bring_112 d (v a) s = some (v a, s1) ∧ DkS s1 d st mc o V kept (if a = -1 then Bf else P) Bf B len ∧ Fr (inD d mc) s s1 := by
  unfold b_Desk_bring_112
  rw [nv1, v_neg]
  by_cases e : a = -1
  · obtain ⟨s1, q1, q2, q3⟩ := s_backB h
    rw [if_pos (peq e), if_pos h.1.1.1, h.1.1.2.1.2.2.1, if_pos h.2.2.1.1.1, h.1.1.2.1.2.2.2.1, q1, Option.bind_some, if_pos e]
    exact ⟨s1, rfl, q2, q3⟩
  · rw [if_neg (pne (by omega)), if_neg e]
    exact ⟨s, rfl, h, Fr.rf _ _⟩
theorem s_bring {c m : Nat} {R : Int → Int} {n : Int} (h : DkT s d st mc o V P Bf) (hG : PgG P) (hR : RwR s c m R n) (hc : ¬ inD d mc c ∧ ¬ inD d mc (c + 1)) (hm : 0 ≤ n ∧ n ≤ m ∧ m ≤ 400) (h2 : n ≤ 200) (hRb : RecB R n) :
    ∃ s', f_Desk_bring s d c = some (v (bringP o V R n P).1, s') ∧ DkT s' d st mc o V (bringP o V R n P).2 P ∧ Fr (inD d mc) s s' := by
  obtain ⟨B, len, h⟩ := h
  obtain ⟨hI, rk, hL⟩ := hG
  obtain ⟨s1, q1, q2, q3⟩ := s_keepB h
  have hR1 := hR.fr q3 hc.1 hc.2
  unfold f_Desk_bring
  rw [if_pos h.1.1.1, h.1.1.2.1.2.2.2.1, if_pos h.2.2.2.1.1.1, h.1.1.2.1.2.2.1, q1, Option.bind_some, if_pos hR1.1.1, hR1.2.1, show nI 40 = v 40 from rfl, if_pos q2.1.1.1]
  by_cases c40 : n ≤ 40
  · rw [if_neg (nlt (by omega)), q2.1.1.2.1.2.2.2.2.1, if_pos q2.2.2.2.2.1.1.1, nv0, nv1, v_neg]
    have hlen : asmN (-1) (max 0 (min n n - 0)) = n := by
      unfold asmN
      rw [if_pos rfl]
      omega
    obtain ⟨s2, B2, r1, r2, r3, r4⟩ := s_asmD (next := -1) (from_ := 0) (to_ := n) q2 hR1 hc hm (by omega) (by omega) (by omega) (by rw [hlen]; exact c40)
    rw [hlen] at r2 r3
    rw [r1, Option.bind_some, if_pos r2.1.1.1, r2.1.1.2.1.2.2.2.2.1, if_pos r2.2.2.2.2.1.1.1]
    obtain ⟨t, s3, w1, w2, w3, w4⟩ := s_srch r2 hI.1.1 (by omega)
    obtain ⟨-, -, -, -, -, -, L, nn', fo, hS, -⟩ := r2.1
    rw [r2.1.1.2.1.1, if_pos hS.1, w1, Option.bind_some, r2.2.2.2.2.1.2.1, w2, Option.bind_some, if_pos w3.1.1.1]
    have hcan := fun ha => one_can (o := o) (V := V) (kept := -1) (kind := 1) hI (Or.inl rfl) hL hRb ⟨hm.1, c40⟩ (Or.inl rfl) ha
    obtain ⟨s4, u1, u2, u3⟩ := s_layOn (kind := 1) w3 hI (Or.inl rfl) ⟨hm.1, c40⟩ (fun ha => canL_ext (hcan ha).1 r3)
    rw [u1, Option.bind_some]
    have har : r32 (placeA o V P (-1) n) := by
      by_cases e : placeA o V P (-1) n = -1
      · rw [e]; omega
      · have := (placeA_r hI (Or.inl rfl) hm.1 e).1; omega
    obtain ⟨s5, x1, x2, x3⟩ := s_bring112 u2 har
    refine ⟨s5, ?_, ⟨B2, n, ?_⟩, ((((q3.tr r4).tr w4).tr u3).tr x3)⟩
    · rw [if_pos q2.1.1.1]
      show b_Desk_bring_112 d (v (placeA o V P (-1) n)) s4 = _
      rw [x1]
      unfold bringP
      rw [if_pos c40]
      split
      · rename_i e; rw [e]
      · rfl
    · unfold bringP
      rw [if_pos c40]
      by_cases e : placeA o V P (-1) n = -1
      · rw [if_pos e] at x2 ⊢
        exact x2
      · rw [if_neg e, if_neg e, layP_ext (C := celB (-1) R 0) r3] at x2
        rw [if_neg e]
        exact x2
  · rw [if_pos (plt (by omega))]
    obtain ⟨s2, B2, len2, r1, r2, r4, hJ⟩ := s_layPieces q2 hR1 hc hm ⟨by omega, h2⟩ hRb hI (Or.inl rfl) ⟨rk, hL⟩
    have hR2 := hR1.fr r4 hc.1 hc.2
    unfold bringP
    rw [if_neg c40]
    generalize hpc : piecesP o V (-1) R n P = pc at *
    obtain ⟨next, P2⟩ := pc
    simp only [] at r1 r2 hJ ⊢
    have hnr : -1 ≤ next ∧ next ≤ 255 := by
      obtain ⟨-, -, rk, -, hx⟩ := hJ
      omega
    have hlen : asmN next (max 0 (min 38 n - 0)) ≤ 40 ∧ (next ≠ -1 → asmN next (max 0 (min 38 n - 0)) = 40) := by
      unfold asmN
      refine ⟨?_, fun e => ?_⟩
      · split <;> omega
      · rw [if_neg e]; omega
    obtain ⟨s3, B3, w1, w2, w3, w4⟩ := s_asmD (next := next) (from_ := 0) (to_ := 38) r2 hR2 hc hm (by omega) (by omega) (by omega) hlen.1
    rw [r1, Option.bind_some]
    simp only []
    rw [if_pos r2.1.1.1, r2.1.1.2.1.2.2.2.2.1, if_pos r2.2.2.2.2.1.1.1, nv0, nv38, w1, Option.bind_some, nv1, v_neg]
    by_cases e : next = -1
    · rw [if_pos (peq e), if_pos e]
      obtain ⟨s5, x1, x2, x3⟩ := s_bring112 (a := -1) w2 (by omega)
      rw [if_pos rfl] at x2
      refine ⟨s5, x1, ⟨_, _, x2⟩, (((q3.tr r4).tr w4).tr x3)⟩
    · rw [if_neg (pne (by omega)), if_neg e, if_pos w2.1.1.1, w2.1.1.2.1.2.2.2.2.1, if_pos w2.2.2.2.2.1.1.1]
      rw [hlen.2 e] at w2 w3
      obtain ⟨t, s4, y1, y2, y3, y4⟩ := s_srch w2 hJ.1.1.1 (by omega)
      obtain ⟨-, -, -, -, -, -, L, nn', fo, hS, -⟩ := w2.1
      rw [w2.1.1.2.1.1, if_pos hS.1, y1, Option.bind_some, w2.2.2.2.2.1.2.1, y2, Option.bind_some, if_pos y3.1.1.1]
      have hcan : placeA o V P2 (-1) 40 ≠ -1 → canL P2 (placeA o V P2 (-1) 40) 4 (celB next R 0) 40 := fun ha => by
        obtain ⟨p1, p2, p3, p4, p5, -⟩ := placeA_r hJ.1 (Or.inl rfl) (by decide) ha
        exact (head_can hJ hRb (by omega) e ⟨p1, p2, p3⟩ p4).1
      obtain ⟨s5, u1, u2, u3⟩ := s_layOn (kind := 4) y3 hJ.1 (Or.inl rfl) (by omega) (fun ha => canL_ext (hcan ha) w3)
      rw [nv4, u1, Option.bind_some]
      have har : r32 (placeA o V P2 (-1) 40) := by
        by_cases e : placeA o V P2 (-1) 40 = -1
        · rw [e]; omega
        · have := (placeA_r hJ.1 (Or.inl rfl) (by decide) e).1; omega
      obtain ⟨s6, x1, x2, x3⟩ := s_bring112 u2 har
      refine ⟨s6, ?_, ⟨B3, 40, ?_⟩, (((((q3.tr r4).tr w4).tr y4).tr u3).tr x3)⟩
      · show b_Desk_bring_112 d (v (placeA o V P2 (-1) 40)) s5 = _
        rw [x1]
        split
        · rename_i e; rw [e]
        · rfl
      · by_cases e2 : placeA o V P2 (-1) 40 = -1
        · rw [if_pos e2] at x2 ⊢
          exact x2
        · rw [if_neg e2, if_neg e2, layP_ext (C := celB next R 0) w3] at x2
          rw [if_neg e2]
          exact x2
theorem s_takeL : ∀ (k n : Nat) (i a : Int) (P : PG) (s : AS), i + k = 128 → 0 ≤ i → k < n → -1 ≤ a ∧ a < 128 → DkS s d st mc o V kept P Bf B len → PgI P →
    ∃ s', l_Desk_takeOut_4 n d (v a) (v i) s = some s' ∧ DkS s' d st mc o V kept (takeL kept k a P) Bf B len ∧ Fr (inD d mc) s s' := by
  intro k
  induction k with
  | zero =>
    intro n i a P s hi h0 hn ha h hI
    obtain ⟨n, rfl⟩ : ∃ m, n = m + 1 := ⟨n - 1, by omega⟩
    refine ⟨s, ?_, h, Fr.rf _ _⟩
    show b_Desk_takeOut_4 _ _ _ _ _ = _
    unfold b_Desk_takeOut_4
    rw [nv128, if_neg (nlt (by omega))]
  | succ k ih =>
    intro n i a P s hi h0 hn ha h hI
    obtain ⟨n, rfl⟩ : ∃ m, n = m + 1 := ⟨n - 1, by omega⟩
    show ∃ s', b_Desk_takeOut_4 _ _ _ _ _ = _ ∧ _
    unfold b_Desk_takeOut_4 takeL
    rw [nv128, if_pos (plt (by omega)), nv1, v_neg]
    by_cases e : a = -1
    · rw [if_pos (peq e), if_pos e]
      exact ⟨s, rfl, h, Fr.rf _ _⟩
    · have ha' : 0 ≤ a ∧ a < 128 := by omega
      obtain ⟨s1, q1, q2, q3⟩ := s_clear (kept := kept) h.2.2.1 hI.1.1 ha' h.2.2.2.2.2
      have hnx := s_followerOf h.2.2.1 hI.1.1 ha'
      rw [if_neg (pne (by omega)), if_neg e, if_pos h.1.1.1, h.1.1.2.1.2.2.1, if_pos h.2.2.1.1.1, hnx, Option.bind_some, h.2.1, q1, Option.bind_some, v_add]
      obtain ⟨s', w1, w2, w3⟩ := ih n (i + 1) (nextP P a) _ s1 (by omega) (by omega) (by omega) (nextP_r a) (h.pg (q3.mo (fun q hq => Or.inl hq)) q2) (clearP_I hI ha').1
      exact ⟨s', w1, w2, (q3.mo (fun q hq => inD_pg (Or.inl hq))).tr w3⟩
theorem s_takeOut (h : DkS s d st mc o V kept P Bf B len) (hI : PgI P) {a : Int} (ha : -1 ≤ a ∧ a < 128) : ∃ s', f_Desk_takeOut s d (v a) = some s' ∧ DkS s' d st mc o V kept (takeP P a kept) Bf B len ∧ Fr (inD d mc) s s' :=
  s_takeL 128 fuel 0 a P s (by omega) (by omega) (by unfold fuel; omega) ha h hI
theorem s_takeAway (h : DkT s d st mc o V P Bf) (hI : PgI P) {a : Int} (ha : -1 ≤ a ∧ a < 128) : ∃ s', f_Desk_takeAway s d (v a) = some s' ∧ DkT s' d st mc o V (takeP P a (-1)) P ∧ Fr (inD d mc) s s' := by
  obtain ⟨B, len, h⟩ := h
  obtain ⟨s1, q1, q2, q3⟩ := s_keepB h
  obtain ⟨s2, r1, r2, r3⟩ := s_takeOut q2 hI ha
  refine ⟨s2, ?_, ⟨_, _, r2⟩, q3.tr r3⟩
  unfold f_Desk_takeAway
  rw [if_pos h.1.1.1, h.1.1.2.1.2.2.2.1, if_pos h.2.2.2.1.1.1, h.1.1.2.1.2.2.1, q1, Option.bind_some, if_pos q2.1.1.1, r1, Option.bind_some]
theorem s_packPage (h : DkT s d st mc o V P Bf) (hG : PgG P) {p : Int} (hp : 0 ≤ p ∧ p < 8) : ∃ s', f_Desk_packPage s d (v p) = some s' ∧ DkT s' d st mc o V (packP P p) P ∧ Fr (inD d mc) s s' := by
  obtain ⟨B, len, h⟩ := h
  have hI := hG.1
  obtain ⟨s1, q1, q2, q3⟩ := s_keepB h
  have ht : tailZ P p (P 3 p).toNat 0 ≤ 64 := by
    have := freeP_tail hI.1.2.1 p
    have := hI.2.2.1 p hp
    have := (hI.1.1.2 p).2.2.2.1
    omega
  obtain ⟨s2, r1, r2, r3⟩ := s_squeeze hp q2.1.1 q2.2.2.1 (hI.1.1.2 p).2.2.2.1 (fun z => ⟨(hI.1.1.2 z).1, (hI.1.1.2 z).2.2.1⟩) (fun i i0 i1 hn => by
    have := (hI.1.1.2 p).2.2.2.1
    have := hI.2.1 p i hp (by omega) hn
    omega) ht
  have hS := sq_I hI hp
  obtain ⟨s3, w1, w2, w3⟩ := s_promise r2 hS.1.1 hp (hS.2.2.1 p hp)
  have hf : Fr (fun q => inP (d + 1) q ∨ q = d + 17) s1 s3 := r3.tr (w3.mo (fun q hq => Or.inl hq))
  have hD2 := q2.1.1.st r3.1
  refine ⟨s3, ?_, ⟨_, _, q2.pg hf w2⟩, q3.tr (hf.mo (fun q hq => inD_pg hq))⟩
  unfold f_Desk_packPage
  rw [if_pos h.1.1.1, h.1.1.2.1.2.2.2.1, if_pos h.2.2.2.1.1.1, h.1.1.2.1.2.2.1, q1, Option.bind_some, if_pos q2.1.1.1, r1, Option.bind_some, if_pos hD2.1, hD2.2.1.2.2.1, if_pos r2.1.1, w1]
  rfl
theorem s_mendL : ∀ (k n : Nat) (p c : Int) (P : PG) (s : AS), p + k = 8 → 0 ≤ p → k < n → 0 ≤ c ∧ c ≤ 1000 + p → DkS s d st mc o V kept P Bf B len → PgG P → PgB Bf →
    ∃ s', l_Desk_mendAll_15 n d (v c) (v p) s = some (v (mendL Bf k p c P).1, s') ∧ DkS s' d st mc o V kept (mendL Bf k p c P).2 Bf B len ∧ Fr (inD d mc) s s' := by
  intro k
  induction k with
  | zero =>
    intro n p c P s hp h0 hn hc h hG hBf
    obtain ⟨n, rfl⟩ : ∃ m, n = m + 1 := ⟨n - 1, by omega⟩
    refine ⟨s, ?_, h, Fr.rf _ _⟩
    show b_Desk_mendAll_15 _ _ _ _ _ = _
    unfold b_Desk_mendAll_15
    rw [nv8, if_neg (nlt (by omega))]
    rfl
  | succ k ih =>
    intro n p c P s hp h0 hn hc h hG hBf
    obtain ⟨n, rfl⟩ : ∃ m, n = m + 1 := ⟨n - 1, by omega⟩
    have hI := hG.1
    obtain ⟨s1, q1, q2, q3⟩ := s_promise (p := p) h.2.2.1 hI.1.1 (by omega) (hI.2.2.1 p (by omega))
    have q3' : Fr (fun q => inP (d + 1) q ∨ q = d + 17) s s1 := q3.mo (fun q hq => Or.inl hq)
    have h1 := h.pg q3' q2
    have hGp := prom_G hG (p := p) (by omega)
    have hb1 := (hGp.1.1.1.2 p).2.2.2.2.1
    have hb2 := (hBf.2 p).2.2.2.2.1
    have e1 := h1.2.2.1.2.2.2.2.2.1 p (by omega)
    have e2 := h1.2.2.2.1.2.2.2.2.2.1 p (by omega)
    obtain ⟨i7, -, -, -, -, ⟨a5, b5, c5⟩, -⟩ := h1.2.2.1.1
    obtain ⟨j7, -, -, -, -, ⟨f5, g5, k5⟩, -⟩ := h1.2.2.2.1.1
    show ∃ s', b_Desk_mendAll_15 _ _ _ _ _ = _ ∧ _
    unfold b_Desk_mendAll_15
    rw [nv8, if_pos (plt (by omega)), if_pos h.1.1.1, h.1.1.2.1.2.2.1, if_pos h.2.2.1.1.1, q1, Option.bind_some, if_pos h1.1.1.1, h1.1.1.2.1.2.2.1, if_pos i7, a5, b5, c5, if_pos ⟨rfl, v_inA (by omega) (by omega)⟩, h1.1.1.2.1.2.2.2.1, if_pos j7, f5, g5, k5, if_pos ⟨rfl, v_inA (by omega) (by omega)⟩, v_ix (by omega), e1, e2, nv1, v_add, v_add]
    unfold mendL
    by_cases e : promP P p 4 p = Bf 4 p
    · rw [if_pos (peq e), if_pos e]
      obtain ⟨s', w1, w2, w3⟩ := ih n (p + 1) c _ s1 (by omega) (by omega) (by omega) (by omega) h1 hGp hBf
      exact ⟨s', w1, w2, (q3'.mo (fun q hq => inD_pg hq)).tr w3⟩
    · rw [if_neg (pne (by omega)), if_neg e]
      obtain ⟨s', w1, w2, w3⟩ := ih n (p + 1) (c + 1) _ s1 (by omega) (by omega) (by omega) (by omega) h1 hGp hBf
      exact ⟨s', w1, w2, (q3'.mo (fun q hq => inD_pg hq)).tr w3⟩
theorem s_mendAll (h : DkT s d st mc o V P Bf) (hG : PgG P) : ∃ s', f_Desk_mendAll s d = some (v (mendP P).1, s') ∧ DkT s' d st mc o V (mendP P).2 P ∧ Fr (inD d mc) s s' := by
  obtain ⟨B, len, h⟩ := h
  obtain ⟨s1, q1, q2, q3⟩ := s_keepB h
  obtain ⟨s2, r1, r2, r3⟩ := s_mendL 8 fuel 0 0 P s1 (by omega) (by omega) (by unfold fuel; omega) (by omega) q2 hG hG.1.1.1
  refine ⟨s2, ?_, ⟨_, _, r2⟩, q3.tr r3⟩
  unfold f_Desk_mendAll
  rw [if_pos h.1.1.1, h.1.1.2.1.2.2.2.1, if_pos h.2.2.2.1.1.1, h.1.1.2.1.2.2.1, q1, Option.bind_some]
  exact r1
end DW
