/-! THE LAW HOLDS: the two objects made, then the loop -/
theorem bareP_0 (z : Int) : bareP 0 z = 0 := rfl
theorem bareP_2 (z : Int) : bareP 2 z = 0 := rfl
theorem bareP_3 (z : Int) : bareP 3 z = 0 := rfl
theorem bareP_5 (z : Int) : bareP 5 z = 0 := rfl
theorem bareP_lk (a : Int) : linkP bareP a = 0 := by
  unfold linkP
  rw [bareP_0, if_neg (by decide)]
theorem bareP_nx (a : Int) : nextP bareP a = -1 := by
  unfold nextP
  rw [bareP_lk, if_pos rfl]
theorem bareP_fr (p : Int) : freeP bareP p = 64 := by
  unfold freeP
  rw [bareP_3]
  rfl
theorem bareP_I : PgI bareP := by
  refine ⟨⟨⟨fun a _ h => ?_, fun z => ⟨⟨?_, ?_⟩, ⟨?_, ?_⟩, ⟨?_, ?_⟩, ⟨?_, ?_⟩, ⟨?_, ?_⟩, ?_, ?_⟩⟩, fun a _ => rfl, fun p i _ _ => rfl⟩, fun p i _ _ h => absurd rfl h, fun p _ => ?_, fun z => ⟨?_, ?_⟩, fun z => ⟨?_, ?_⟩, fun p i j z _ _ _ _ h => absurd rfl h⟩
  · rw [bareP_2] at h; exact absurd h (by decide)
  · show (0 : Int) ≤ 0; decide
  · show (0 : Int) ≤ 5; decide
  · show (-1000 : Int) ≤ 0; decide
  · show (0 : Int) ≤ 1000; decide
  · show (0 : Int) ≤ 0; decide
  · show (0 : Int) ≤ 40; decide
  · show (0 : Int) ≤ 0; decide
  · show (0 : Int) ≤ 12; decide
  · show (-1000 : Int) ≤ 8; decide
  · show (8 : Int) ≤ 1000; decide
  · show (-1000 : Int) ≤ 0; decide
  · show (0 : Int) ≤ 1000; decide
  · rw [bareP_fr]; decide
  · show (0 : Int) ≤ 8; decide
  · show (8 : Int) ≤ 8; decide
  · show (0 : Int) ≤ 0; decide
  · show (0 : Int) ≤ 255; decide
theorem bareP_H : PgH bareP := by
  refine ⟨⟨bareP_I, fun _ => 0, fun a _ => ⟨⟨fun h => ?_, fun h => ?_, fun h => ?_⟩, fun h => absurd (bareP_lk a) h, fun h => absurd (bareP_nx a) h, fun h => ?_, Int.le_refl 0, show (0 : Int) ≤ 6 by decide⟩⟩, fun _ => 0, fun a _ h => ?_⟩
  · rw [bareP_0] at h; exact absurd h (by decide)
  · rw [bareP_0] at h; exact absurd h (by decide)
  · rw [bareP_0] at h; exact absurd h (by decide)
  · rw [bareP_0] at h; exact absurd h (by decide)
  · rw [bareP_0] at h; exact h.elim (fun h => absurd h (by decide)) (fun h => absurd h (by decide))
theorem Rep0.rep {s s' : AS} (h : Rep0 s) (e : ∀ q, q < 78 → EqA s s' q) (hx : sX s' = 106) (hz : sZ s' ≤ 100000) : RepD s' ((fun _ => False, fun _ => False), (fun _ => False, fun _ => False), 0, 0) (fun _ => 0, 0) bareSe bareP [] (fun _ => none) (fun z => if z = 0 ∨ z = 1 then -1 else 0) (fun _ => 0, 0) none 0 := by
  obtain ⟨hob, hit, htp, hvw, hmd, hrd, hmc, hst, hlv, hpp, hlg, hfr, hrn, hcl, him, hpa, hrf⟩ := h
  refine ⟨hob.eq (e 1 (by omega)), ⟨by rw [(e 1 (by omega)).2.2.2.1]; exact hit.1, by rw [(e 1 (by omega)).2.2.2.1]; exact hit.2⟩, htp.eq (e 2 (by omega)) (e 3 (by omega)), hvw.eq (e 4 (by omega)) (e 5 (by omega)), (by obtain ⟨B, n, h⟩ := hmd; exact ⟨B, n, h.eq (e 6 (by omega)) (e 7 (by omega))⟩), ⟨hrd.1.eq (fun i hi => e (8 + i) (by omega)), by rw [(e 8 (by omega)).2.2.2.1]; exact hrd.2⟩, ⟨hmc.1.eq (fun i hi => e (15 + i) (by omega)), (by obtain ⟨W, w1, w2⟩ := hmc.2; exact ⟨W, w1.eq (e 16 (by omega)), w2⟩)⟩, hst.eq (fun i hi => e (18 + i) (by omega)) (fun q hq => hq.elim), hlv.eq (fun i hi => e (21 + i) (by omega)), (by obtain ⟨Q, h⟩ := hpp; exact ⟨Q, h.eq (fun i hi => e (39 + i) (by omega))⟩), hlg.eq (fun i hi => e (57 + i) (by omega)) (fun q hq => hq.elim), (by obtain ⟨L2, h, h2⟩ := hfr; exact ⟨L2, h.eq (fun i hi => e (61 + i) (by omega)) (fun q hq => hq.elim), h2⟩), hrn.eq (e 60 (by omega)) (fun i hi => e (64 + i) (by omega)), hcl.eq (fun i hi => e (71 + i) (by omega)), him.eq (e 75 (by omega)) (fun q hq => hq.elim) (fun q hq => hq.elim), ⟨by rw [(e 76 (by omega)).1]; exact hpa.1, by rw [(e 76 (by omega)).2.1]; exact hpa.2⟩, ⟨by rw [(e 77 (by omega)).1]; exact hrf.1, by rw [(e 77 (by omega)).2.1]; exact hrf.2.1, fun z hz => ?_⟩, ?_⟩
  · rw [(e 77 (by omega)).2.2.2.1, hrf.2.2 z hz]
    show v 0 = v (if 3 + z = 0 ∨ 3 + z = 1 then -1 else 0)
    rw [if_neg (by omega)]
  · refine ⟨fun q hq => ?_, fun q hq => hq.elim, fun q hq => hq.elim, fun q hq => hq.elim, ⟨Nat.zero_le _, Nat.zero_le _⟩, by omega, ?_, ?_, by omega⟩
    · exact hq.elim (fun h => h.elim) (fun h => h.elim (fun h => h.elim) (fun h => h.elim (fun h => h.elim) (fun h => h.elim)))
    · show sX s' + 7 * (32 - 0 - 0) + 11 + 11 ≤ 500 + 3 * 0
      omega
    · show sZ s' + 918 * (32 - 0 - 0) + 1000 + 1000 ≤ 200000 + 480 * 0
      omega
theorem bare_W : WfG (fun _ => 0, 0) bareSe bareP [] (fun _ => none) (fun _ => 0, 0) := by
  refine ⟨⟨?_, fun z => ?_⟩, bareSe_W, bareP_H, ⟨Nat.zero_le _, fun x hx => by cases hx⟩, fun k x h => (by cases h), ?_⟩
  · show (0 : Int) ≤ 0 ∧ (0 : Int) ≤ 400; decide
  · show (0 : Int) ≤ 0 ∧ (0 : Int) ≤ 255; decide
  · show (0 : Int) ≤ 0 ∧ (0 : Int) ≤ 200; decide
theorem startA_t {L : Nat} {xs : Nat → Int32} : TmC (startA L xs) := by
  refine ⟨rfl, rfl, fun z hz => ?_⟩
  show tmZ.getD z.toNat 0 = _
  have : z = 0 ∨ z = 1 ∨ z = 2 := by omega
  rcases this with d | d | d
  · rw [d]; rfl
  · rw [d]; rfl
  · rw [d]; rfl
theorem startA_s {L : Nat} {xs : Nat → Int32} : Scr L xs (startA L xs) := ⟨rfl, rfl, rfl⟩
theorem lawOK : LawOK := by
  intro L xs hL
  obtain ⟨F, q1, q2, q3, q4, q5⟩ := c_init (s := startA L xs) ⟨rfl, rfl⟩
  obtain ⟨G, A, p1, p2, p3, p4, p5, p6⟩ := m_init (s := F) q3
  have E : ∀ q, 900000 ≤ q → EqA (startA L xs) G q := fun q h => (q5 q h).tr (p6 q (Or.inr h))
  have hB : Bth L xs G 0 := ⟨⟨_, _, _, _, _, _, _, _, _, A, q2.rep (fun q hq => p6 q (Or.inl hq)) p4 (by omega), p2, p3, bare_W⟩, startA_t.eq (E _ (by omega)), startA_s.eq (E _ (by omega))⟩
  obtain ⟨o, r1, r2⟩ := law_loop hL 512 fuel 0 G (by unfold fuel; omega) (by omega) (by omega) hB
  refine ⟨o, ?_, r2⟩
  have w1 : nwO (startA L xs) 1 16 = some (1, newA (startA L xs) 1 16) := nwO_s (s := startA L xs) (show 1 < 900000 by decide)
  have w2 : nwO F 13 57 = some (78, newA F 13 57) := by rw [← q3]; exact nwO_s (by omega)
  unfold f_Law_law
  rw [w1, Option.bind_some]
  show (if ¬ 1 = 0 then (f_C_init (newA (startA L xs) 1 16) 1).bind _ else none) = _
  rw [if_pos (by decide), q1, Option.bind_some, w2, Option.bind_some]
  show (if ¬ 78 = 0 then (f_M_init (newA F 13 57) 78).bind _ else none) = _
  rw [if_pos (by decide), p1, Option.bind_some]
  exact r1
