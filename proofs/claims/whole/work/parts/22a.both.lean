/-! BOTH: the class and the reference hold the same; a call keeps it (gen22.py) -/
def WfG (tp : (Int → Int) × Int) (se : ST1) (P : PG) (LG : LGS) (IM : Nat → IMG) (vw : (Int → Int) × Int) : Prop := TpB tp ∧ WfT se ∧ PgH P ∧ (LG.length ≤ 16 ∧ ∀ x ∈ LG, PgH x.2 ∧ 0 ≤ x.1 ∧ x.1 ≤ 4) ∧ (∀ k x, IM k = some x → WfT x.1 ∧ PgH x.2) ∧ (0 ≤ vw.2 ∧ vw.2 ≤ 200)
def Scr (L : Nat) (xs : Nat → Int32) (s : AS) : Prop := sT s 1000001 = 30 ∧ sN s 1000001 = L ∧ sI s 1000001 = xs
theorem Scr.eq {L : Nat} {xs : Nat → Int32} {s s' : AS} (h : Scr L xs s) (e : EqA s s' 1000001) : Scr L xs s' := by
  unfold Scr
  rw [e.1, e.2.1, e.2.2.2.1]
  exact h
def Bth (L : Nat) (xs : Nat → Int32) (s : AS) (cn : Nat) : Prop := (∃ D tp se P LG IM ms vw dr A, RepD s D tp se P LG IM ms vw dr cn ∧ MR s 78 A ∧ RepA A tp se P LG IM ms vw dr ∧ WfG tp se P LG IM vw) ∧ TmC s ∧ Scr L xs s
def StO (L : Nat) (xs : Nat → Int32) (rC : Option (Int32 × AS)) (rM : AS → Option (Int32 × AS)) (cn : Nat) : Prop := ∃ a s1 s2, rC = some (a, s1) ∧ rM s1 = some (a, s2) ∧ (Scr L xs s1 ∧ sT s1 78 = 13) ∧ Bth L xs s2 cn
def StP (L : Nat) (xs : Nat → Int32) (rC : Option Int32) (rM : Option (Int32 × AS)) (cn : Nat) : Prop := ∃ a s2, rC = some a ∧ rM = some (a, s2) ∧ Bth L xs s2 cn
def StW (L : Nat) (xs : Nat → Int32) (rC : Option (Int64 × AS)) (rM : AS → Option (Int64 × AS)) (cn : Nat) : Prop := ∃ a s1 s2, rC = some (a, s1) ∧ rM s1 = some (a, s2) ∧ (Scr L xs s1 ∧ sT s1 78 = 13) ∧ Bth L xs s2 cn
section GOO
variable {L : Nat} {xs : Nat → Int32} {s s1 s2 : AS} {D : DYN} {tp tp' : (Int → Int) × Int} {se se' : ST1} {P P' : PG} {LG LG' : LGS} {IM IM' : Nat → IMG} {ms ms' : Int → Int} {vw vw' : (Int → Int) × Int} {dr dr' : DRW} {A : MA} {cn cn' : Nat} {a : Int}
theorem go_M (h1 : RepD s1 D tp' se' P' LG' IM' ms' vw' dr' cn') (f2 : Fr (inM 78) s1 s2) (m2 : MR s2 78 A) (r2 : RepA A tp' se' P' LG' IM' ms' vw' dr') (hw : WfG tp' se' P' LG' IM' vw') (t1 : TmC s1) (sc1 : Scr L xs s1) (hc : cn' ≤ cn ∧ cn ≤ 600) : Bth L xs s2 cn :=
  ⟨⟨D, tp', se', P', LG', IM', ms', vw', dr', A, (h1.u_m (fun q hq => f2.eqA hq) f2.1.2.2.2.1 f2.1.2.2.2.2).mo hc, m2, r2, hw⟩, t1.eq (f2.eqA (by omega)), sc1.eq (f2.eqA (by omega))⟩
theorem go_C (m : MR s 78 A) (g1 : GrM s s1) (t : TmC s) (sc : Scr L xs s) : MR s1 78 A ∧ TmC s1 ∧ Scr L xs s1 :=
  ⟨m.eq (fun i hi => g1 _ (Or.inl (by omega))), t.eq (g1 _ (Or.inr (by omega))), sc.eq (g1 _ (Or.inr (by omega)))⟩
theorem go_O (m : MR s 78 A) (t : TmC s) (sc : Scr L xs s) {rC : Option (Int32 × AS)} {rM : AS → Option (Int32 × AS)} (hc : CO s rC a tp' se' P' LG' IM' ms' vw' dr' cn') (hr : ∀ s1, MR s1 78 A → RO s1 (rM s1) a tp' se' P' LG' IM' ms' vw' dr') (hw : WfG tp' se' P' LG' IM' vw') (hn : cn' ≤ cn ∧ cn ≤ 600) : StO L xs rC rM cn := by
  obtain ⟨s1, D1, e1, h1, g1⟩ := hc
  obtain ⟨m1, t1, sc1⟩ := go_C m g1 t sc
  obtain ⟨s2, A2, e2, m2, r2, f2⟩ := hr s1 m1
  exact ⟨v a, s1, s2, e1, e2, ⟨sc1, m1.t⟩, go_M h1 f2 m2 r2 hw t1 sc1 hn⟩
theorem go_P (h : RepD s D tp se P LG IM ms vw dr cn') (t : TmC s) (sc : Scr L xs s) {rC : Option Int32} {rM : Option (Int32 × AS)} (hc : rC = some (v a)) (hr : RO s rM a tp se P LG IM ms vw dr) (hw : WfG tp se P LG IM vw) (hn : cn' ≤ cn ∧ cn ≤ 600) : StP L xs rC rM cn := by
  obtain ⟨s2, A2, e2, m2, r2, f2⟩ := hr
  exact ⟨v a, s2, hc, e2, go_M h f2 m2 r2 hw t sc hn⟩
theorem go_W (m : MR s 78 A) (t : TmC s) (sc : Scr L xs s) {rC : Option (Int64 × AS)} {rM : AS → Option (Int64 × AS)} (hc : CW s rC a tp' se' P' LG' IM' ms' vw' dr' cn') (hr : ∀ s1, MR s1 78 A → RW s1 (rM s1) a tp' se' P' LG' IM' ms' vw' dr') (hw : WfG tp' se' P' LG' IM' vw') (hn : cn' ≤ cn ∧ cn ≤ 600) : StW L xs rC rM cn := by
  obtain ⟨s1, D1, e1, h1, g1⟩ := hc
  obtain ⟨m1, t1, sc1⟩ := go_C m g1 t sc
  obtain ⟨s2, A2, e2, m2, r2, f2⟩ := hr s1 m1
  exact ⟨w a, s1, s2, e1, e2, ⟨sc1, m1.t⟩, go_M h1 f2 m2 r2 hw t1 sc1 hn⟩
theorem TpB.nil (h : TpB tp) : TpB (tp.1, 0) := ⟨by show (0 : Int) ≤ 0 ∧ (0 : Int) ≤ 400; decide, h.2⟩
theorem end_B (h : TpB tp) {x : Int} : TpB (endZ tp x).2 := by
  have h1 := h.1
  unfold endZ
  split
  · exact h
  · split
    · exact h
    · exact ⟨by show 0 ≤ x ∧ x ≤ 400; omega, h.2⟩
theorem fed_B (h : TpB tp) {a b c d e : Int32} : TpB (fedZ tp a b c d e).2 := by
  unfold fedZ
  split
  · exact h
  · exact fd20_B h (by omega)
theorem push_W {k : Int} (hL : LG.length ≤ 16 ∧ ∀ x ∈ LG, PgH x.2 ∧ 0 ≤ x.1 ∧ x.1 ≤ 4) (hP : PgH P) (hk : 0 ≤ k ∧ k ≤ 4) : (pushL LG (k, P)).length ≤ 16 ∧ ∀ x ∈ pushL LG (k, P), PgH x.2 ∧ 0 ≤ x.1 ∧ x.1 ≤ 4 := by
  refine ⟨pushL_len hL.1 _, fun x hx => ?_⟩
  unfold pushL at hx
  rcases List.mem_append.mp hx with d | d
  · refine hL.2 x ?_
    split at d
    · exact List.mem_of_mem_tail d
    · exact d
  · have e : x = (k, P) := by simpa using d
    rw [e]
    exact ⟨hP, hk⟩
theorem put_W (hT : TpB tp) (hP : PgH P) (hL : LG.length ≤ 16 ∧ ∀ x ∈ LG, PgH x.2 ∧ 0 ≤ x.1 ∧ x.1 ≤ 4) : PgH (putP se tp P) ∧ ((putL se tp P LG).length ≤ 16 ∧ ∀ x ∈ putL se tp P LG, PgH x.2 ∧ 0 ≤ x.1 ∧ x.1 ≤ 4) := by
  have hn := hT.1
  unfold putP putL
  by_cases c : 200 < tp.2
  · rw [if_pos c, if_pos c]; exact ⟨hP, hL⟩
  rw [if_neg c, if_neg c]
  refine ⟨bring_H hP hT.rec (by omega), ?_⟩
  by_cases e : (putR se tp P).1 = -1
  · rw [if_pos e]; exact hL
  · rw [if_neg e]; exact push_W hL hP (by decide)
theorem rew_W (hT : TpB tp) (hP : PgH P) (hL : LG.length ≤ 16 ∧ ∀ x ∈ LG, PgH x.2 ∧ 0 ≤ x.1 ∧ x.1 ≤ 4) : PgH (rewP se tp P a) ∧ ((rewL se tp P a LG).length ≤ 16 ∧ ∀ x ∈ rewL se tp P a LG, PgH x.2 ∧ 0 ≤ x.1 ∧ x.1 ≤ 4) := by
  have hn := hT.1
  unfold rewP rewL
  by_cases r : recP P a
  · rw [if_pos r, if_pos r]
    by_cases c : 200 < tp.2
    · rw [if_pos c, if_pos c]; exact ⟨hP, hL⟩
    rw [if_neg c, if_neg c]
    refine ⟨anew_H hP hT.rec (by omega) r, ?_⟩
    by_cases e : (rewR se tp P a).1 = -1
    · rw [if_pos e]; exact hL
    · rw [if_neg e]; exact push_W hL hP (by decide)
  · rw [if_neg r, if_neg r]; exact ⟨hP, hL⟩
theorem drop_W (hP : PgH P) (hL : LG.length ≤ 16 ∧ ∀ x ∈ LG, PgH x.2 ∧ 0 ≤ x.1 ∧ x.1 ≤ 4) : PgH (if recP P a then takeP P a (-1) else P) ∧ ((if recP P a then pushL LG (2, P) else LG).length ≤ 16 ∧ ∀ x ∈ (if recP P a then pushL LG (2, P) else LG), PgH x.2 ∧ 0 ≤ x.1 ∧ x.1 ≤ 4) := by
  by_cases r : recP P a
  · rw [if_pos r, if_pos r]; exact ⟨(takeP_H hP r).1, push_W hL hP (by decide)⟩
  · rw [if_neg r, if_neg r]; exact ⟨hP, hL⟩
theorem pack_W (hP : PgH P) (hL : LG.length ≤ 16 ∧ ∀ x ∈ LG, PgH x.2 ∧ 0 ≤ x.1 ∧ x.1 ≤ 4) : PgH (if 0 ≤ a ∧ a < 8 then packP P a else P) ∧ ((if 0 ≤ a ∧ a < 8 then pushL LG (3, P) else LG).length ≤ 16 ∧ ∀ x ∈ (if 0 ≤ a ∧ a < 8 then pushL LG (3, P) else LG), PgH x.2 ∧ 0 ≤ x.1 ∧ x.1 ≤ 4) := by
  by_cases r : 0 ≤ a ∧ a < 8
  · rw [if_pos r, if_pos r]; exact ⟨pack_H hP r, push_W hL hP (by decide)⟩
  · rw [if_neg r, if_neg r]; exact ⟨hP, hL⟩
theorem und_W (hP : PgH P) (hL : LG.length ≤ 16 ∧ ∀ x ∈ LG, PgH x.2 ∧ 0 ≤ x.1 ∧ x.1 ≤ 4) : PgH (undP P LG) ∧ (LG.dropLast.length ≤ 16 ∧ ∀ x ∈ LG.dropLast, PgH x.2 ∧ 0 ≤ x.1 ∧ x.1 ≤ 4) := by
  refine ⟨?_, by rw [List.length_dropLast]; omega, fun x hx => hL.2 x (List.dropLast_subset LG hx)⟩
  unfold undP
  cases h : LG.getLast? with
  | none => exact hP
  | some x => exact (hL.2 x (List.mem_of_getLast? h)).1
theorem img_W (hI : ∀ k x, IM k = some x → WfT x.1 ∧ PgH x.2) (hw : WfT se) (hP : PgH P) : ∀ k x, (if 0 ≤ a ∧ a ≤ 1 then imS IM a.toNat (se, P) else IM) k = some x → WfT x.1 ∧ PgH x.2 := by
  intro k x h
  by_cases c : 0 ≤ a ∧ a ≤ 1
  · rw [if_pos c] at h
    by_cases e : k = a.toNat
    · rw [e, imS_eq] at h
      cases h
      exact ⟨hw, hP⟩
    · rw [imS_ne e] at h
      exact hI k x h
  · rw [if_neg c] at h
    exact hI k x h
theorem bck_W (hI : ∀ k x, IM k = some x → WfT x.1 ∧ PgH x.2) (hw : WfT se) (hP : PgH P) (hL : LG.length ≤ 16 ∧ ∀ x ∈ LG, PgH x.2 ∧ 0 ≤ x.1 ∧ x.1 ≤ 4) : (WfT (bckG IM a se P).1 ∧ PgH (bckG IM a se P).2) ∧ ((bckL IM a LG).length ≤ 16 ∧ ∀ x ∈ bckL IM a LG, PgH x.2 ∧ 0 ≤ x.1 ∧ x.1 ≤ 4) := by
  unfold bckG bckL
  by_cases c : 0 ≤ a ∧ a ≤ 1
  · rw [if_pos c, if_pos c]
    cases h : IM a.toNat with
    | none =>
      rw [if_pos rfl]
      exact ⟨⟨hw, hP⟩, hL⟩
    | some x =>
      rw [if_neg (by simp)]
      exact ⟨hI _ x h, by show 0 ≤ 16; decide, fun y hy => by cases hy⟩
  · rw [if_neg c, if_neg c]
    exact ⟨⟨hw, hP⟩, hL⟩
theorem law_W (hw : WfT se) : WfT (lawSe (textP tp.1 tp.2 false) se) := lawSe_W hw (fun CL h => q_text h)
theorem ord_W (hw : WfT se) (hP : PgH P) (hL : LG.length ≤ 16 ∧ ∀ x ∈ LG, PgH x.2 ∧ 0 ≤ x.1 ∧ x.1 ≤ 4) : PgH (ordP (ordR (textP tp.1 tp.2 true) se P) P) ∧ ((ordL (ordR (textP tp.1 tp.2 true) se P) LG).length ≤ 16 ∧ ∀ x ∈ ordL (ordR (textP tp.1 tp.2 true) se P) LG, PgH x.2 ∧ 0 ≤ x.1 ∧ x.1 ≤ 4) := by
  cases hr : textP tp.1 tp.2 true with
  | error e => exact ⟨hP, hL⟩
  | ok CL =>
    have hq := q_text hr
    unfold ordR
    show PgH (ordP (.ok (clsO se CL 0 (P, [], 0, -1))) P) ∧ ((ordL (.ok (clsO se CL 0 (P, [], 0, -1))) LG).length ≤ 16 ∧ ∀ x ∈ ordL (.ok (clsO se CL 0 (P, [], 0, -1))) LG, PgH x.2 ∧ 0 ≤ x.1 ∧ x.1 ≤ 4)
    cases hc : clsO se CL 0 (P, [], 0, -1) with
    | error i => exact ⟨hP, hL⟩
    | ok S' =>
      have hS : WfO 0 ((P, [], 0, -1) : OST) := ⟨hP, fun y hy => (by cases hy), ⟨by show (0 : Int) ≤ 0; decide, by show (0 : Int) ≤ 0; decide⟩, by show (-1 : Int) ≤ -1 ∧ (-1 : Int) < 128; decide⟩
      have hS' := clsO_W CL 0 0 _ S' hq.1 hS hc
      refine ⟨hS'.1, las_len _, fun x hx => ?_⟩
      have hx2 : x ∈ LG ++ S'.2.1 := List.drop_subset _ _ hx
      rcases List.mem_append.mp hx2 with d | d
      · exact hL.2 x d
      · exact hS'.2.1 x d
end GOO
