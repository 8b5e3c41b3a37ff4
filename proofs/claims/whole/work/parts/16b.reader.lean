/-! THE CLASS'S READER: a text, whole -/
def clsL (B : Int → Int) (n : Int) (ord : Bool) : Nat → List CLS → STK → Except Int (List CLS × STK)
  | 0, CL, st => .ok (CL, st)
  | k + 1, CL, st => if wd B st 17 = 0 then (match clauseP B n ord CL.length (nxS B n st) with
    | .error e => .error e
    | .ok (x, st1) => clsL B n ord k (CL ++ [x]) st1) else .ok (CL, st)
def endP (n : Int) (r : Except Int (List CLS × STK)) : Except Int (List CLS) := match r with
  | .error e => .error e
  | .ok (CL, st) => if st.1 < n then .error st.1 else .ok CL
def textP (B : Int → Int) (n : Int) (ord : Bool) : Except Int (List CLS) := endP n (match clauseP B n ord 0 (nxS B n (0, 0, 0)) with
  | .error e => .error e
  | .ok (x, st) => clsL B n ord 400 [x] st)
def TxL (cd mk : Int → Int) (len : Int) (CL : List CLS) : Prop := ∀ (c : Nat) (x : CLS), CL[c]? = some x → ClsR cd mk c x ∧ mk (c * 6 + 5) ≤ len
theorem ClsR.cong {cd cd' mk mk' : Int → Int} {c len : Int} {x : CLS} (h : ClsR cd mk c x) (hc : 0 ≤ c) (h5 : mk (c * 6 + 5) ≤ len) (h1 : ∀ z, 0 ≤ z → z < len → cd' z = cd z) (h2 : ∀ z, z < (c + 1) * 6 → mk' z = mk z) : ClsR cd' mk' c x := by
  obtain ⟨⟨a1, a2⟩, ⟨⟨a3, a4⟩, a5, a6⟩, a7, a8, a9⟩ := h
  refine ⟨⟨by rw [h2 _ (by omega)]; exact a1, by rw [h2 _ (by omega)]; exact a2⟩, ?_, ?_, ?_, ?_⟩
  · rw [h2 _ (by omega), h2 _ (by omega), h2 _ (by omega), h2 _ (by omega)]
    exact ⟨⟨a3, a4⟩, a5, a6⟩
  · rw [h2 _ (by omega), h2 _ (by omega)]
    exact a7.agr (agr_ins (fun z w0 w1 => h1 z (by omega) (by omega)))
  · rw [h2 _ (by omega), h2 _ (by omega)]
    exact a8.agr (agr_ins (fun z w0 w1 => h1 z (by omega) (by omega)))
  · rw [h2 _ (by omega), h2 _ (by omega)]
    exact a9.agr (agr_ins (fun z w0 w1 => h1 z (by omega) (by omega)))
theorem TxL.snoc {cd cd' mk mk' : Int → Int} {len len' : Int} {CL : List CLS} {x : CLS} (h : TxL cd mk len CL) (hl : len ≤ len') (h1 : ∀ z, 0 ≤ z → z < len → cd' z = cd z) (h2 : ∀ z, z < (CL.length : Int) * 6 → mk' z = mk z) (hx : ClsR cd' mk' CL.length x) (h5 : mk' ((CL.length : Int) * 6 + 5) = len') : TxL cd' mk' len' (CL ++ [x]) := by
  intro c y hy
  by_cases e : c < CL.length
  · rw [List.getElem?_append_left e] at hy
    obtain ⟨a1, a2⟩ := h c y hy
    exact ⟨a1.cong (by omega) a2 h1 (fun z hz => h2 z (by omega)), by rw [h2 _ (by omega)]; omega⟩
  · have hl2 : c < (CL ++ [x]).length := (List.getElem?_eq_some_iff.mp hy).1
    rw [List.length_append] at hl2
    have hl3 : c < CL.length + 1 := hl2
    have ec : c = CL.length := by omega
    subst ec
    rw [List.getElem?_append_right (Nat.le_refl _), Nat.sub_self] at hy
    have : x = y := by simpa using hy
    subst this
    exact ⟨hx, by rw [h5]; exact Int.le_refl _⟩
abbrev inRk (rd : Nat) : Nat → Prop := fun q => rd ≤ q ∧ q ≤ rd + 4
def SpcX (r : Except Int (List CLS)) (o : Option (Int32 × AS)) (s : AS) (rd tp : Nat) (B : Int → Int) (n : Int) (ord : Bool) : Prop := match r with
  | .error e => ∃ s', o = some (v 0, s') ∧ sI s' rd 7 = v e ∧ Fr (inRk rd) s s'
  | .ok CL => ∃ s' st cd mk len, o = some (v 1, s') ∧ RdS s' rd tp B n ord st cd mk len CL.length ∧ TxL cd mk len CL ∧ Fr (inRk rd) s s'
section RAL
variable {rd tp : Nat} {B : Int → Int} {n : Int} {ord : Bool}
theorem Rd_k {s s' : AS} (h : Fr (inRd rd) s s') : Fr (inRk rd) s s' := h.mo (fun q hq => by unfold inRd at hq; unfold inRk; omega)
theorem s_all140F {s : AS} : b_Reader_readAll_140 rd (v 0) s = some (v 0, s) := by
  unfold b_Reader_readAll_140
  rw [nv0, if_pos rfl]
theorem s_all140T {s s0 : AS} {st : STK} {cd mk : Int → Int} {len : Int} {CL : List CLS} (h : RdS s rd tp B n ord st cd mk len CL.length) (hT : TxL cd mk len CL) (hf : Fr (inRk rd) s0 s) : SpcX (endP n (.ok (CL, st))) (b_Reader_readAll_140 rd (v 1) s) s0 rd tp B n ord := by
  have hst : 0 ≤ st.1 ∧ st.1 ≤ st.2.1 ∧ st.2.1 ≤ n := h.2.2.2.1.1.1
  have hn := h.2.2.2.2.1.1
  have hk := h.1.2.2.2.1 st.1 (by omega)
  unfold b_Reader_readAll_140
  show SpcX (if st.1 < n then .error st.1 else .ok CL) _ s0 rd tp B n ord
  rw [nv0, if_neg (show ¬ v 1 = v 0 by decide), if_pos h.1.1, h.1.2.1.2.1, h.1.2.2.1.1, h.1.2.2.1.2, h.2.1.2.1, if_pos (show 20 = 20 ∧ inA (v st.1) 401 from ⟨rfl, v_inA (by omega) (by omega)⟩), v_ix (by omega), hk, nv1, v_neg]
  by_cases c : st.1 < n
  · have hkd : kdT B n st.1 = kdC (B st.1) := by unfold kdT; rw [if_pos c]
    have hr := kdC_r (B st.1)
    rw [if_neg (pne (by omega)), if_pos c, (s_stopS h).1, Option.bind_some]
    refine ⟨setI s rd 7 (v st.1), ?_, by rw [sI_setI, if_pos ⟨rfl, rfl⟩], hf.tr (Fr.si (by unfold inRk; omega))⟩
    rw [nv0, if_pos rfl]
  · have hkd : kdT B n st.1 = -1 := by unfold kdT; rw [if_neg c]
    rw [if_pos (peq hkd), if_neg c]
    exact ⟨s, st, cd, mk, len, rfl, h, hT, hf⟩
theorem s_all104 {s0 : AS} : ∀ (k N : Nat) (i : Int) (s : AS) (st : STK) (cd mk : Int → Int) (len : Int) (CL : List CLS), i + k = 400 → 0 ≤ i → k < N → RdS s rd tp B n ord st cd mk len CL.length → CL.length ≤ 12 → TxL cd mk len CL → Fr (inRk rd) s0 s →
    SpcX (endP n (clsL B n ord k CL st)) (l_Reader_readAll_104 N rd (v 1) (v i) s) s0 rd tp B n ord := by
  intro k
  induction k with
  | zero =>
    intro N i s st cd mk len CL hi h2 hN h hCl hT hf
    obtain ⟨N, rfl⟩ : ∃ x, N = x + 1 := ⟨N - 1, by omega⟩
    show SpcX _ (b_Reader_readAll_104 _ _ _ _ _) s0 rd tp B n ord
    unfold b_Reader_readAll_104 clsL
    rw [nv400, if_neg (nlt (by omega))]
    exact s_all140T h hT hf
  | succ k ih =>
    intro N i s st cd mk len CL hi h2 hN h hCl hT hf
    obtain ⟨N, rfl⟩ : ∃ x, N = x + 1 := ⟨N - 1, by omega⟩
    have hst : 0 ≤ st.1 ∧ st.1 ≤ st.2.1 ∧ st.2.1 ≤ n := h.2.2.2.1.1.1
    have hT1 := nxS_T (B := B) (n := n) h.2.2.2.1.1
    have ge : st.2.1 ≤ (nxS B n st).1 := hT1.2.1
    have hp := s_placeS h (k := 17) (by decide)
    have hw := wd_r B st 17
    have l17 : ((wrdZ 17).length : Int) = 1 := rfl
    show SpcX _ (b_Reader_readAll_104 _ _ _ _ _) s0 rd tp B n ord
    unfold b_Reader_readAll_104 clsL
    rw [nv400, nv0, if_pos (plt (by omega)), if_neg (show ¬ v 1 = v 0 by decide), if_pos h.1.1, hp, Option.bind_some]
    by_cases c : wd B st 17 = 0
    · obtain ⟨s1, n1, n2, n3⟩ := s_nextS h
      have hlt := wd_lt (B := B) (st := st) (k := 17) (by omega)
      have hsp := s_readClause (cl := CL.length) (by omega) n2
      rw [if_pos (peq c), if_pos c, n1, Option.bind_some, if_pos n2.1.1]
      cases hr : clauseP B n ord CL.length (nxS B n st) with
      | error e =>
        rw [hr] at hsp
        obtain ⟨s2, a1, a2, a3⟩ := hsp
        rw [a1, Option.bind_some]
        show SpcX (.error e) (l_Reader_readAll_104 N rd (v 0) (v i + nI 1) s2) s0 rd tp B n ord
        refine ⟨s2, ?_, a2, (hf.tr (Rd_k n3)).tr (Rd_k a3)⟩
        obtain ⟨N, rfl⟩ : ∃ x, N = x + 1 := ⟨N - 1, by omega⟩
        show b_Reader_readAll_104 _ _ _ _ _ = _
        unfold b_Reader_readAll_104
        rw [nv1, v_add, nv400, nv0, if_pos rfl, s_all140F]
        split <;> rfl
      | ok y =>
        obtain ⟨x, st1⟩ := y
        rw [hr] at hsp
        obtain ⟨s2, cd2, mk2, len2, a1, a2, ⟨a3, a3'⟩, a4, a5, ⟨a6, a6'⟩, a7⟩ := hsp
        have hst1 : 0 ≤ st1.1 ∧ st1.1 ≤ st1.2.1 ∧ st1.2.1 ≤ n := a2.2.2.2.1.1.1
        have hcl12 : CL.length < 12 := by
          by_cases e : CL.length < 12
          · exact e
          · exfalso
            unfold clauseP at hr
            rw [if_pos (Or.inl (by omega))] at hr
            cases hr
        rw [a1, Option.bind_some]
        show SpcX _ (l_Reader_readAll_104 N rd (v 1) (v i + nI 1) s2) s0 rd tp B n ord
        rw [nv1, v_add]
        have hl : ((CL ++ [x]).length : Int) = (CL.length : Int) + 1 := by rw [List.length_append]; show ((CL.length + 1 : Nat) : Int) = _; omega
        exact ih N (i + 1) s2 st1 cd2 mk2 len2 (CL ++ [x]) (by omega) (by omega) (by omega) (by rw [hl]; exact a2) (by rw [List.length_append]; show CL.length + 1 ≤ 12; omega) (hT.snoc a6' a4 a5 a3 a3') ((hf.tr (Rd_k n3)).tr (Rd_k a7))
    · rw [if_neg (pne (by omega)), if_neg c]
      exact s_all140T h hT hf
theorem s_kindOf {s : AS} {c : Int} (hc : 0 ≤ c ∧ c ≤ 255) : f_Reader_kindOf s (v c) = some (v (kdC c)) := by
  unfold f_Reader_kindOf b_Reader_kindOf_22 kdC
  rw [nv0, nv1, show nI 2 = v 2 from rfl, nv3, nv32, nv48, nv57, nv97, nv122]
  by_cases a : c = 32
  · rw [if_pos (peq a), if_pos a]
  · rw [if_neg (pne (by omega)), if_neg a]
    by_cases b : c < 97
    · rw [if_pos (plt (by omega)), if_neg (show ¬ (97 ≤ c ∧ c ≤ 122) by omega)]
      by_cases d : c < 48
      · rw [if_pos (plt (by omega)), if_neg (by omega)]
      · rw [if_neg (nlt (by omega))]
        by_cases e : 57 < c
        · rw [if_pos (plt (by omega)), if_neg (by omega)]
        · rw [if_neg (nlt (by omega)), if_pos (by omega)]
    · rw [if_neg (nlt (by omega))]
      by_cases f : 122 < c
      · rw [if_pos (plt (by omega)), if_neg (show ¬ (97 ≤ c ∧ c ≤ 122) by omega), if_neg (show ¬ (48 ≤ c ∧ c ≤ 57) by omega), if_neg (nlt (by omega)), if_pos (plt (by omega))]
      · rw [if_neg (nlt (by omega)), if_pos (show 97 ≤ c ∧ c ≤ 122 by omega)]
/-- a reader -/
def IsRd (s : AS) (rd : Nat) : Prop := sT s rd = 8 ∧ (sR s rd 0 = rd + 1 ∧ sR s rd 1 = rd + 4) ∧ (sT s (rd + 4) = 20 ∧ sN s (rd + 4) = 401) ∧ IsTx s (rd + 1) 400 72
theorem s_allK {tp : Nat} {s0 : AS} (hn : (0 ≤ n ∧ n ≤ 400) ∧ ∀ z, 0 ≤ z → z < n → 0 ≤ B z ∧ B z ≤ 255) (htp : tp < rd ∨ rd + 6 < tp) (htp1 : tp + 1 < rd ∨ rd + 6 < tp + 1) : ∀ (k N i : Nat) (s : AS), i + k = 401 → k < N → IsRd s rd → RwR s tp 400 B n → (∀ z : Int, 0 ≤ z ∧ z < i → sI s (rd + 4) z.toNat = v (kdT B n z)) → Fr (fun q => q = rd + 4) s0 s →
    ∃ s', l_Reader_readAll_12 N rd tp (v i) s = b_Reader_readAll_12 (fun _ _ _ _ => none) rd tp (v 401) s' ∧ IsRd s' rd ∧ RwR s' tp 400 B n ∧ (∀ z : Int, 0 ≤ z ∧ z < 401 → sI s' (rd + 4) z.toNat = v (kdT B n z)) ∧ Fr (fun q => q = rd + 4) s0 s' := by
  intro k
  induction k with
  | zero =>
    intro N i s hi hN h hw hz hf
    obtain ⟨N, rfl⟩ : ∃ x, N = x + 1 := ⟨N - 1, by omega⟩
    refine ⟨s, ?_, h, hw, fun z hz2 => hz z (by omega), hf⟩
    rw [show i = 401 by omega]
    show b_Reader_readAll_12 _ _ _ _ _ = _
    unfold b_Reader_readAll_12
    rw [nv400, if_pos (plt (by omega)), if_pos (plt (by omega))]
  | succ k ih =>
    intro N i s hi hN h hw hz hf
    obtain ⟨N, rfl⟩ : ∃ x, N = x + 1 := ⟨N - 1, by omega⟩
    obtain ⟨⟨r1, r2, r3, r4⟩, r5, r6⟩ := hw
    have step : ∀ x : Int, x = kdT B n i → ∃ s', l_Reader_readAll_12 N rd tp (v i + nI 1) (setI s (rd + 4) ((i : Int)).toNat (v x)) = b_Reader_readAll_12 (fun _ _ _ _ => none) rd tp (v 401) s' ∧ IsRd s' rd ∧ RwR s' tp 400 B n ∧ (∀ z : Int, 0 ≤ z ∧ z < 401 → sI s' (rd + 4) z.toNat = v (kdT B n z)) ∧ Fr (fun q => q = rd + 4) s0 s' := by
      intro x hx
      have f1 : Fr (fun q => q = rd + 4) s (setI s (rd + 4) ((i : Int)).toNat (v x)) := Fr.si rfl
      rw [nv1, v_add]
      refine ih N (i + 1) _ (by omega) (by omega) h (RwR.fr ⟨⟨r1, r2, r3, r4⟩, r5, r6⟩ f1 (by omega) (by omega)) (fun z hz2 => ?_) (hf.tr f1)
      rw [sI_setI]
      by_cases e : z = i
      · rw [if_pos ⟨rfl, by rw [e]⟩, hx, e]
      · rw [if_neg (fun c => e (by omega))]; exact hz z (by omega)
    show ∃ s', b_Reader_readAll_12 _ _ _ _ _ = _ ∧ _
    rw [show b_Reader_readAll_12 (l_Reader_readAll_12 N) rd tp (v i) s = l_Reader_readAll_12 N rd tp (v i + nI 1) (setI s (rd + 4) ((i : Int)).toNat (v (kdT B n i))) from by
      unfold b_Reader_readAll_12
      rw [nv400, if_neg (nlt (by omega)), if_pos h.1, if_pos r1, r5]
      by_cases c : (i : Int) < n
      · have hb := hn.2 i (by omega) c
        have hkd : kdT B n i = kdC (B i) := by unfold kdT; rw [if_pos c]
        rw [if_pos (plt (by omega)), r2, if_pos (show 20 ≤ sT s (tp + 1) by rw [r3]; decide), r4, nv400, if_pos (plt (by omega)), r3, if_pos ⟨rfl, v_inA (by omega) (by omega)⟩, show sI s (tp + 1) (v (i : Int)).toNatClampNeg = v (B i) from by rw [v_ix (by omega)]; exact r6 i (by omega), s_kindOf hb, Option.bind_some, h.2.1.2, h.2.2.1.1, h.2.2.1.2, if_pos ⟨rfl, v_inA (by omega) (by omega)⟩, v_ix (by omega), hkd]
      · have hkd : kdT B n i = -1 := by unfold kdT; rw [if_neg c]
        rw [if_neg (nlt (by omega)), h.2.1.2, h.2.2.1.1, h.2.2.1.2, if_pos ⟨rfl, v_inA (by omega) (by omega)⟩, v_ix (by omega), nv1, v_neg, hkd]]
    exact step _ rfl
theorem s_readAll {s : AS} (h : IsRd s rd) (hw : RwR s tp 400 B n) (hn : (0 ≤ n ∧ n ≤ 400) ∧ ∀ z, 0 ≤ z → z < n → 0 ≤ B z ∧ B z ≤ 255) (htp : tp < rd ∨ rd + 6 < tp) (htp1 : tp + 1 < rd ∨ rd + 6 < tp + 1) :
    SpcX (textP B n ord) (f_Reader_readAll s rd tp (v (if ord = true then 1 else 0))) (setR s rd 2 tp) rd tp B n ord := by
  have hR : ∀ q k, sR (setR s rd 2 tp) q k = if q = rd ∧ k = 2 then tp else sR s q k := fun q k => sR_setR s rd 2 q k tp
  have h1 : IsRd (setI (setR s rd 2 tp) rd 3 (v (if ord = true then 1 else 0))) rd := by
    obtain ⟨a1, ⟨a2, a3⟩, a4, a5, ⟨a6, a7⟩, a8, a9⟩ := h
    refine ⟨a1, ⟨?_, ?_⟩, a4, a5, ⟨?_, a7⟩, ?_, a9⟩
    · show sR (setR s rd 2 tp) rd 0 = _; rw [hR, if_neg (by omega)]; exact a2
    · show sR (setR s rd 2 tp) rd 1 = _; rw [hR, if_neg (by omega)]; exact a3
    · show sR (setR s rd 2 tp) (rd + 1) 0 = _; rw [hR, if_neg (by omega)]; exact a6
    · show sR (setR s rd 2 tp) (rd + 1) 1 = _; rw [hR, if_neg (by omega)]; exact a8
  have w1 : RwR (setI (setR s rd 2 tp) rd 3 (v (if ord = true then 1 else 0))) tp 400 B n := by
    obtain ⟨⟨r1, r2, r3, r4⟩, r5, r6⟩ := hw
    refine ⟨⟨r1, ?_, r3, r4⟩, ?_, fun z hz => ?_⟩
    · show sR (setR s rd 2 tp) tp 0 = _; rw [hR, if_neg (by omega)]; exact r2
    · rw [sI_setI, if_neg (by omega)]; exact r5
    · rw [sI_setI, if_neg (by omega)]; exact r6 z hz
  have f0 : Fr (inRk rd) (setR s rd 2 tp) (setI (setR s rd 2 tp) rd 3 (v (if ord = true then 1 else 0))) := Fr.si (by unfold inRk; omega)
  obtain ⟨s2, q1, q2, q3, q4, q5⟩ := s_allK (rd := rd) (tp := tp) hn htp htp1 401 fuel 0 _ (by omega) (by unfold fuel; omega) h1 w1 (fun z hz => by omega) (Fr.rf _ _)
  have hbit : v (if ord = true then 1 else 0) = nI 0 ∨ v (if ord = true then 1 else 0) = nI 1 := by
    cases ord with
    | false => exact Or.inl rfl
    | true => exact Or.inr rfl
  have er : f_Reader_readAll s rd tp (v (if ord = true then 1 else 0)) = b_Reader_readAll_12 (fun _ _ _ _ => none) rd tp (v 401) s2 := by
    unfold f_Reader_readAll
    rw [if_pos h.1, if_pos ⟨h.1, hbit⟩, nv0, ← q1]
    rfl
  rw [er]
  have e32 : sI s2 rd 3 = v (if ord = true then 1 else 0) := by rw [(q5.2 rd (by omega)).1, sI_setI, if_pos ⟨rfl, rfl⟩]
  have e2r : sR s2 rd 2 = tp := by rw [q5.1.1]; show sR (setR s rd 2 tp) rd 2 = tp; rw [hR, if_pos ⟨rfl, rfl⟩]
  -- all is set
  obtain ⟨d1, ⟨d2, d3⟩, d4, d5⟩ := q2
  let s3 := setI (setI (setI (setI (setI s2 rd 5 (v 0)) rd 6 (v 0)) rd 7 (v (-1))) (rd + 1) 2 (v 0)) (rd + 1) 3 (v 0)
  have f3 : Fr (inRd rd) s2 s3 := ((((Fr.si (by unfold inRd; omega)).tr (Fr.si (by unfold inRd; omega))).tr (Fr.si (by unfold inRd; omega))).tr (Fr.si (by unfold inRd; omega))).tr (Fr.si (by unfold inRd; omega))
  have k3 : RdK s3 rd tp B n := by
    refine ⟨d1, ⟨d2, d3, e2r⟩, d4, fun z hz => ?_, q3.fr f3 (by unfold inRd; omega) (by unfold inRd; omega), htp, htp1⟩
    rw [(f3.2 (rd + 4) (by unfold inRd; omega)).1]
    exact q4 z hz
  have t3 : TxF s3 (rd + 1) (fun z => (sI s2 (rd + 1 + 1) z.toNat).toInt) (fun z => (sI s2 (rd + 1 + 2) z.toNat).toInt) 0 0 := by
    refine ⟨d5, ⟨?_, ?_⟩, fun z hz => ?_, fun z hz => ?_⟩
    · show sI (setI (setI _ (rd + 1) 2 (v 0)) (rd + 1) 3 (v 0)) (rd + 1) 2 = _
      rw [sI_setI, if_neg (by omega), sI_setI, if_pos ⟨rfl, rfl⟩]
    · show sI (setI _ (rd + 1) 3 (v 0)) (rd + 1) 3 = _
      rw [sI_setI, if_pos ⟨rfl, rfl⟩]
    · show sI (setI (setI (setI (setI (setI s2 rd 5 (v 0)) rd 6 (v 0)) rd 7 (v (-1))) (rd + 1) 2 (v 0)) (rd + 1) 3 (v 0)) (rd + 1 + 1) z.toNat = _
      rw [sI_setI, if_neg (by omega), sI_setI, if_neg (by omega), sI_setI, if_neg (by omega), sI_setI, if_neg (by omega), sI_setI, if_neg (by omega)]
      exact (Int32.ofInt_toInt _).symm
    · show sI (setI (setI (setI (setI (setI s2 rd 5 (v 0)) rd 6 (v 0)) rd 7 (v (-1))) (rd + 1) 2 (v 0)) (rd + 1) 3 (v 0)) (rd + 1 + 2) z.toNat = _
      rw [sI_setI, if_neg (by omega), sI_setI, if_neg (by omega), sI_setI, if_neg (by omega), sI_setI, if_neg (by omega), sI_setI, if_neg (by omega)]
      exact (Int32.ofInt_toInt _).symm
  have e5 : sI s3 rd 5 = v 0 := by
    show sI (setI (setI (setI (setI (setI s2 rd 5 (v 0)) rd 6 (v 0)) rd 7 (v (-1))) (rd + 1) 2 (v 0)) (rd + 1) 3 (v 0)) rd 5 = _
    rw [sI_setI, if_neg (by omega), sI_setI, if_neg (by omega), sI_setI, if_neg (by omega), sI_setI, if_neg (by omega), sI_setI, if_pos ⟨rfl, rfl⟩]
  have e6 : sI s3 rd 6 = v 0 := by
    show sI (setI (setI (setI (setI (setI s2 rd 5 (v 0)) rd 6 (v 0)) rd 7 (v (-1))) (rd + 1) 2 (v 0)) (rd + 1) 3 (v 0)) rd 6 = _
    rw [sI_setI, if_neg (by omega), sI_setI, if_neg (by omega), sI_setI, if_neg (by omega), sI_setI, if_pos ⟨rfl, rfl⟩]
  have e7 : sI s3 rd 7 = v (-1) := by
    show sI (setI (setI (setI (setI (setI s2 rd 5 (v 0)) rd 6 (v 0)) rd 7 (v (-1))) (rd + 1) 2 (v 0)) (rd + 1) 3 (v 0)) rd 7 = _
    rw [sI_setI, if_neg (by omega), sI_setI, if_neg (by omega), sI_setI, if_pos ⟨rfl, rfl⟩]
  have e3 : sI s3 rd 3 = v (if ord = true then 1 else 0) := by
    show sI (setI (setI (setI (setI (setI s2 rd 5 (v 0)) rd 6 (v 0)) rd 7 (v (-1))) (rd + 1) 2 (v 0)) (rd + 1) 3 (v 0)) rd 3 = _
    rw [sI_setI, if_neg (by omega), sI_setI, if_neg (by omega), sI_setI, if_neg (by omega), sI_setI, if_neg (by omega), sI_setI, if_neg (by omega)]
    exact e32
  have hnx := s_next hn.1 k3 (t := 0) (by omega) e5
  have hT0 := nxS_T (B := B) (n := n) (st := (0, 0, 0)) ⟨⟨Int.le_refl _, Int.le_refl _, hn.1.1⟩, Int.le_refl _⟩
  have f4 : Fr (inRd rd) s3 (setI (setI s3 rd 4 (v (tokF B n 0))) rd 5 (v (tokE B n (tokF B n 0)))) := (Fr.si (by unfold inRd; omega)).tr (Fr.si (by unfold inRd; omega))
  have hS : RdS (setI (setI s3 rd 4 (v (tokF B n 0))) rd 5 (v (tokE B n (tokF B n 0)))) rd tp B n ord (nxS B n (0, 0, 0)) (fun z => (sI s2 (rd + 1 + 1) z.toNat).toInt) (fun z => (sI s2 (rd + 1 + 2) z.toNat).toInt) 0 0 := by
    refine ⟨(k3.set 4 _).set 5 _, ⟨?_, ?_, ?_, ?_, ?_⟩, (t3.fr (Fr.si (F := fun q => q = rd) rfl) (by omega) (by omega) (by omega)).fr (Fr.si (F := fun q => q = rd) rfl) (by omega) (by omega) (by omega), hT0.1, hn, ⟨fun z z0 z1 => by omega, Int.le_refl _, rfl, by show (0 : Int) ≤ 50; decide⟩, hT0.1.1.1.1⟩
    · rw [sI_setI, if_neg (by omega), sI_setI, if_neg (by omega)]; exact e3
    · rw [sI_setI, if_neg (by omega), sI_setI, if_pos ⟨rfl, rfl⟩]; rfl
    · rw [sI_setI, if_pos ⟨rfl, rfl⟩]; rfl
    · rw [sI_setI, if_neg (by omega), sI_setI, if_neg (by omega)]; exact e6
    · rw [sI_setI, if_neg (by omega), sI_setI, if_neg (by omega)]; exact e7
  have hsp := s_readClause (cl := 0) (by omega) hS
  have fall : Fr (inRk rd) (setR s rd 2 tp) (setI (setI s3 rd 4 (v (tokF B n 0))) rd 5 (v (tokE B n (tokF B n 0)))) := ((f0.tr (q5.mo (fun q hq => by unfold inRk; omega))).tr (Rd_k f3)).tr (Rd_k f4)
  unfold b_Reader_readAll_12
  rw [nv400, nv0, nv1, v_neg, if_pos (plt (by omega)), if_pos d1, d2, if_pos d5.1]
  show SpcX (textP B n ord) ((f_Reader_next s3 rd).bind _) (setR s rd 2 tp) rd tp B n ord
  rw [hnx, Option.bind_some]
  rw [if_pos hS.1.1]
  unfold textP
  cases hr : clauseP B n ord 0 (nxS B n (0, 0, 0)) with
  | error e =>
    rw [hr] at hsp
    obtain ⟨s5, a1, a2, a3⟩ := hsp
    rw [a1, Option.bind_some]
    refine ⟨s5, ?_, a2, fall.tr (Rd_k a3)⟩
    show l_Reader_readAll_104 fuel rd (v 0) (v 0) s5 = _
    show b_Reader_readAll_104 (l_Reader_readAll_104 999999) rd (v 0) (v 0) s5 = _
    unfold b_Reader_readAll_104
    rw [nv400, nv0, if_pos (plt (by omega)), if_pos rfl, s_all140F]
  | ok y =>
    obtain ⟨x, st1⟩ := y
    rw [hr] at hsp
    obtain ⟨s5, cd5, mk5, len5, a1, a2, ⟨a3, a3'⟩, a4, a5, ⟨a6, a6'⟩, a7⟩ := hsp
    rw [a1, Option.bind_some]
    show SpcX (endP n (clsL B n ord 400 [x] st1)) (l_Reader_readAll_104 fuel rd (v 1) (v 0) s5) (setR s rd 2 tp) rd tp B n ord
    have hTx : TxL cd5 mk5 len5 ([] ++ [x]) := TxL.snoc (cd := cd5) (mk := mk5) (len := 0) (CL := []) (fun c y hy => by simp at hy) a6' (fun z w0 w1 => by omega) (fun z hz => rfl) a3 a3'
    exact s_all104 400 fuel 0 s5 st1 cd5 mk5 len5 [x] (by omega) (by omega) (by unfold fuel; omega) a2 (by show 1 ≤ 12; decide) hTx (fall.tr (Rd_k a7))
end RAL
