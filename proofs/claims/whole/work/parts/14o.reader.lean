/-! THE CLASS'S READER: a clause -/
abbrev CLS : Type := Int × Int × SEM × SEM × SEM
abbrev hdK (ord : Bool) : Nat := if ord = true then 0 else 1
def ifP (B : Int → Int) (n : Int) (ord : Bool) (st : STK) : RSL :=
  if wd B st 11 = 0 then testD B n ord 8 (nxS B n st) else .ok (semE, st)
def clsT (B : Int → Int) (n : Int) (ord : Bool) (kind : Int) (f g : SEM) (st : STK) : Except Int (CLS × STK) := match timesP B n ord st with
  | .error e => .error e
  | .ok (x, st2) => match ifP B n ord st2 with
    | .error e => .error e
    | .ok (h, st3) => .ok ((kind, x, f, g, h), st3)
def clsS (B : Int → Int) (n : Int) (ord : Bool) (kind : Int) (st : STK) : Except Int (CLS × STK) := match sumsP B n ord kind st with
  | .error e => .error e
  | .ok ((f, g), st1) => clsT B n ord kind f g st1
def clauseP (B : Int → Int) (n : Int) (ord : Bool) (cl : Int) (st : STK) : Except Int (CLS × STK) :=
  if 12 ≤ cl ∨ wd B st (hdK ord) = -1 then .error st.1 else clsS B n ord (wd B st (hdK ord)) (nxS B n st)
/-- a clause's marks -/
def ClsR (cd mk : Int → Int) (cl : Int) (x : CLS) : Prop := (mk (cl * 6) = x.1 ∧ mk (cl * 6 + 1) = x.2.1) ∧ ((0 ≤ mk (cl * 6 + 2) ∧ mk (cl * 6 + 2) ≤ mk (cl * 6 + 3)) ∧ mk (cl * 6 + 3) ≤ mk (cl * 6 + 4) ∧ mk (cl * 6 + 4) ≤ mk (cl * 6 + 5)) ∧
  SegE (insC cd) (mk (cl * 6 + 2)) (mk (cl * 6 + 3)) x.2.2.1 ∧ SegE (insC cd) (mk (cl * 6 + 3)) (mk (cl * 6 + 4)) x.2.2.2.1 ∧ SegE (insC cd) (mk (cl * 6 + 4)) (mk (cl * 6 + 5)) x.2.2.2.2
def SpecC (r : Except Int (CLS × STK)) (o : Option (Int32 × AS)) (s : AS) (rd tp : Nat) (B : Int → Int) (n : Int) (ord : Bool) (st : STK) (cd mk : Int → Int) (len cl : Int) : Prop := match r with
  | .error e => ∃ s', o = some (v 0, s') ∧ sI s' rd 7 = v e ∧ Fr (inRd rd) s s'
  | .ok (x, st') => ∃ s' cd' mk' len', o = some (v 1, s') ∧ RdS s' rd tp B n ord st' cd' mk' len' (cl + 1) ∧ (ClsR cd' mk' cl x ∧ mk' (cl * 6 + 5) = len') ∧ (∀ z, 0 ≤ z → z < len → cd' z = cd z) ∧ (∀ z, z < cl * 6 → mk' z = mk z) ∧ (st.1 ≤ st'.1 ∧ len ≤ len') ∧ Fr (inRd rd) s s'
theorem SegE.agr {I I' : Int → Int × Int} {i j : Int} {f : SEM} (h : SegE I i j f) (k : Agr I I' i j) : SegE I' i j f := by
  rcases h with e | e
  · exact Or.inl e
  · exact Or.inr (e.agr k)
theorem SegE.le {I : Int → Int × Int} {i j : Int} {f : SEM} (h : SegE I i j f) : i ≤ j := by
  rcases h with e | e
  · exact Int.le_of_eq e.1
  · exact Int.le_of_lt e.1
theorem agr_ins {cd cd' : Int → Int} {i j : Int} (h : ∀ z, i ≤ z → z < j → cd' z = cd z) : Agr (insC cd) (insC cd') i j := by
  intro z z0 z1
  show (cd' z % 16, cd' z / 16) = (cd z % 16, cd z / 16)
  rw [h z z0 z1]
section RCL
variable {rd tp : Nat} {B : Int → Int} {n : Int} {ord : Bool} {mk : Int → Int} {cl : Int}
theorem s_readSums {s : AS} {st : STK} {cd : Int → Int} {len kind : Int} (hk : 0 ≤ kind ∧ kind ≤ 100) (hc : 0 ≤ cl ∧ cl < 12) (h : RdS s rd tp B n ord st cd mk len cl) :
    SpecM (sumsP B n ord kind st) (f_Reader_readSums s rd (v kind)) s rd tp B n ord st cd mk len cl := by
  obtain ⟨s1, q1, q2, q3⟩ := s_markS (what := 2) (x := len) h hc (by omega)
  have h3 := h.2.1.1
  have hlen := h.2.2.2.2.2.1.2.1
  have hbit : (if sI s rd 3 = nI 0 then (if v kind = nI 1 then nI 1 else nI 0) else (if v kind = nI 4 then nI 1 else nI 0)) = v (if ownS ord kind then 0 else 1) := by
    rw [h3, nv0, nv1, nv4]
    cases ord with
    | false =>
      rw [if_pos (show v (if false = true then 1 else 0) = v 0 by decide)]
      by_cases c : kind = 1
      · rw [if_pos (peq c), if_neg (show ¬ ownS false kind from fun d => d c)]
      · rw [if_neg (pne (by omega)), if_pos (show ownS false kind from c)]
    | true =>
      rw [if_neg (show ¬ v (if true = true then 1 else 0) = v 0 by decide)]
      by_cases c : kind = 4
      · rw [if_pos (peq c), if_neg (show ¬ ownS true kind from fun d => d c)]
      · rw [if_neg (pne (by omega)), if_pos (show ownS true kind from c)]
  unfold f_Reader_readSums sumsP
  rw [if_pos h.1.1, hbit]
  unfold b_Reader_readSums_30
  rw [if_pos h.1.1, h.1.2.1.1, if_pos h.2.2.1.1.1, h.2.2.1.2.1.1, show nI 2 = v 2 from rfl, q1, Option.bind_some, nv0]
  by_cases c : ownS ord kind
  · rw [if_pos (show v (if ownS ord kind then 0 else 1) = v 0 by rw [if_pos c]), if_pos c, if_pos q2.1.1]
    have hsp := s_readSum (b := 8) (d := 0) ⟨by omega, by omega⟩ s1 st cd len q2
    cases hr : sumD B n ord 8 st with
    | error e =>
      rw [hr] at hsp
      obtain ⟨s2, a1, a2, a3⟩ := hsp
      rw [a1, Option.bind_some]
      exact ⟨s2, by rw [if_pos (show (v 0, s2).1 = v 0 from rfl)], a2, q3.tr a3⟩
    | ok x =>
      obtain ⟨f, st1⟩ := x
      rw [hr] at hsp
      obtain ⟨s2, cd2, len2, a1, a2, a3, a4, a5, a6⟩ := hsp
      have hll := a3.1
      rw [a1, Option.bind_some, if_neg (show ¬ (v 1, s2).1 = v 0 by show ¬ v 1 = v 0; decide)]
      exact s_sums60 hk hc a2 hlen (by omega) (Or.inr a3) a4 ⟨by omega, by omega⟩ (q3.tr a6)
  · rw [if_neg (show ¬ v (if ownS ord kind then 0 else 1) = v 0 by rw [if_neg c]; decide), if_neg c]
    exact s_sums60 hk hc q2 hlen (Int.le_refl _) (Or.inl ⟨rfl, rfl⟩) (fun _ _ _ => rfl) ⟨Int.le_refl _, Int.le_refl _⟩ q3
theorem s_clause109 {s : AS} {st : STK} {cd : Int → Int} {len : Int} (hc : 0 ≤ cl ∧ cl < 12) (h : RdS s rd tp B n ord st cd mk len cl) :
    ∃ s', b_Reader_readClause_109 rd s = some (v 1, s') ∧ RdS s' rd tp B n ord st cd (bu mk (cl * 6 + 5) len) len (cl + 1) ∧ Fr (inRd rd) s s' := by
  obtain ⟨s1, q1, q2, q3⟩ := s_markS (what := 5) (x := len) h hc (by omega)
  have q2' := q2
  obtain ⟨k1, ⟨k2, k3, k4, k5, k6⟩, k7, k8⟩ := q2
  have hf : Fr (fun q => q = rd + 1) s1 (setI s1 (rd + 1) 3 (v (cl + 1))) := Fr.si rfl
  refine ⟨setI s1 (rd + 1) 3 (v (cl + 1)), ?_, ⟨k1.fr hf (by omega) (by have := k1.2.2.2.2.2; omega) (by have := k1.2.2.2.2.2; omega), ?_, k7.cl', k8⟩, q3.tr (Fr.si (by unfold inRd; omega))⟩
  · unfold b_Reader_readClause_109
    rw [if_pos h.1.1, h.1.2.1.1, if_pos h.2.2.1.1.1, h.2.2.1.2.1.1, show nI 5 = v 5 from rfl, q1, Option.bind_some, if_pos k1.1, k1.2.1.1, if_pos k7.1.1, k7.2.1.2, nv1, v_add]
  · have e : ∀ j, sI (setI s1 (rd + 1) 3 (v (cl + 1))) rd j = sI s1 rd j := fun j => by rw [sI_setI, if_neg (by omega)]
    rw [e, e, e, e, e]
    exact ⟨k2, k3, k4, k5, k6⟩
end RCL
