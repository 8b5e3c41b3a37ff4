/-! THE CLASS'S READER: the sums of a clause -/
abbrev RSM : Type := Except Int ((SEM × SEM) × STK)
def semE : SEM := fun _ => some 1
abbrev ownS (ord : Bool) (kind : Int) : Prop := ¬ kind = (if ord = true then 4 else 1)
def sums2P (B : Int → Int) (n : Int) (ord : Bool) (kind : Int) (f : SEM) (st : STK) : RSM :=
  if ord = false ∨ 1 < kind then .ok ((f, semE), st) else
  if wd B st (if kind = 0 then 8 else 9) = 0 then (match sumD B n ord 8 (nxS B n st) with
    | .error e => .error e
    | .ok (g, st2) => .ok ((f, g), st2))
  else .error st.1
def sumsP (B : Int → Int) (n : Int) (ord : Bool) (kind : Int) (st : STK) : RSM :=
  if ownS ord kind then (match sumD B n ord 8 st with
    | .error e => .error e
    | .ok (f, st1) => sums2P B n ord kind f st1)
  else sums2P B n ord kind semE st
def SpecM (r : RSM) (o : Option (Int32 × AS)) (s : AS) (rd tp : Nat) (B : Int → Int) (n : Int) (ord : Bool) (st : STK) (cd mk : Int → Int) (len cl : Int) : Prop := match r with
  | .error e => ∃ s', o = some (v 0, s') ∧ sI s' rd 7 = v e ∧ Fr (inRd rd) s s'
  | .ok ((f, g), st') => ∃ s' cd' len' a, o = some (v 1, s') ∧ RdS s' rd tp B n ord st' cd' (bu (bu mk (cl * 6 + 2) len) (cl * 6 + 3) a) len' cl ∧ (SegE (insC cd') len a f ∧ SegE (insC cd') a len' g ∧ len ≤ a ∧ a ≤ len') ∧ (∀ z, 0 ≤ z → z < len → cd' z = cd z) ∧ (len' - st'.1 ≤ len - st.1 ∧ st.1 ≤ st'.1) ∧ Fr (inRd rd) s s'
section RSU
variable {rd tp : Nat} {B : Int → Int} {n : Int} {ord : Bool} {mk : Int → Int} {cl : Int}
theorem s_sums101 {s : AS} {st : STK} {cd : Int → Int} {len : Int} (h : RdS s rd tp B n ord st cd mk len cl) {k : Nat} (hk : k = 8 ∨ k = 9) :
    SpecR (if wd B st k = 0 then sumD B n ord 8 (nxS B n st) else .error st.1) (b_Reader_readSums_101 rd (strB + k) rd s) s rd tp B n ord st cd mk len cl 0 := by
  have hp := s_placeS h (k := k) (by omega)
  have hw := wd_r B st k
  have hlk : ((wrdZ k).length : Int) = 1 := by rcases hk with rfl | rfl <;> rfl
  have hst : 0 ≤ st.1 ∧ st.1 ≤ st.2.1 ∧ st.2.1 ≤ n := h.2.2.2.1.1.1
  have hT := nxS_T (B := B) (n := n) h.2.2.2.1.1
  have ge : st.2.1 ≤ (nxS B n st).1 := hT.2.1
  unfold b_Reader_readSums_101
  rw [if_pos h.1.1, hp, Option.bind_some, nv0, nv1]
  by_cases c : wd B st k = 0
  · obtain ⟨s1, n1, n2, n3⟩ := s_nextS h
    have hsp := s_readSum (b := 8) (d := 0) ⟨by omega, by omega⟩ s1 (nxS B n st) cd len n2
    rw [if_pos (peq c), if_pos c, if_pos h.1.1, n1, Option.bind_some, if_pos n2.1.1]
    have hmo := hsp.mo n3 (st := st) (slk := 0) (by omega) (by omega)
    cases hr : sumD B n ord 8 (nxS B n st) with
    | error e =>
      rw [hr] at hmo
      obtain ⟨s2, a1, a2, a3⟩ := hmo
      rw [a1, Option.bind_some]
      exact ⟨s2, by rw [if_pos (show (v 0, s2).1 = v 0 ∨ (v 0, s2).1 = v 1 from Or.inl rfl)], a2, a3⟩
    | ok x =>
      obtain ⟨g, st2⟩ := x
      rw [hr] at hmo
      obtain ⟨s2, cd2, len2, a1, a2⟩ := hmo
      rw [a1, Option.bind_some]
      exact ⟨s2, cd2, len2, by rw [if_pos (show (v 1, s2).1 = v 0 ∨ (v 1, s2).1 = v 1 from Or.inr rfl)], a2⟩
  · rw [if_neg (pne (by omega)), if_neg c, if_pos h.1.1]
    have hs := stop01 h
    rw [nv0, nv1] at hs
    rw [hs]
    exact stop_spec (F := inRd rd) h (Fr.rf _ _) rfl
theorem s_sums60 {s0 s : AS} {st0 st : STK} {cd0 cd : Int → Int} {len0 len kind : Int} {f : SEM} (hk : 0 ≤ kind ∧ kind ≤ 100) (hc : 0 ≤ cl ∧ cl < 12) (h : RdS s rd tp B n ord st cd (bu mk (cl * 6 + 2) len0) len cl) (h0 : 0 ≤ len0) (hl : len0 ≤ len) (hf : SegE (insC cd) len0 len f) (hcd : ∀ z, 0 ≤ z → z < len0 → cd z = cd0 z) (hsl : len - st.1 ≤ len0 - st0.1 ∧ st0.1 ≤ st.1) (hfr : Fr (inRd rd) s0 s) :
    SpecM (sums2P B n ord kind f st) (b_Reader_readSums_60 rd (v kind) s) s0 rd tp B n ord st0 cd0 mk len0 cl := by
  obtain ⟨s1, q1, q2, q3⟩ := s_markS (what := 3) (x := len) h hc (by omega)
  have h3 := q2.2.1.1
  unfold b_Reader_readSums_60 sums2P
  rw [if_pos h.1.1, h.1.2.1.1, if_pos h.2.2.1.1.1, h.2.2.1.2.1.1, show nI 3 = v 3 from rfl, q1, Option.bind_some, if_pos q2.1.1, h3, nv0, nv1]
  have fin : SpecM (.ok ((f, semE), st)) (some (v 1, s1)) s0 rd tp B n ord st0 cd0 mk len0 cl :=
    ⟨s1, cd, len, len, rfl, q2, ⟨hf, Or.inl ⟨rfl, rfl⟩, hl, Int.le_refl _⟩, hcd, hsl, hfr.tr q3⟩
  have two : ∀ k : Nat, k = 8 ∨ k = 9 → SpecM (if wd B st k = 0 then (match sumD B n ord 8 (nxS B n st) with
    | .error e => .error e
    | .ok (g, st2) => .ok ((f, g), st2))
  else .error st.1) (b_Reader_readSums_101 rd (strB + k) rd s1) s0 rd tp B n ord st0 cd0 mk len0 cl := by
    intro k hk
    have hsp := s_sums101 q2 hk
    by_cases c : wd B st k = 0
    · rw [if_pos c] at hsp
      rw [if_pos c]
      cases hr : sumD B n ord 8 (nxS B n st) with
      | error e =>
        rw [hr] at hsp
        obtain ⟨s2, a1, a2, a3⟩ := hsp
        exact ⟨s2, a1, a2, (hfr.tr q3).tr a3⟩
      | ok x =>
        obtain ⟨g, st2⟩ := x
        rw [hr] at hsp
        obtain ⟨s2, cd2, len2, a1, a2, a3, a4, ⟨a5, a7⟩, a6⟩ := hsp
        have hll := a3.1
        refine ⟨s2, cd2, len2, len, a1, a2, ⟨?_, Or.inr a3, hl, by omega⟩, fun z z0 z1 => by rw [a4 z z0 (by omega), hcd z z0 z1], ⟨by omega, by omega⟩, (hfr.tr q3).tr a6⟩
        rcases hf with e | e
        · exact Or.inl e
        · refine Or.inr (e.agr (fun z z0 z1 => ?_))
          show (cd2 z % 16, cd2 z / 16) = (cd z % 16, cd z / 16)
          rw [a4 z (by omega) z1]
    · rw [if_neg c] at hsp
      rw [if_neg c]
      obtain ⟨s2, a1, a2, a3⟩ := hsp
      exact ⟨s2, a1, a2, (hfr.tr q3).tr a3⟩
  cases ord with
  | false =>
    rw [if_pos (show v (if false = true then 1 else 0) = v 0 by decide), if_pos (Or.inl rfl)]
    exact fin
  | true =>
    rw [if_neg (show ¬ v (if true = true then 1 else 0) = v 0 by decide)]
    by_cases c1 : 1 < kind
    · rw [if_pos (plt (by omega)), if_pos (Or.inr c1)]
      exact fin
    · have cno : ¬ (true = false ∨ 1 < kind) := fun c => by
        rcases c with c | c
        · cases c
        · exact c1 c
      rw [if_neg (nlt (by omega)), if_neg cno]
      by_cases c0 : kind = 0
      · rw [if_pos (peq c0), if_pos c0]
        exact two 8 (Or.inl rfl)
      · rw [if_neg (pne (by omega)), if_neg c0]
        exact two 9 (Or.inr rfl)
end RSU
