/-! THE CLASS'S READER: sums at each depth; plain tests -/
section RPL
variable {rd tp : Nat} {B : Int → Int} {n : Int} {ord : Bool} {mk : Int → Int} {cl : Int}
theorem s_sumOf {Rg : RgAT} {d : Int} {part : STK → RSL} (hpart : ReadOK rd tp B n ord mk cl (rg_Reader_readPart Rg) d part) : ReadOK rd tp B n ord mk cl (fun s a x => g_Reader_readSum Rg s a x) d (sumLp B n part 400 none none) := by
  intro s st cd len h
  have hst : 0 ≤ st.1 ∧ st.1 ≤ st.2.1 ∧ st.2.1 ≤ n := h.2.2.2.1.1.1
  have hl : 0 ≤ len := h.2.2.2.2.2.1.2.1
  have hl2 : len ≤ st.1 := h.2.2.2.2.2.2
  have := s_sumL hpart (s0 := s) (st0 := st) (cd0 := cd) (i0 := len) hl 400 fuel 0 none none s st cd len (by omega) ⟨by omega, by omega⟩ (by unfold fuel; omega) h ⟨len, rfl, rfl⟩ ⟨by show len + 0 + 0 - st.1 ≤ _; omega, hl2, Int.le_refl _⟩ (fun _ _ _ => rfl) (Fr.rf _ _)
  show SpecR _ (g_Reader_readSum Rg s rd (v d)) s rd tp B n ord st cd mk len cl 0
  unfold g_Reader_readSum
  rw [nv1, v_neg, nv0]
  exact this
theorem s_sumD : ∀ (b : Nat) (d : Int) (N : Nat), d + b = 8 ∧ 0 ≤ d → 2 * b + 2 ≤ N → ReadOK rd tp B n ord mk cl (rg_Reader_readSum (famA N)) d (sumD B n ord b) := by
  intro b
  induction b with
  | zero =>
    intro d N hd hN
    obtain ⟨N, rfl⟩ : ∃ m, N = m + 1 + 1 := ⟨N - 2, by omega⟩
    have hp : ReadOK rd tp B n ord mk cl (rg_Reader_readPart (famA (N + 1))) d (partP B n ord 0 (fun st => .error st.1)) := s_readPart (Rg := famA N) (b := 0) hd (fun c => absurd rfl c)
    exact s_sumOf hp
  | succ b ih =>
    intro d N hd hN
    obtain ⟨N, rfl⟩ : ∃ m, N = m + 1 + 1 := ⟨N - 2, by omega⟩
    have hp : ReadOK rd tp B n ord mk cl (rg_Reader_readPart (famA (N + 1))) d (partP B n ord (b + 1) (sumD B n ord b)) := s_readPart (Rg := famA N) (b := b + 1) hd (fun _ => ih (d + 1) N ⟨by omega, by omega⟩ (by omega))
    exact s_sumOf hp
theorem s_readSum {b : Nat} {d : Int} (hd : d + b = 8 ∧ 0 ≤ d) : ReadOK rd tp B n ord mk cl f_Reader_readSum d (sumD B n ord b) := s_sumD b d 60 hd (by omega)
/-- a plain test that was turned round -/
theorem s_plain150 {Rg : RgBT} {s : AS} {st : STK} {cd : Int → Int} {len i0 : Int} {tr : Bool} {g : SEM} (h : RdS s rd tp B n ord st cd mk len cl) (hg : Seg (insC cd) i0 len g) (h0 : 0 ≤ i0) (hl : len + (if tr = true then 1 else 0) ≤ st.1) :
    ∃ s' cd' len', b_Reader_readPlain_150 Rg rd (v (if tr = true then 1 else 0)) s = some (v 1, s') ∧ RdS s' rd tp B n ord st cd' mk len' cl ∧ Seg (insC cd') i0 len' (notIf tr g) ∧ (∀ z, 0 ≤ z → z < len → cd' z = cd z) ∧ len' = len + (if tr = true then 1 else 0) ∧ Fr (inRd rd) s s' := by
  unfold b_Reader_readPlain_150
  rw [nv0, nv1, nv10]
  cases tr with
  | false =>
    rw [if_pos (show v (if false = true then 1 else 0) = v 0 by decide)]
    exact ⟨s, cd, len, rfl, h, hg, fun _ _ _ => rfl, by show len = len + 0; omega, Fr.rf _ _⟩
  | true =>
    have hl' : len + 1 ≤ st.1 := hl
    have hg1 := hg.1
    obtain ⟨s', q1, q2, q3⟩ := s_addS (ct' := st.2.2) h (step := 10) (wth := 0) (by omega) (by decide) (by decide) (fun c => by omega) ⟨by rw [if_neg (by decide)]; omega, h.2.2.2.2.2.1.2.2.2⟩
    rw [if_neg (show ¬ v (if true = true then 1 else 0) = v 0 by decide), if_pos h.1.1, h.1.2.1.1, if_pos h.2.2.1.1.1, q1, Option.bind_some]
    refine ⟨s', bu cd len (10 + 16 * 0), len + 1, rfl, q2, ?_, fun z z0 z1 => ?_, rfl, q3⟩
    · exact Seg.not (hg.agr (agr_bu (Int.le_refl _))) (insC_bu (step := 10) (wth := 0) (by decide))
    · unfold bu
      rw [if_neg (by omega)]
end RPL
