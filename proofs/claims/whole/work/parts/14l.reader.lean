/-! THE CLASS'S READER: tests at each depth -/
section RTD
variable {rd tp : Nat} {B : Int → Int} {n : Int} {ord : Bool} {mk : Int → Int} {cl : Int}
theorem s_testOf {Rg : RgBT} {d : Int} {plain : STK → RSL} (hpl : ReadOK rd tp B n ord mk cl (rg_Reader_readPlain Rg) d plain) : ReadOK rd tp B n ord mk cl (fun s a x => g_Reader_readTest Rg s a x) d (testP B n plain) := by
  intro s st cd len h
  have hst : 0 ≤ st.1 ∧ st.1 ≤ st.2.1 ∧ st.2.1 ≤ n := h.2.2.2.1.1.1
  have hl : 0 ≤ len := h.2.2.2.2.2.1.2.1
  have hsp := hpl s st cd len h
  show SpecR (testP B n plain st) (g_Reader_readTest Rg s rd (v d)) s rd tp B n ord st cd mk len cl 0
  unfold g_Reader_readTest testP
  rw [if_pos h.1.1, nv1, v_neg, nv0]
  cases hr : plain st with
  | error e =>
    rw [hr] at hsp
    obtain ⟨s1, a1, a2, a3⟩ := hsp
    rw [a1, Option.bind_some]
    obtain ⟨m, hm⟩ : ∃ x, fuel = x + 1 := ⟨fuel - 1, by unfold fuel; omega⟩
    rw [hm]
    exact ⟨s1, l_test0, a2, a3⟩
  | ok x =>
    obtain ⟨g, st1⟩ := x
    rw [hr] at hsp
    obtain ⟨s1, cd1, len1, a1, a2, a3, a4, ⟨a5, a7⟩, a6⟩ := hsp
    have hll := a3.1
    rw [a1, Option.bind_some]
    show SpecR (testL B n plain 400 (fun _ => some 0) g st1) _ s rd tp B n ord st cd mk len cl 0
    exact s_testL hpl hl 400 fuel 0 (-1) (-1) _ g s1 st1 cd1 len1 (by omega) ⟨by omega, by omega⟩ (by unfold fuel; omega) a2 ⟨Or.inl rfl, by omega⟩ ⟨Or.inl rfl, by omega⟩ (Ch.start a3 hl) ⟨by omega, a7⟩ a4 a6
theorem s_testD : ∀ (b : Nat) (d : Int) (N : Nat), d + b = 8 ∧ 0 ≤ d → 2 * b + 2 ≤ N → ReadOK rd tp B n ord mk cl (rg_Reader_readTest (famB N)) d (testD B n ord b) := by
  intro b
  induction b with
  | zero =>
    intro d N hd hN
    obtain ⟨N, rfl⟩ : ∃ m, N = m + 1 + 1 := ⟨N - 2, by omega⟩
    have hp : ReadOK rd tp B n ord mk cl (rg_Reader_readPlain (famB (N + 1))) d (plainD B n ord 0 (fun st => .error st.1)) := s_readPlain (Rg := famB N) (b := 0) hd (fun c => absurd rfl c)
    exact s_testOf hp
  | succ b ih =>
    intro d N hd hN
    obtain ⟨N, rfl⟩ : ∃ m, N = m + 1 + 1 := ⟨N - 2, by omega⟩
    have hp : ReadOK rd tp B n ord mk cl (rg_Reader_readPlain (famB (N + 1))) d (plainD B n ord (b + 1) (testD B n ord b)) := s_readPlain (Rg := famB N) (b := b + 1) hd (fun _ => ih (d + 1) N ⟨by omega, by omega⟩ (by omega))
    exact s_testOf hp
theorem s_readTest {b : Nat} {d : Int} (hd : d + b = 8 ∧ 0 ≤ d) : ReadOK rd tp B n ord mk cl f_Reader_readTest d (testD B n ord b) := s_testD b d 60 hd (by omega)
end RTD
