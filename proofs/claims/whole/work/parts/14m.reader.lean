/-! THE CLASS'S READER: the sums of a clause, how often -/
def timesP (B : Int → Int) (n : Int) (ord : Bool) (st : STK) : Except Int (Int × STK) :=
  if ord = false then .ok (1, st) else
  if wd B st 10 = 0 then (if nm B n (nxS B n st) 1 20 = -1 then .error (nxS B n st).1 else .ok (nm B n (nxS B n st) 1 20, nxS B n (nxS B n st)))
  else .ok (1, st)
def SpecT (r : Except Int (Int × STK)) (o : Option (Int32 × AS)) (s : AS) (rd tp : Nat) (B : Int → Int) (n : Int) (ord : Bool) (st : STK) (cd mk : Int → Int) (len cl : Int) : Prop := match r with
  | .error e => ∃ s', o = some (v 0, s') ∧ sI s' rd 7 = v e ∧ Fr (inRd rd) s s'
  | .ok (x, st') => ∃ s', o = some (v 1, s') ∧ RdS s' rd tp B n ord st' cd (bu mk (cl * 6 + 1) x) len cl ∧ st.1 ≤ st'.1 ∧ Fr (inRd rd) s s'
section RTM
variable {s : AS} {rd tp : Nat} {B : Int → Int} {n : Int} {ord : Bool} {st : STK} {cd mk : Int → Int} {len cl ct : Int}
theorem s_markS (h : RdC s rd tp B n ord st ct cd mk len cl) (hc : 0 ≤ cl ∧ cl < 12) {what x : Int} (hw : 0 ≤ what ∧ what < 6) : ∃ s', f_Text_mark s (rd + 1) (v what) (v x) = some s' ∧ RdC s' rd tp B n ord st ct cd (bu mk (cl * 6 + what) x) len cl ∧ Fr (inRd rd) s s' := by
  obtain ⟨h1, h3, h7, h8, h9, h10, h11⟩ := h
  obtain ⟨s', q1, q2, q3⟩ := s_tmark (what := what) (x := x) h7 hc hw
  have hrd : ¬ inTx (rd + 1) rd := by unfold inTx; omega
  exact ⟨s', q1, ⟨h1.fr q3 (by unfold inTx; omega) (by unfold inTx; have := h1.2.2.2.2.2; omega) (by unfold inTx; have := h1.2.2.2.2.2; omega), by rw [(q3.2 rd hrd).1]; exact h3, q2, h8, h9, h10, h11⟩, q3.mo (fun q hq => by unfold inTx at hq; unfold inRd; omega)⟩
theorem s_times44 (h : RdC s rd tp B n ord st ct cd mk len cl) (hc : 0 ≤ cl ∧ cl < 12) {x : Int} : ∃ s', b_Reader_readTimes_44 rd (v x) s = some (v 1, s') ∧ RdC s' rd tp B n ord st ct cd (bu mk (cl * 6 + 1) x) len cl ∧ Fr (inRd rd) s s' := by
  obtain ⟨s', q1, q2, q3⟩ := s_markS (what := 1) (x := x) h hc (by omega)
  refine ⟨s', ?_, q2, q3⟩
  unfold b_Reader_readTimes_44
  rw [if_pos h.1.1, h.1.2.1.1, if_pos h.2.2.1.1.1, nv1, q1, Option.bind_some]
theorem s_readTimes (h : RdS s rd tp B n ord st cd mk len cl) (hc : 0 ≤ cl ∧ cl < 12) : SpecT (timesP B n ord st) (f_Reader_readTimes s rd) s rd tp B n ord st cd mk len cl := by
  have hp := s_placeS h (k := 10) (by decide)
  have hst : 0 ≤ st.1 ∧ st.1 ≤ st.2.1 ∧ st.2.1 ≤ n := h.2.2.2.1.1.1
  have hw := wd_r B st 10
  have hl10 : ((wrdZ 10).length : Int) = 1 := rfl
  have h3 := h.2.1.1
  obtain ⟨s1, a1, a2, a3⟩ := s_times44 (x := 1) h hc
  unfold f_Reader_readTimes timesP
  rw [if_pos h.1.1, h3, nv1, nv0]
  cases ord with
  | false =>
    rw [if_pos (show v (if false = true then 1 else 0) = v 0 by decide), if_pos rfl]
    exact ⟨s1, a1, a2, Int.le_refl _, a3⟩
  | true =>
    rw [if_neg (show ¬ v (if true = true then 1 else 0) = v 0 by decide), if_neg (show ¬ true = false by decide), hp, Option.bind_some]
    by_cases c : wd B st 10 = 0
    · obtain ⟨s2, n1, n2, n3⟩ := s_nextS h
      have hT := nxS_T (B := B) (n := n) h.2.2.2.1.1
      have ge : st.2.1 ≤ (nxS B n st).1 := hT.2.1
      have hnum := s_numS n2 (lo := 1) (hi := 20) (by decide)
      have hnr : nm B n (nxS B n st) 1 20 = -1 ∨ (1 ≤ nm B n (nxS B n st) 1 20 ∧ nm B n (nxS B n st) 1 20 ≤ 20) := numP_r (by decide)
      rw [if_pos (peq c), if_pos c, n1, Option.bind_some, if_pos n2.1.1, show nI 20 = v 20 from rfl, hnum, Option.bind_some, v_neg]
      by_cases cn : nm B n (nxS B n st) 1 20 = -1
      · rw [if_pos (peq cn), if_pos cn]
        have hs := stop01 n2
        rw [nv0, nv1] at hs
        rw [hs]
        exact ⟨_, rfl, by rw [sI_setI, if_pos ⟨rfl, rfl⟩], n3.tr (Fr.si (by unfold inRd; omega))⟩
      · obtain ⟨s3, y1, y2, y3⟩ := s_nextS n2
        have hT2 := nxS_T (B := B) (n := n) n2.2.2.2.1.1
        have ge2 : (nxS B n st).2.1 ≤ (nxS B n (nxS B n st)).1 := hT2.2.1
        have ge3 := n2.2.2.2.1.1.1
        obtain ⟨s4, b1, b2, b3⟩ := s_times44 (x := nm B n (nxS B n st) 1 20) y2 hc
        rw [if_neg (pne (by omega)), if_neg cn, y1, Option.bind_some]
        exact ⟨s4, b1, b2, by omega, (n3.tr y3).tr b3⟩
    · rw [if_neg (pne (by omega)), if_neg c]
      exact ⟨s1, a1, a2, Int.le_refl _, a3⟩
end RTM
