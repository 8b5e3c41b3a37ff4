/-! THE LAW'S START: the world, and the claim out of LawOK -/
def chkAt (pc : Nat) : Bool := match mZ271.1 pc with
  | none => true
  | some (i, len) => decide (decode code pc = .ok (i, len)) && (decide (lenI i = 0) || decide (len = lenI i)) && chkI mZ271 "law" pc i
theorem law_c0 : ((List.range 100).all (fun i => chkAt (0 + i))) = true := by decide +kernel
theorem law_c1 : ((List.range 100).all (fun i => chkAt (100 + i))) = true := by decide +kernel
theorem law_c2 : ((List.range 100).all (fun i => chkAt (200 + i))) = true := by decide +kernel
theorem law_c3 : ((List.range 100).all (fun i => chkAt (300 + i))) = true := by decide +kernel
theorem law_c4 : ((List.range 100).all (fun i => chkAt (400 + i))) = true := by decide +kernel
theorem law_c5 : ((List.range 100).all (fun i => chkAt (500 + i))) = true := by decide +kernel
theorem law_c6 : ((List.range 100).all (fun i => chkAt (600 + i))) = true := by decide +kernel
theorem law_c7 : ((List.range 100).all (fun i => chkAt (700 + i))) = true := by decide +kernel
theorem law_c8 : ((List.range 100).all (fun i => chkAt (800 + i))) = true := by decide +kernel
theorem law_c9 : ((List.range 100).all (fun i => chkAt (900 + i))) = true := by decide +kernel
theorem law_c10 : ((List.range 100).all (fun i => chkAt (1000 + i))) = true := by decide +kernel
theorem law_c {a pc : Nat} (h : ((List.range 100).all (fun i => chkAt (a + i))) = true) (h1 : a ≤ pc) (h2 : pc < a + 100) : chkAt pc = true := by
  have := List.all_eq_true.mp h (pc - a) (List.mem_range.mpr (by omega))
  rw [show a + (pc - a) = pc by omega] at this
  exact this
theorem law_chk : chkM mZ271 code "law" 1042 = true := by
  refine List.all_eq_true.mpr (fun pc hpc => ?_)
  have hp : pc < 1042 := List.mem_range.mp hpc
  show chkAt pc = true
  rcases Nat.lt_or_ge pc 100 with h0 | h0
  · exact law_c law_c0 (by omega) (by omega)
  rcases Nat.lt_or_ge pc 200 with h1 | h1
  · exact law_c law_c1 (by omega) (by omega)
  rcases Nat.lt_or_ge pc 300 with h2 | h2
  · exact law_c law_c2 (by omega) (by omega)
  rcases Nat.lt_or_ge pc 400 with h3 | h3
  · exact law_c law_c3 (by omega) (by omega)
  rcases Nat.lt_or_ge pc 500 with h4 | h4
  · exact law_c law_c4 (by omega) (by omega)
  rcases Nat.lt_or_ge pc 600 with h5 | h5
  · exact law_c law_c5 (by omega) (by omega)
  rcases Nat.lt_or_ge pc 700 with h6 | h6
  · exact law_c law_c6 (by omega) (by omega)
  rcases Nat.lt_or_ge pc 800 with h7 | h7
  · exact law_c law_c7 (by omega) (by omega)
  rcases Nat.lt_or_ge pc 900 with h8 | h8
  · exact law_c law_c8 (by omega) (by omega)
  rcases Nat.lt_or_ge pc 1000 with h9 | h9
  · exact law_c law_c9 (by omega) (by omega)
  exact law_c law_c10 (by omega) (by omega)
theorem law_world {p : Program} {s : State} {m : MethodId} {meth : Method} {c : Code} {b L : Nat} {xs : Nat → Int32} (hL : L ≤ 3072) (C0 : lw_At p s m meth c b L xs) : ∃ g : GE, EnvZ g s #[Value.ref b] ∧ gB g = s.heap.size ∧ gS g = b ∧ gN g = L ∧ gX g = xs := by
  obtain ⟨-, -, -, -, -, hts, hX, hbl, -, hgv⟩ := C0
  obtain ⟨AC, -, -, -⟩ := allZ
  have htz : ∀ w ∈ TsZ, w.before #[Value.ref b] s = true := fun w hw => hts w (List.mem_filter.mp hw).1
  have hnr : ∀ w ∈ nrT, w.before #[Value.ref b] s = true := flat_of_before _ hgv
  have hA : ∀ a : Nat, a < s.heap.size → ¬ s.heap.size ≤ a := fun a h => Nat.not_le.mpr h
  -- the classes
  have hD0 : ∀ c : Nat, c < 13 → ∃ (cC : ClassId) (iS : Nat → Nat), u_Kn s (clC c) (clT c) (fkZ c).length cC iS := by
    intro c hc
    obtain ⟨-, h2, -, -, -, h6, -⟩ := AC c hc
    exact u_known htz h2 (htz _ h6)
  have hD : ∀ c : Nat, ∃ q : ClassId × (Nat → Nat), c < 13 → u_Kn s (clC c) (clT c) (fkZ c).length q.1 q.2 := by
    intro c
    by_cases hc : c < 13
    · obtain ⟨cC, iS, h⟩ := hD0 c hc
      exact ⟨(cC, iS), fun _ => h⟩
    · obtain ⟨cC, iS, -⟩ := hD0 0 (by decide)
      exact ⟨(cC, iS), fun h => absurd h hc⟩
  obtain ⟨D, hD⟩ := Classical.axiomOfChoice hD
  -- the arrays' classes
  obtain ⟨c20, a20, r20⟩ := findPA (htz _ allZ.2.2.2.1)
  obtain ⟨c21, a21, r21⟩ := findPA (htz _ allZ.2.2.2.2.1)
  obtain ⟨c22, a22, r22⟩ := findPA (htz _ allZ.2.2.2.2.2)
  have o1 : va_AO "RecordHeap$Image" s := va_AO.of (hts _ lw_ao.1)
  have o2 : va_AO "RecordHeap$Pages" s := va_AO.of (hts _ lw_ao.2.1)
  have o3 : va_AO "RecordHeap$Text" s := va_AO.of (hts _ lw_ao.2.2.1)
  obtain ⟨c43, a43, r43⟩ := findAO o1
  obtain ⟨c46, a46, r46⟩ := findAO o2
  obtain ⟨c51, a51, r51⟩ := findAO o3
  -- the constants
  obtain ⟨adK, adV, hS, hSe⟩ := vk_Sof (args := #[Value.ref b]) (s := s) (N := 18) (tm := tmS) (len := lnZ) (byt := byZ) (A := fun q => s.heap.size ≤ q) (by decide +kernel)
    (fun i hi => hnr _ (nr_ex i hi).1) (fun i hi => hnr _ (nr_ex i hi).2.1) (fun i hi => hnr _ (nr_ex i hi).2.2.1) (fun i hi => hnr _ (nr_ex i hi).2.2.2) (fun i hi j hj => hnr _ (nr_el i hi j hj))
    (fun i j hi hj hn => (nr_ne i hi j hj hn).imp (fun h => hnr _ h) (fun h => hnr _ h)) hA
  obtain ⟨t1, t2, t3, t4, t5⟩ := nr_tm
  obtain ⟨w1, w2, w3, w4, w5, w6⟩ := lw_st
  obtain ⟨tt, hte, hT⟩ := va_Tof (args := #[Value.ref b]) (s := s) (f := fun j => .int (tmZ.getD j 0)) (A := fun q => s.heap.size ≤ q) (by decide : 3 < 2 ^ 31) (hnr _ t1) (va_eqt (hnr _ t2)) (fun j hj => va_eqt (hnr _ (t3 j hj))) hA
  let g : GE := ((fun c => (D c).1, fun c => (D c).2), s.heap.size, (fun t => if t = 20 then c20 else if t = 21 then c21 else if t = 22 then c22 else if t = 43 then c43 else if t = 46 then c46 else c51), tt, b, L, xs, adK, adV)
  refine ⟨g, ⟨⟨fun c q hq => ?_, fun k q hq => ?_⟩, htz, fun w hw => ?_, ⟨o1, o2, o3, va_Nw.of rfl (hts _ lw_ao.2.2.2)⟩, ⟨hS, fun i hi => vk_R.of (hts _ (lw_sr i hi)) (hSe i hi)⟩, ⟨hT, va_Zref (hts _ w1) (hts _ w2) hte hA⟩, ⟨hX, hbl, Nat.lt_of_le_of_lt hL (by decide)⟩, ⟨va_Zof (hts _ w3) (hts _ w4) (va_eqt (hnr _ t4)) hA, va_Zqof (hts _ w5) (hts _ w6) (hnr _ t5) hA⟩, Nat.le_refl _⟩, rfl, rfl, rfl, rfl⟩
  · have hc : c < 13 := (List.getElem?_eq_some_iff.mp hq).1
    rw [(AC c hc).1] at hq
    cases hq
    exact hD c hc
  · have key : ∀ k : Nat, k < 6 → ∀ q, (tysZ g)[k]? = some q → ArrOfT s q.1 q.2 ∧ va_RA s q.1 q.2 := by
      intro k hk q hq
      match k, hk with
      | 0, _ => cases hq; exact ⟨a20, r20⟩
      | 1, _ => cases hq; exact ⟨a21, r21⟩
      | 2, _ => cases hq; exact ⟨a22, r22⟩
      | 3, _ => cases hq; exact ⟨a43, r43⟩
      | 4, _ => cases hq; exact ⟨a46, r46⟩
      | 5, _ => cases hq; exact ⟨a51, r51⟩
    exact key k (List.getElem?_eq_some_iff.mp hq).1 q hq
  · have hw1 := List.mem_filter.mp hw
    have hb := hts w (List.mem_append_right _ hw1.1)
    cases w <;> first | exact va_Nw.of rfl hb | (exact absurd hw1.2 (by decide)) | (exact absurd hw1.2 (by simp [isNest]))
theorem whole_of (OK : LawOK) {p : Program} {e : Env} {s : State} {m : MethodId} {below : List Frame} {meth : Method} {c : Code} (l : Launch) {b L : Nat} {xs : Nat → Int32} (hL : L ≤ 3072) (C0 : lw_At p s m meth c b L xs) : W p l e room_1 s m #[Value.ref b] below meth c s.heap [] 0 0 (lw_Z below #[Value.ref b] s) (entryFrame m ([Value.ref b] : List Value).toArray 4) := by
  obtain ⟨g, hE, gb, gs, gn, gx⟩ := law_world hL C0
  obtain ⟨c1, c2, c3, c4, c5, -, -, -, c9, -⟩ := C0
  obtain ⟨o, ho, hox, hoz⟩ := OK L xs hL
  obtain ⟨n, hR⟩ := t_Law_law ho
  obtain ⟨-, -, AO, -⟩ := allZ
  obtain ⟨-, ol, -⟩ := AO 13 (by decide)
  obtain ⟨k1, k2, k3⟩ := chkM_ok law_chk (fun n h => (nn h : cdZ271 n = none))
  have hts := hE.2.1
  have C : CtxZ (p, l, e, room_1, s, m, #[Value.ref b], below, meth, c, lw_Z below #[Value.ref b] s) g mZ271 code :=
    ⟨c1, c2, c4, c5, k1, fun pc k len x h hx hf => absurd (k2 pc k len x h hx hf).1 (by decide), k3, ol.lnk hts hE.2.2.1, hE, (Nat.le_of_ble_eq_true rfl : 6 ≤ 2048), (Nat.le_of_ble_eq_true rfl : 384 ≤ 84000)⟩
  have hret : ∀ pc ls st s', (retI mZ271 pc st).1 → ((some (.int (nI 1)) : Option Value), o) = ((retI mZ271 pc st).2, s') → AtZ (p, l, e, room_1, s, m, #[Value.ref b], below, meth, c, lw_Z below #[Value.ref b] s) g (startA L xs) 4 pc ls st s' := by
    intro pc ls st s' hG he A H locs q1 q2 q3 q4 q5 q6
    have hs : o = s' := congrArg Prod.snd he
    subst hs
    have hf : ∀ q ∈ locs, s.heap.size ≤ q.base := fun q hq => by
      have := q4.2.2 q hq
      rw [← gb]
      exact this
    unfold retI at hG he
    split at hG
    · rename_i len heq
      rw [heq] at he
      split at hG
      · rename_i y x hrk
        exact absurd hrk (by decide)
      · rename_i y x hrk
        have hx : nI 1 = x := by
          have h1 : (some (.int (nI 1)) : Option Value) = some (.int x) := congrArg Prod.fst he
          cases h1
          rfl
        subst hx
        refine va_forget hf (W.widen (k := 600000) (n := 7302250) (by show sX o - 1 ≤ _; omega) (by show sZ o - 0 ≤ _; omega) ?_)
        exact lw_ret c1 c2 c3 c9 (C.dec heq (by simp [lenI]))
      · exact hG.elim
    · rename_i len heq
      split at hG
      · rename_i y x hrk
        exact absurd hrk (by decide)
      · exact hG.elim
    · rename_i len heq
      split at hG
      · rename_i y x hrk
        exact absurd hrk (by decide)
      · exact hG.elim
    · rename_i len heq
      split at hG
      · rename_i y hrk
        exact absurd hrk (by decide)
      · exact hG.elim
    · exact hG.elim
  have hW := simL allZ (M := mZ271) (by decide) n 124 0 [.ref 1000001, .retAddr 0, .retAddr 0, .retAddr 0] [] (startA L xs) _ hR _ g (startA L xs) code C ⟨(Nat.le_of_ble_eq_true rfl : 130 ≤ 2048), (Nat.le_of_ble_eq_true rfl : 8320 ≤ 84000)⟩ ⟨by show sX o - 1 ≤ 600000; omega, by show sZ o - 0 ≤ 7302250; omega⟩ hret
  have hcv : conV g (.ref 1000001) = .ref b := by
    show rfZ g 1000001 = _
    unfold rfZ adZ
    rw [if_neg (by decide), if_neg (by decide), if_neg (by decide), if_pos rfl, gs]
  have hent := LVZ.entry (g := g) (av := [.ref 1000001]) (n := 4) (by decide)
  have hW2 := hW _ s.heap [] hent rfl (startRep gn gx) va_S.rf ⟨Nat.le_refl _, Nat.le_refl _⟩ (by rw [gb]; rfl)
  rw [lg_entry_eq]
  have he : ([.ref 1000001] : List Value).map (conV g) = [.ref b] := by rw [List.map_cons, hcv]; rfl
  rw [he] at hW2
  exact hW2
