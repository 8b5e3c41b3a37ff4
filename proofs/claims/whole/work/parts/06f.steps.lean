/-! STRING CONSTANTS: length and charAt -/
theorem inT {w : Cond} {i : Nat} (h : tables_1[i]? = some w) (hg : goodWord w = true) : w ∈ TsZ := List.mem_filter.mpr ⟨List.mem_append_right _ (List.mem_of_getElem? h), hg⟩
theorem goodT {w : Cond} (h : w ∈ TsZ) : (w.onTables && w.keeps) = true ∨ ∃ ty, w = .arrayClass ty := good_of_word (List.mem_filter.mp h).2
theorem goodV {a b : Cond} {own C : String} {idx : Nat} {y : MethodName} (h1 : Cond.methodLink own idx y ∈ TsZ) (h2 : Cond.instanceMethod y ∈ TsZ) (h3 : Cond.selects C y y ∈ TsZ) (h4 : Cond.initialized C ∈ TsZ) (h5 : b ∈ TsZ) : GoodIn (a :: TsZ) (wsV own idx C y (b :: TsZ)) := by
  intro w hw
  have h : w ∈ TsZ := by
    unfold wsV at hw
    simp only [List.mem_append, List.mem_cons, List.not_mem_nil, or_false] at hw
    rcases hw with (rfl | rfl | rfl | rfl) | rfl | hw
    · exact h1
    · exact h2
    · exact h3
    · exact h4
    · exact h5
    · exact hw
  exact ⟨List.mem_cons_of_mem _ h, goodT h⟩
theorem goodS {a b : Cond} {own : String} {idx : Nat} {y : MethodName} (h1 : Cond.methodLink own idx y ∈ TsZ) (h2 : Cond.static y ∈ TsZ) (h4 : Cond.initialized y.cls ∈ TsZ) (h5 : b ∈ TsZ) : GoodIn (a :: TsZ) (va_wsS own idx y (b :: TsZ)) := by
  intro w hw
  have h : w ∈ TsZ := by
    unfold va_wsS at hw
    simp only [List.mem_append, List.mem_cons, List.not_mem_nil, or_false] at hw
    rcases hw with (rfl | rfl | rfl) | rfl | hw
    · exact h1
    · exact h2
    · exact h4
    · exact h5
    · exact hw
  exact ⟨List.mem_cons_of_mem _ h, goodT h⟩
def StrE (g : GE) (U : State) : Prop := vk_S 18 lnZ byZ (gK g) (gV g) (inW g) U U.heap ∧ va_Z "java/lang/String" "COMPACT_STRINGS" "Z" (.int 1) (inW g) U U.heap ∧ va_Zq "jdk/internal/util/Preconditions" "SIOOBE_FORMATTER" "Ljava/util/function/BiFunction;" (inW g) U U.heap
theorem StrE.go {g : GE} {s U : State} {H : Heap} {locs : List Loc} (h : StrE g s) (hS : va_S (inW g) s.heap H locs) (hU : U.heap = H) (hW : s.WarmedH U.vm) : StrE g U := by
  obtain ⟨h1, h2, h3⟩ := h
  unfold StrE
  rw [hU]
  exact ⟨vk_S.moved hW.alike (h1.kept hS.2.1), va_Z.moved hW.alike (h2.kept hS.2.1), va_Zq.moved hW.alike (h3.kept hS.2.1)⟩
def PcS (g : GE) (av : List Value) : Array Value → State → Prop := va_Pc av (StrE g)
theorem blindS {g : GE} {av : List Value} : FrameBlind (PcS g av) := by
  intro a U f mk h
  obtain ⟨h1, h2, h3, h4⟩ := h
  exact ⟨h1, vk_S.moved (u := U) (U := U.calling f mk a) (Vm.Alike.refl U.vm) h2, va_Z.moved (u := U) (U := U.calling f mk a) (Vm.Alike.refl U.vm) h3, va_Zq.moved (u := U) (U := U.calling f mk a) (Vm.Alike.refl U.vm) h4⟩
abbrev rmS (d : Nat) : Room := { frames := d, cells := 0, slots := 0, locals := 64 * d }
def QvS : Array Value → State → Outcome → State → Prop := fun _ st o t => o = .returned none ∧ t.heap = st.heap
/-- behind a call that only reads -/
theorem W_read {p : Program} {l : Launch} {e : Env} {R : Room} {s : State} {m : MethodId} {args : Array Value} {below : List Frame} {meth : Method} {c : Code} {H : Heap} {locs : List Loc} {cells slots : Nat} {f : JFrame} {rest : List Value} {a : Array Value} {Q : State → Prop} {v : Int32}
    (hr : va_Run p l e R s m args below meth c H locs cells slots 0 0 f rest (QcRead v a) (fun _ => False)) (kk : W p l e R s m args below meth c H locs cells slots Q { f with pc := f.pc + 3, stack := .int v :: rest }) : W p l e R s m args below meth c H locs cells slots Q f := by
  refine W_run hr (fun v' st₀ t H1 L h0 ht hq hL => ?_)
  obtain ⟨e1, e2⟩ := hq
  cases e1
  have hLn : L = [] := List.eq_nil_iff_forall_not_mem.mpr hL
  subst hLn
  rw [List.append_nil, ← ht, e2, h0]
  exact kk
theorem W_readV {p : Program} {l : Launch} {e : Env} {R : Room} {s : State} {m : MethodId} {args : Array Value} {below : List Frame} {meth : Method} {c : Code} {H : Heap} {locs : List Loc} {cells slots : Nat} {f : JFrame} {rest : List Value} {a : Array Value} {Q : State → Prop}
    (hr : va_Run p l e R s m args below meth c H locs cells slots 0 0 f rest (QvS a) (fun _ => False)) (kk : W p l e R s m args below meth c H locs cells slots Q { f with pc := f.pc + 3, stack := rest }) : W p l e R s m args below meth c H locs cells slots Q f := by
  refine W_run hr (fun v' st₀ t H1 L h0 ht hq hL => ?_)
  obtain ⟨e1, e2⟩ := hq
  cases e1
  have hLn : L = [] := List.eq_nil_iff_forall_not_mem.mpr hL
  subst hLn
  rw [List.append_nil, ← ht, e2, h0]
  exact kk
def yS_coder : MethodName := ⟨"java/lang/String", "coder", "()B"⟩
abbrev bS_coder : ByteArray := prog_18_method_152_code
abbrev wS_coder : List Cond := .code yS_coder bS_coder 1 (some .byte) :: TsZ
theorem cS_coder : Cond.code yS_coder bS_coder 1 (some .byte) ∈ TsZ := inT (i := 431) (by decide +kernel) rfl
theorem dS_coder_0 : decode bS_coder 0 = .ok (.getstatic 38, 3) := by decide +kernel
theorem dS_coder_3 : decode bS_coder 3 = .ok (.ifCond .eq 10, 3) := by decide +kernel
theorem dS_coder_6 : decode bS_coder 6 = .ok (.aload_n 0, 1) := by decide +kernel
theorem dS_coder_7 : decode bS_coder 7 = .ok (.getfield 15, 3) := by decide +kernel
theorem dS_coder_10 : decode bS_coder 10 = .ok (.goto 4, 3) := by decide +kernel
theorem dS_coder_13 : decode bS_coder 13 = .ok (.iconst 1, 1) := by decide +kernel
theorem dS_coder_14 : decode bS_coder 14 = .ok (.ireturn, 1) := by decide +kernel
def yS_length : MethodName := ⟨"java/lang/String", "length", "()I"⟩
abbrev bS_length : ByteArray := prog_18_method_54_code
abbrev wS_length : List Cond := .code yS_length bS_length 1 (some .int) :: TsZ
theorem cS_length : Cond.code yS_length bS_length 1 (some .int) ∈ TsZ := inT (i := 427) (by decide +kernel) rfl
theorem dS_length_0 : decode bS_length 0 = .ok (.aload_n 0, 1) := by decide +kernel
theorem dS_length_1 : decode bS_length 1 = .ok (.getfield 9, 3) := by decide +kernel
theorem dS_length_4 : decode bS_length 4 = .ok (.arraylength, 1) := by decide +kernel
theorem dS_length_5 : decode bS_length 5 = .ok (.aload_n 0, 1) := by decide +kernel
theorem dS_length_6 : decode bS_length 6 = .ok (.invokevirtual 335, 3) := by decide +kernel
theorem dS_length_9 : decode bS_length 9 = .ok (.ishr, 1) := by decide +kernel
theorem dS_length_10 : decode bS_length 10 = .ok (.ireturn, 1) := by decide +kernel
def yS_isL : MethodName := ⟨"java/lang/String", "isLatin1", "()Z"⟩
abbrev bS_isL : ByteArray := prog_18_method_154_code
abbrev wS_isL : List Cond := .code yS_isL bS_isL 1 (some .boolean) :: TsZ
theorem cS_isL : Cond.code yS_isL bS_isL 1 (some .boolean) ∈ TsZ := inT (i := 441) (by decide +kernel) rfl
theorem dS_isL_0 : decode bS_isL 0 = .ok (.getstatic 38, 3) := by decide +kernel
theorem dS_isL_3 : decode bS_isL 3 = .ok (.ifCond .eq 14, 3) := by decide +kernel
theorem dS_isL_6 : decode bS_isL 6 = .ok (.aload_n 0, 1) := by decide +kernel
theorem dS_isL_7 : decode bS_isL 7 = .ok (.getfield 15, 3) := by decide +kernel
theorem dS_isL_10 : decode bS_isL 10 = .ok (.ifCond .ne 7, 3) := by decide +kernel
theorem dS_isL_13 : decode bS_isL 13 = .ok (.iconst 1, 1) := by decide +kernel
theorem dS_isL_14 : decode bS_isL 14 = .ok (.goto 4, 3) := by decide +kernel
theorem dS_isL_17 : decode bS_isL 17 = .ok (.iconst 0, 1) := by decide +kernel
theorem dS_isL_18 : decode bS_isL 18 = .ok (.ireturn, 1) := by decide +kernel
def yS_charAt : MethodName := ⟨"java/lang/String", "charAt", "(I)C"⟩
abbrev bS_charAt : ByteArray := prog_18_method_56_code
abbrev wS_charAt : List Cond := .code yS_charAt bS_charAt 2 (some .char) :: TsZ
theorem cS_charAt : Cond.code yS_charAt bS_charAt 2 (some .char) ∈ TsZ := inT (i := 437) (by decide +kernel) rfl
theorem dS_charAt_0 : decode bS_charAt 0 = .ok (.aload_n 0, 1) := by decide +kernel
theorem dS_charAt_1 : decode bS_charAt 1 = .ok (.invokevirtual 492, 3) := by decide +kernel
theorem dS_charAt_4 : decode bS_charAt 4 = .ok (.ifCond .eq 12, 3) := by decide +kernel
theorem dS_charAt_7 : decode bS_charAt 7 = .ok (.aload_n 0, 1) := by decide +kernel
theorem dS_charAt_8 : decode bS_charAt 8 = .ok (.getfield 9, 3) := by decide +kernel
theorem dS_charAt_11 : decode bS_charAt 11 = .ok (.iload_n 1, 1) := by decide +kernel
theorem dS_charAt_12 : decode bS_charAt 12 = .ok (.invokestatic 495, 3) := by decide +kernel
theorem dS_charAt_15 : decode bS_charAt 15 = .ok (.ireturn, 1) := by decide +kernel
theorem dS_charAt_16 : decode bS_charAt 16 = .ok (.aload_n 0, 1) := by decide +kernel
theorem dS_charAt_17 : decode bS_charAt 17 = .ok (.getfield 9, 3) := by decide +kernel
theorem dS_charAt_20 : decode bS_charAt 20 = .ok (.iload_n 1, 1) := by decide +kernel
theorem dS_charAt_21 : decode bS_charAt 21 = .ok (.invokestatic 498, 3) := by decide +kernel
theorem dS_charAt_24 : decode bS_charAt 24 = .ok (.ireturn, 1) := by decide +kernel
def yS_lch : MethodName := ⟨"java/lang/StringLatin1", "charAt", "([BI)C"⟩
abbrev bS_lch : ByteArray := prog_19_method_2_code
abbrev wS_lch : List Cond := .code yS_lch bS_lch 2 (some .char) :: TsZ
theorem cS_lch : Cond.code yS_lch bS_lch 2 (some .char) ∈ TsZ := inT (i := 444) (by decide +kernel) rfl
theorem dS_lch_0 : decode bS_lch 0 = .ok (.iload_n 1, 1) := by decide +kernel
theorem dS_lch_1 : decode bS_lch 1 = .ok (.aload_n 0, 1) := by decide +kernel
theorem dS_lch_2 : decode bS_lch 2 = .ok (.arraylength, 1) := by decide +kernel
theorem dS_lch_3 : decode bS_lch 3 = .ok (.invokestatic 9, 3) := by decide +kernel
theorem dS_lch_6 : decode bS_lch 6 = .ok (.aload_n 0, 1) := by decide +kernel
theorem dS_lch_7 : decode bS_lch 7 = .ok (.iload_n 1, 1) := by decide +kernel
theorem dS_lch_8 : decode bS_lch 8 = .ok (.baload, 1) := by decide +kernel
theorem dS_lch_9 : decode bS_lch 9 = .ok (.sipush 255, 3) := by decide +kernel
theorem dS_lch_12 : decode bS_lch 12 = .ok (.iand, 1) := by decide +kernel
theorem dS_lch_13 : decode bS_lch 13 = .ok (.i2c, 1) := by decide +kernel
theorem dS_lch_14 : decode bS_lch 14 = .ok (.ireturn, 1) := by decide +kernel
def yS_sci : MethodName := ⟨"java/lang/String", "checkIndex", "(II)V"⟩
abbrev bS_sci : ByteArray := prog_18_method_155_code
abbrev wS_sci : List Cond := .code yS_sci bS_sci 2 none :: TsZ
theorem cS_sci : Cond.code yS_sci bS_sci 2 none ∈ TsZ := inT (i := 447) (by decide +kernel) rfl
theorem dS_sci_0 : decode bS_sci 0 = .ok (.iload_n 0, 1) := by decide +kernel
theorem dS_sci_1 : decode bS_sci 1 = .ok (.iload_n 1, 1) := by decide +kernel
theorem dS_sci_2 : decode bS_sci 2 = .ok (.getstatic 1053, 3) := by decide +kernel
theorem dS_sci_5 : decode bS_sci 5 = .ok (.invokestatic 1059, 3) := by decide +kernel
theorem dS_sci_8 : decode bS_sci 8 = .ok (.pop, 1) := by decide +kernel
theorem dS_sci_9 : decode bS_sci 9 = .ok (.return_, 1) := by decide +kernel
def yS_pci : MethodName := ⟨"jdk/internal/util/Preconditions", "checkIndex", "(IILjava/util/function/BiFunction;)I"⟩
abbrev bS_pci : ByteArray := prog_23_method_11_code
abbrev wS_pci : List Cond := .code yS_pci bS_pci 3 (some .int) :: TsZ
theorem cS_pci : Cond.code yS_pci bS_pci 3 (some .int) ∈ TsZ := inT (i := 452) (by decide +kernel) rfl
theorem dS_pci_0 : decode bS_pci 0 = .ok (.iload_n 0, 1) := by decide +kernel
theorem dS_pci_1 : decode bS_pci 1 = .ok (.ifCond .lt 8, 3) := by decide +kernel
theorem dS_pci_4 : decode bS_pci 4 = .ok (.iload_n 0, 1) := by decide +kernel
theorem dS_pci_5 : decode bS_pci 5 = .ok (.iload_n 1, 1) := by decide +kernel
theorem dS_pci_6 : decode bS_pci 6 = .ok (.if_icmp .lt 10, 3) := by decide +kernel
theorem dS_pci_16 : decode bS_pci 16 = .ok (.iload_n 0, 1) := by decide +kernel
theorem dS_pci_17 : decode bS_pci 17 = .ok (.ireturn, 1) := by decide +kernel
theorem c_coder (l : Launch) (g : GE) (i : Nat) (hi : i < 18) : Met l yS_coder wS_coder (rmS 0) (PcS g [.ref (gK g i)]) (QcRead 0) 0 0 (fun _ => False) := by
  refine Met.ofW (cc := bS_coder) (maxL := 1) (by decide) rfl ?_
  intro p e s m args below meth c s₁ B hml hv
  obtain ⟨rfl, hS1, hS2, hS3⟩ := hv
  have hx := B.exec
  have hb := B.bytes
  have hr := B.returns
  have hts := atoms_spec (ws := wS_coder) B.pre
  have hts' : ∀ w ∈ TsZ, w.before _ s = true := fun w hw => hts w (List.mem_cons_of_mem _ hw)
  have hown : s.vm.findClass "java/lang/String" = some m.cls := findClass_of_methodNamed B.named
  have hlocks := B.notSynchronized
  have hS : va_S (inW g) s.heap s.heap [] := va_S.rf
  have hl := lv_entry ([.ref (gK g i)]) (n := 1) (Nat.le_of_ble_eq_true rfl)
  rw [lg_entry_eq]
  generalize (lg_sl ([.ref (gK g i)]) ++ List.replicate (1 - (lg_sl ([.ref (gK g i)])).length) Slot.unset).toArray = ls at hl ⊢
  have hl : lv_has ls 1 [(0, .ref (gK g i))] := hl
  refine va_gets (v := .int 1) hx hb hS2 hS hown (hts' _ (inT (i := 432) (by decide +kernel) rfl)) (fun _ h => h) dS_coder_0 ?_
  refine lv_if_eq (tgt := 13) hx hb dS_coder_3 (by decide) (fun h => absurd h (by decide)) (fun _ => ?_)
  refine lv_aload_n hx hb dS_coder_6 rfl (lv_at hl 0 rfl) ?_
  refine vk_getf hx hb (hS1.1 i hi).2.1 hS hown (hts' _ (inT (i := 1793) (by decide +kernel) rfl)) (fun _ h => h) dS_coder_7 ?_
  refine lv_goto (tgt := 14) hx hb dS_coder_10 (by decide) ?_
  exact W.zret (v := 0) hx hb hr rfl (fun t ht hW => ⟨rfl, ht⟩) (fun _ h => by cases h) dS_coder_14
theorem shr0 (x : Int32) : x >>> ((0 : Int32) &&& 31) = x := by
  rw [show ((0 : Int32) &&& 31) = 0 by decide]
  exact Int32.shiftRight_zero
theorem c_length (l : Launch) (g : GE) (i : Nat) (hi : i < 18) : Met l yS_length wS_length (rmS 1) (PcS g [.ref (gK g i)]) (QcRead (nI (lnZ.getD i 0))) 0 0 (fun _ => False) := by
  refine Met.ofW (cc := bS_length) (maxL := 1) (by decide) rfl ?_
  intro p e s m args below meth c s₁ B hml hv
  obtain ⟨rfl, hS1, hS2, hS3⟩ := hv
  have hx := B.exec
  have hb := B.bytes
  have hr := B.returns
  have hts := atoms_spec (ws := wS_length) B.pre
  have hts' : ∀ w ∈ TsZ, w.before _ s = true := fun w hw => hts w (List.mem_cons_of_mem _ hw)
  have hown : s.vm.findClass "java/lang/String" = some m.cls := findClass_of_methodNamed B.named
  have hlocks := B.notSynchronized
  have hS : va_S (inW g) s.heap s.heap [] := va_S.rf
  have hl := lv_entry ([.ref (gK g i)]) (n := 1) (Nat.le_of_ble_eq_true rfl)
  rw [lg_entry_eq]
  generalize (lg_sl ([.ref (gK g i)]) ++ List.replicate (1 - (lg_sl ([.ref (gK g i)])).length) Slot.unset).toArray = ls at hl ⊢
  have hl : lv_has ls 1 [(0, .ref (gK g i))] := hl
  refine lv_aload_n hx hb dS_length_0 rfl (lv_at hl 0 rfl) ?_
  refine vk_getf hx hb (hS1.1 i hi).2.2.1 hS hown (hts' _ (inT (i := 1792) (by decide +kernel) rfl)) (fun _ h => h) dS_length_1 ?_
  refine va_tlen hx hb (hS1.1 i hi).2.2.2 hS rfl dS_length_4 ?_
  refine lv_aload_n hx hb dS_length_5 rfl (lv_at hl 0 rfl) ?_
  refine W_read (va_runV (C := "java/lang/String") (own := "java/lang/String") (As := []) ⟨hx, hb, hml, hown, hts⟩ (c_coder l g i hi) (cwV 0 hts (goodV (inT (i := 428) (by decide +kernel) rfl) (inT (i := 429) (by decide +kernel) rfl) (inT (i := 430) (by decide +kernel) rfl) (inT (i := 15) (by decide +kernel) rfl) cS_coder) rfl rfl rfl (by decide +kernel) ⟨Nat.le_of_ble_eq_true rfl, Nat.le_of_ble_eq_true rfl⟩) ⟨blindS, vk_recv hS1 hi hS, fun U hU hW => ⟨rfl, StrE.go ⟨hS1, hS2, hS3⟩ hS hU hW⟩⟩ rfl rfl hl.1 rfl (lv_room (Nat.le_of_ble_eq_true rfl)) dS_length_6 ⟨Nat.le_of_ble_eq_true rfl, Nat.le_of_ble_eq_true rfl⟩) ?_
  refine lv_ishr hx hb dS_length_9 ?_
  rw [shr0]
  exact W.iret hx hb hr (fun t ht hW => ⟨rfl, ht⟩) (fun _ h => by cases h) dS_length_10
theorem c_isL (l : Launch) (g : GE) (i : Nat) (hi : i < 18) : Met l yS_isL wS_isL (rmS 0) (PcS g [.ref (gK g i)]) (QcRead 1) 0 0 (fun _ => False) := by
  refine Met.ofW (cc := bS_isL) (maxL := 1) (by decide) rfl ?_
  intro p e s m args below meth c s₁ B hml hv
  obtain ⟨rfl, hS1, hS2, hS3⟩ := hv
  have hx := B.exec
  have hb := B.bytes
  have hr := B.returns
  have hts := atoms_spec (ws := wS_isL) B.pre
  have hts' : ∀ w ∈ TsZ, w.before _ s = true := fun w hw => hts w (List.mem_cons_of_mem _ hw)
  have hown : s.vm.findClass "java/lang/String" = some m.cls := findClass_of_methodNamed B.named
  have hlocks := B.notSynchronized
  have hS : va_S (inW g) s.heap s.heap [] := va_S.rf
  have hl := lv_entry ([.ref (gK g i)]) (n := 1) (Nat.le_of_ble_eq_true rfl)
  rw [lg_entry_eq]
  generalize (lg_sl ([.ref (gK g i)]) ++ List.replicate (1 - (lg_sl ([.ref (gK g i)])).length) Slot.unset).toArray = ls at hl ⊢
  have hl : lv_has ls 1 [(0, .ref (gK g i))] := hl
  refine va_gets (v := .int 1) hx hb hS2 hS hown (hts' _ (inT (i := 432) (by decide +kernel) rfl)) (fun _ h => h) dS_isL_0 ?_
  refine lv_if_eq (tgt := 17) hx hb dS_isL_3 (by decide) (fun h => absurd h (by decide)) (fun _ => ?_)
  refine lv_aload_n hx hb dS_isL_6 rfl (lv_at hl 0 rfl) ?_
  refine vk_getf hx hb (hS1.1 i hi).2.1 hS hown (hts' _ (inT (i := 1793) (by decide +kernel) rfl)) (fun _ h => h) dS_isL_7 ?_
  refine lv_if_ne (tgt := 17) hx hb dS_isL_10 (by decide) (fun h => absurd rfl h) (fun _ => ?_)
  refine lv_iconst (v := 1) hx hb dS_isL_13 (by decide) ?_
  refine lv_goto (tgt := 18) hx hb dS_isL_14 (by decide) ?_
  exact W.zret (v := 1) hx hb hr rfl (fun t ht hW => ⟨rfl, ht⟩) (fun _ h => by cases h) dS_isL_18
/-- Preconditions.checkIndex at an index that is in; the third argument is carried alone -/
theorem c_pciN (l : Launch) (g : GE) (x n : Int32) (hx0 : ¬ x < 0) (hxn : x < n) : Met l yS_pci wS_pci (rmS 0) (PcS g [.int x, .int n, .null]) (QcRead x) 0 0 (fun _ => False) := by
  refine Met.ofW (cc := bS_pci) (maxL := 3) (by decide) rfl ?_
  intro p e s m args below meth c s₁ B hml hv
  obtain ⟨rfl, hS1, hS2, hS3⟩ := hv
  have hx := B.exec
  have hb := B.bytes
  have hr := B.returns
  have hts := atoms_spec (ws := wS_pci) B.pre
  have hts' : ∀ w ∈ TsZ, w.before _ s = true := fun w hw => hts w (List.mem_cons_of_mem _ hw)
  have hown : s.vm.findClass "jdk/internal/util/Preconditions" = some m.cls := findClass_of_methodNamed B.named
  have hlocks := B.notSynchronized
  have hS : va_S (inW g) s.heap s.heap [] := va_S.rf
  have hl := lv_entry ([.int x, .int n, .null]) (n := 3) (Nat.le_of_ble_eq_true rfl)
  rw [lg_entry_eq]
  generalize (lg_sl ([.int x, .int n, .null]) ++ List.replicate (3 - (lg_sl ([.int x, .int n, .null])).length) Slot.unset).toArray = ls at hl ⊢
  have hl : lv_has ls 3 [(0, .int x), (1, .int n), (2, .null)] := hl
  refine lv_iload_n hx hb dS_pci_0 rfl (lv_at hl 0 rfl) ?_
  refine lv_if_lt (tgt := 9) hx hb dS_pci_1 (by decide) (fun h => absurd h hx0) (fun _ => ?_)
  refine lv_iload_n hx hb dS_pci_4 rfl (lv_at hl 0 rfl) ?_
  refine lv_iload_n hx hb dS_pci_5 rfl (lv_at hl 1 rfl) ?_
  refine lv_icmp_lt (tgt := 16) hx hb dS_pci_6 (by decide) (fun _ => ?_) (fun h => absurd hxn h)
  refine lv_iload_n hx hb dS_pci_16 rfl (lv_at hl 0 rfl) ?_
  exact W.iret hx hb hr (fun t ht hW => ⟨rfl, ht⟩) (fun _ h => by cases h) dS_pci_17
/-- Preconditions.checkIndex at an index that is in; the third argument is carried alone -/
theorem c_pciR (l : Launch) (g : GE) (x n : Int32) (t : Nat) (hx0 : ¬ x < 0) (hxn : x < n) : Met l yS_pci wS_pci (rmS 0) (PcS g [.int x, .int n, .ref t]) (QcRead x) 0 0 (fun _ => False) := by
  refine Met.ofW (cc := bS_pci) (maxL := 3) (by decide) rfl ?_
  intro p e s m args below meth c s₁ B hml hv
  obtain ⟨rfl, hS1, hS2, hS3⟩ := hv
  have hx := B.exec
  have hb := B.bytes
  have hr := B.returns
  have hts := atoms_spec (ws := wS_pci) B.pre
  have hts' : ∀ w ∈ TsZ, w.before _ s = true := fun w hw => hts w (List.mem_cons_of_mem _ hw)
  have hown : s.vm.findClass "jdk/internal/util/Preconditions" = some m.cls := findClass_of_methodNamed B.named
  have hlocks := B.notSynchronized
  have hS : va_S (inW g) s.heap s.heap [] := va_S.rf
  have hl := lv_entry ([.int x, .int n, .ref t]) (n := 3) (Nat.le_of_ble_eq_true rfl)
  rw [lg_entry_eq]
  generalize (lg_sl ([.int x, .int n, .ref t]) ++ List.replicate (3 - (lg_sl ([.int x, .int n, .ref t])).length) Slot.unset).toArray = ls at hl ⊢
  have hl : lv_has ls 3 [(0, .int x), (1, .int n), (2, .ref t)] := hl
  refine lv_iload_n hx hb dS_pci_0 rfl (lv_at hl 0 rfl) ?_
  refine lv_if_lt (tgt := 9) hx hb dS_pci_1 (by decide) (fun h => absurd h hx0) (fun _ => ?_)
  refine lv_iload_n hx hb dS_pci_4 rfl (lv_at hl 0 rfl) ?_
  refine lv_iload_n hx hb dS_pci_5 rfl (lv_at hl 1 rfl) ?_
  refine lv_icmp_lt (tgt := 16) hx hb dS_pci_6 (by decide) (fun _ => ?_) (fun h => absurd hxn h)
  refine lv_iload_n hx hb dS_pci_16 rfl (lv_at hl 0 rfl) ?_
  exact W.iret hx hb hr (fun t ht hW => ⟨rfl, ht⟩) (fun _ h => by cases h) dS_pci_17
theorem c_sci (l : Launch) (g : GE) (x n : Int32) (hx0 : ¬ x < 0) (hxn : x < n) : Met l yS_sci wS_sci (rmS 1) (PcS g [.int x, .int n]) QvS 0 0 (fun _ => False) := by
  refine Met.ofW (cc := bS_sci) (maxL := 2) (by decide) rfl ?_
  intro p e s m args below meth c s₁ B hml hv
  obtain ⟨rfl, hS1, hS2, hS3⟩ := hv
  have hx := B.exec
  have hb := B.bytes
  have hr := B.returns
  have hts := atoms_spec (ws := wS_sci) B.pre
  have hts' : ∀ w ∈ TsZ, w.before _ s = true := fun w hw => hts w (List.mem_cons_of_mem _ hw)
  have hown : s.vm.findClass "java/lang/String" = some m.cls := findClass_of_methodNamed B.named
  have hlocks := B.notSynchronized
  have hS : va_S (inW g) s.heap s.heap [] := va_S.rf
  have hl := lv_entry ([.int x, .int n]) (n := 2) (Nat.le_of_ble_eq_true rfl)
  rw [lg_entry_eq]
  generalize (lg_sl ([.int x, .int n]) ++ List.replicate (2 - (lg_sl ([.int x, .int n])).length) Slot.unset).toArray = ls at hl ⊢
  have hl : lv_has ls 2 [(0, .int x), (1, .int n)] := hl
  refine lv_iload_n hx hb dS_sci_0 rfl (lv_at hl 0 rfl) ?_
  refine lv_iload_n hx hb dS_sci_1 rfl (lv_at hl 1 rfl) ?_
  have hw : ∀ w ∈ TsZ, w.before #[Value.int x, Value.int n] s = true := hts'
  rcases hS3 with h | ⟨t, h⟩
  · refine va_gets (v := .null) hx hb h hS hown (hts' _ (inT (i := 448) (by decide +kernel) rfl)) (fun _ h => h) dS_sci_2 ?_
    refine W_read (va_runS (own := "java/lang/String") (As := [.int x, .int n, .null]) ⟨hx, hb, hml, hown, hts⟩ (c_pciN l g x n hx0 hxn) (va_cwS 3 hts (goodS (inT (i := 450) (by decide +kernel) rfl) (inT (i := 451) (by decide +kernel) rfl) (inT (i := 17) (by decide +kernel) rfl) cS_pci) rfl rfl rfl (by decide +kernel) ⟨Nat.le_of_ble_eq_true rfl, Nat.le_of_ble_eq_true rfl⟩) ⟨blindS, fun U hU hW => ⟨rfl, StrE.go ⟨hS1, hS2, Or.inl h⟩ hS hU hW⟩⟩ rfl rfl hl.1 rfl (lv_room (Nat.le_of_ble_eq_true rfl)) dS_sci_5 ⟨Nat.le_of_ble_eq_true rfl, Nat.le_of_ble_eq_true rfl⟩) ?_
    refine lv_pop hx hb dS_sci_8 rfl ?_
    exact W.vret hx hb hr (fun t ht hW => ⟨rfl, ht⟩) (fun _ h => by cases h) dS_sci_9
  · refine va_gets (v := .ref t) hx hb h hS hown (hts' _ (inT (i := 448) (by decide +kernel) rfl)) (fun _ h => h) dS_sci_2 ?_
    refine W_read (va_runS (own := "java/lang/String") (As := [.int x, .int n, .ref t]) ⟨hx, hb, hml, hown, hts⟩ (c_pciR l g x n t hx0 hxn) (va_cwS 3 hts (goodS (inT (i := 450) (by decide +kernel) rfl) (inT (i := 451) (by decide +kernel) rfl) (inT (i := 17) (by decide +kernel) rfl) cS_pci) rfl rfl rfl (by decide +kernel) ⟨Nat.le_of_ble_eq_true rfl, Nat.le_of_ble_eq_true rfl⟩) ⟨blindS, fun U hU hW => ⟨rfl, StrE.go ⟨hS1, hS2, Or.inr ⟨t, h⟩⟩ hS hU hW⟩⟩ rfl rfl hl.1 rfl (lv_room (Nat.le_of_ble_eq_true rfl)) dS_sci_5 ⟨Nat.le_of_ble_eq_true rfl, Nat.le_of_ble_eq_true rfl⟩) ?_
    refine lv_pop hx hb dS_sci_8 rfl ?_
    exact W.vret hx hb hr (fun t ht hW => ⟨rfl, ht⟩) (fun _ h => by cases h) dS_sci_9
theorem byZ_ok : ∀ i, i < 18 → (byZ.getD i []).length = lnZ.getD i 0 ∧ lnZ.getD i 0 < 1000 ∧ ∀ j, j < lnZ.getD i 0 → (((byZ.getD i []).getD j 0 &&& 255).toUInt32 % 65536).toInt32 = nI ((strZ.getD i []).getD j 0) ∧ narrow .char (.int (nI ((strZ.getD i []).getD j 0))) = .int (nI ((strZ.getD i []).getD j 0)) := by decide +kernel
theorem c_lch (l : Launch) (g : GE) (i : Nat) (hi : i < 18) (j : Nat) (hj : j < lnZ.getD i 0) : Met l yS_lch wS_lch (rmS 2) (PcS g [.ref (gV g i), .int (nI j)]) (QcRead (nI ((strZ.getD i []).getD j 0))) 0 0 (fun _ => False) := by
  refine Met.ofW (cc := bS_lch) (maxL := 2) (by decide) rfl ?_
  intro p e s m args below meth c s₁ B hml hv
  obtain ⟨rfl, hS1, hS2, hS3⟩ := hv
  have hx := B.exec
  have hb := B.bytes
  have hr := B.returns
  have hts := atoms_spec (ws := wS_lch) B.pre
  have hts' : ∀ w ∈ TsZ, w.before _ s = true := fun w hw => hts w (List.mem_cons_of_mem _ hw)
  have hown : s.vm.findClass "java/lang/StringLatin1" = some m.cls := findClass_of_methodNamed B.named
  have hlocks := B.notSynchronized
  have hS : va_S (inW g) s.heap s.heap [] := va_S.rf
  have hl := lv_entry ([.ref (gV g i), .int (nI j)]) (n := 2) (Nat.le_of_ble_eq_true rfl)
  rw [lg_entry_eq]
  generalize (lg_sl ([.ref (gV g i), .int (nI j)]) ++ List.replicate (2 - (lg_sl ([.ref (gV g i), .int (nI j)])).length) Slot.unset).toArray = ls at hl ⊢
  have hl : lv_has ls 2 [(0, .ref (gV g i)), (1, .int (nI j))] := hl
  obtain ⟨b1, b2, b3⟩ := byZ_ok i hi
  obtain ⟨b4, b5⟩ := b3 j hj
  refine lv_iload_n hx hb dS_lch_0 rfl (lv_at hl 1 rfl) ?_
  refine lv_aload_n hx hb dS_lch_1 rfl (lv_at hl 0 rfl) ?_
  refine va_tlen hx hb (hS1.1 i hi).2.2.2 hS rfl dS_lch_2 ?_
  refine W_readV (va_runS (own := "java/lang/StringLatin1") (As := [.int (nI j), .int (nI (lnZ.getD i 0))]) ⟨hx, hb, hml, hown, hts⟩ (c_sci l g (nI j) (nI (lnZ.getD i 0)) (nI_pos (by omega)) (nI_lt hj (by omega))) (va_cwS 2 hts (goodS (inT (i := 445) (by decide +kernel) rfl) (inT (i := 446) (by decide +kernel) rfl) (inT (i := 15) (by decide +kernel) rfl) cS_sci) rfl rfl rfl (by decide +kernel) ⟨Nat.le_of_ble_eq_true rfl, Nat.le_of_ble_eq_true rfl⟩) ⟨blindS, fun U hU hW => ⟨rfl, StrE.go ⟨hS1, hS2, hS3⟩ hS hU hW⟩⟩ rfl rfl hl.1 rfl (lv_room (Nat.le_of_ble_eq_true rfl)) dS_lch_3 ⟨Nat.le_of_ble_eq_true rfl, Nat.le_of_ble_eq_true rfl⟩) ?_
  refine lv_aload_n hx hb dS_lch_6 rfl (lv_at hl 0 rfl) ?_
  refine lv_iload_n hx hb dS_lch_7 rfl (lv_at hl 1 rfl) ?_
  refine va_tb hx hb (hS1.1 i hi).2.2.2 hS (vp_in_nI hj (by omega)) (v := .int ((byZ.getD i []).getD j 0)) (by rw [nI_clamp (by omega)]) dS_lch_8 ?_
  refine lv_sipush (v := 255) hx hb dS_lch_9 (by decide) ?_
  refine lv_iand hx hb dS_lch_12 ?_
  refine lv_i2c hx hb dS_lch_13 b4 ?_
  exact W.zret hx hb hr b5 (fun t ht hW => ⟨rfl, ht⟩) (fun _ h => by cases h) dS_lch_14
theorem c_charAt (l : Launch) (g : GE) (i : Nat) (hi : i < 18) (j : Nat) (hj : j < lnZ.getD i 0) : Met l yS_charAt wS_charAt (rmS 3) (PcS g [.ref (gK g i), .int (nI j)]) (QcRead (nI ((strZ.getD i []).getD j 0))) 0 0 (fun _ => False) := by
  refine Met.ofW (cc := bS_charAt) (maxL := 2) (by decide) rfl ?_
  intro p e s m args below meth c s₁ B hml hv
  obtain ⟨rfl, hS1, hS2, hS3⟩ := hv
  have hx := B.exec
  have hb := B.bytes
  have hr := B.returns
  have hts := atoms_spec (ws := wS_charAt) B.pre
  have hts' : ∀ w ∈ TsZ, w.before _ s = true := fun w hw => hts w (List.mem_cons_of_mem _ hw)
  have hown : s.vm.findClass "java/lang/String" = some m.cls := findClass_of_methodNamed B.named
  have hlocks := B.notSynchronized
  have hS : va_S (inW g) s.heap s.heap [] := va_S.rf
  have hl := lv_entry ([.ref (gK g i), .int (nI j)]) (n := 2) (Nat.le_of_ble_eq_true rfl)
  rw [lg_entry_eq]
  generalize (lg_sl ([.ref (gK g i), .int (nI j)]) ++ List.replicate (2 - (lg_sl ([.ref (gK g i), .int (nI j)])).length) Slot.unset).toArray = ls at hl ⊢
  have hl : lv_has ls 2 [(0, .ref (gK g i)), (1, .int (nI j))] := hl
  obtain ⟨b1, b2, b3⟩ := byZ_ok i hi
  obtain ⟨b4, b5⟩ := b3 j hj
  refine lv_aload_n hx hb dS_charAt_0 rfl (lv_at hl 0 rfl) ?_
  refine W_read (va_runV (C := "java/lang/String") (own := "java/lang/String") (As := []) ⟨hx, hb, hml, hown, hts⟩ (c_isL l g i hi) (cwV 0 hts (goodV (inT (i := 438) (by decide +kernel) rfl) (inT (i := 439) (by decide +kernel) rfl) (inT (i := 440) (by decide +kernel) rfl) (inT (i := 15) (by decide +kernel) rfl) cS_isL) rfl rfl rfl (by decide +kernel) ⟨Nat.le_of_ble_eq_true rfl, Nat.le_of_ble_eq_true rfl⟩) ⟨blindS, vk_recv hS1 hi hS, fun U hU hW => ⟨rfl, StrE.go ⟨hS1, hS2, hS3⟩ hS hU hW⟩⟩ rfl rfl hl.1 rfl (lv_room (Nat.le_of_ble_eq_true rfl)) dS_charAt_1 ⟨Nat.le_of_ble_eq_true rfl, Nat.le_of_ble_eq_true rfl⟩) ?_
  refine W.eq (g2 := F0 m 4 ls [.int 1]) rfl ?_
  refine lv_if_eq (tgt := 16) hx hb dS_charAt_4 (by decide) (fun h => absurd h (by decide)) (fun _ => ?_)
  refine lv_aload_n hx hb dS_charAt_7 rfl (lv_at hl 0 rfl) ?_
  refine vk_getf hx hb (hS1.1 i hi).2.2.1 hS hown (hts' _ (inT (i := 1792) (by decide +kernel) rfl)) (fun _ h => h) dS_charAt_8 ?_
  refine lv_iload_n hx hb dS_charAt_11 rfl (lv_at hl 1 rfl) ?_
  refine W_read (va_runS (own := "java/lang/String") (As := [.ref (gV g i), .int (nI j)]) ⟨hx, hb, hml, hown, hts⟩ (c_lch l g i hi j hj) (va_cwS 2 hts (goodS (inT (i := 442) (by decide +kernel) rfl) (inT (i := 443) (by decide +kernel) rfl) (inT (i := 16) (by decide +kernel) rfl) cS_lch) rfl rfl rfl (by decide +kernel) ⟨Nat.le_of_ble_eq_true rfl, Nat.le_of_ble_eq_true rfl⟩) ⟨blindS, fun U hU hW => ⟨rfl, StrE.go ⟨hS1, hS2, hS3⟩ hS hU hW⟩⟩ rfl rfl hl.1 rfl (lv_room (Nat.le_of_ble_eq_true rfl)) dS_charAt_12 ⟨Nat.le_of_ble_eq_true rfl, Nat.le_of_ble_eq_true rfl⟩) ?_
  exact W.zret hx hb hr b5 (fun t ht hW => ⟨rfl, ht⟩) (fun _ h => by cases h) dS_charAt_15
section SIM6
variable {X : MC} {g : GE} {M : MI} {cc : ByteArray} {E : AS} {pc len : Nat} {ls r : List Value} {s : AS}
theorem StrE.of (hE : EnvZ g (xs X) (xa X)) : StrE g (xs X) := ⟨hE.2.2.2.2.1.1, hE.2.2.2.2.2.2.2.1.1, hE.2.2.2.2.2.2.2.1.2⟩
theorem conV_str {a : Nat} (h : isStr a) : conV g (.ref a) = .ref (gK g (a - strB)) := by
  show rfZ g a = _
  unfold isStr strB at h
  unfold rfZ adZ strB
  rw [if_neg (by omega), if_neg (by omega), if_neg (by omega), if_neg (by omega)]
theorem lnZ_str {a : Nat} (h : isStr a) : lnZ.getD (a - strB) 0 = (strOf a).length := by
  unfold isStr at h
  have : ∀ i, i < 18 → lnZ.getD i 0 = (strZ.getD i []).length := by decide +kernel
  exact this _ (by omega)
theorem z_slen (C : CtxZ X g M cc) (HP : PrmZ M.2.1 (xs X) (xa X)) {k na : Nat} (hM : M.1 pc = some (.invokevirtual k, len)) (hx : lkC M.2.1 k = some (0, 6, na)) {a : Nat} (hw : stW (.ref a :: r) ≤ 8) (hg : isStr a) (hb : sX s - sX E ≤ (xR X).cells ∧ sZ s - sZ E ≤ (xR X).slots)
    (kk : AtZ X g E M.2.2.1 (pc + 3) ls (.int (nI (strOf a).length) :: r) s) : AtZ X g E M.2.2.1 pc ls (.ref a :: r) s := by
  intro A H locs h1 h2 h3 h4 h5 h6
  have hE : EnvZ g (xs X) (xa X) := C.2.2.2.2.2.2.2.2.1
  have hR := C.2.2.2.2.2.2.2.2.2
  have hcat := catW (g := g) r
  have hw' : stW r + 1 ≤ 8 := hw
  have hi : a - strB < 18 := by unfold isStr at hg; omega
  have kk := kk A H locs h1 h2 h3 h4 h5 h6
  rw [List.map_cons, conV_str hg]
  rw [← lnZ_str hg] at kk
  have hl : (Cond.methodLink (ownZ M.2.1) k yS_length).before (xa X) (xs X) = true := HP k 6 na hx
  have ht := hE.2.1
  refine W_read (va_runV (C := "java/lang/String") (own := ownZ M.2.1) (Ts := TsZ) (As := []) ⟨C.1, C.2.1, C.2.2.1, C.2.2.2.1, ht⟩ (c_length X.2.1 g _ hi) ⟨callB_of 0 ht (fun w hw => ?_) rfl rfl rfl (ht _ (inT (i := 15) (by decide +kernel) rfl)) hl (by decide +kernel) ⟨show 1 + 1 ≤ (xR X).frames by omega, show 8 + (1 + 11) + 64 * 1 ≤ (xR X).locals by omega⟩, ht _ (inT (i := 425) (by decide +kernel) rfl), ht _ (inT (i := 426) (by decide +kernel) rfl)⟩ ⟨blindS, vk_recv hE.2.2.2.2.1.1 hi h4, fun U hU hW => ⟨rfl, StrE.go (StrE.of hE) h4 hU hW⟩⟩ rfl rfl (by rw [← h2]; exact h1.1) rfl (by show 2 * 0 + _ ≤ 8; omega) (C.dec hM (by simp [lenI])) ⟨hb.1, hb.2⟩) kk
  rcases List.mem_cons.mp hw with rfl | hw
  · exact ⟨cS_length, goodT cS_length⟩
  · exact ⟨hw, goodT hw⟩
theorem z_sch (C : CtxZ X g M cc) (HP : PrmZ M.2.1 (xs X) (xa X)) {k na : Nat} (hM : M.1 pc = some (.invokevirtual k, len)) (hx : lkC M.2.1 k = some (0, 7, na)) {a : Nat} {i : Int32} (hw : stW (.int i :: .ref a :: r) ≤ 8) (hg : isStr a ∧ vp_in i (strOf a).length) (hb : sX s - sX E ≤ (xR X).cells ∧ sZ s - sZ E ≤ (xR X).slots)
    (kk : AtZ X g E M.2.2.1 (pc + 3) ls (.int (nI ((strOf a).getD i.toNatClampNeg 0)) :: r) s) : AtZ X g E M.2.2.1 pc ls (.int i :: .ref a :: r) s := by
  intro A H locs h1 h2 h3 h4 h5 h6
  have hE : EnvZ g (xs X) (xa X) := C.2.2.2.2.2.2.2.2.1
  have hR := C.2.2.2.2.2.2.2.2.2
  have hcat := catW (g := g) r
  have hw' : stW r + 1 + 1 ≤ 8 := hw
  obtain ⟨hg, hin⟩ := hg
  have hi : a - strB < 18 := by unfold isStr at hg; omega
  have hlen := lnZ_str hg
  have hsm := (byZ_ok _ hi).2.1
  obtain ⟨j, hj, rfl⟩ := vp_in_of hin (by omega)
  have kk := kk A H locs h1 h2 h3 h4 h5 h6
  rw [nI_clamp (by omega)] at kk
  rw [List.map_cons, List.map_cons, conV_str hg]
  have hl : (Cond.methodLink (ownZ M.2.1) k yS_charAt).before (xa X) (xs X) = true := HP k 7 na hx
  have ht := hE.2.1
  refine W_read (va_runV (C := "java/lang/String") (own := ownZ M.2.1) (Ts := TsZ) (As := [.int (nI j)]) ⟨C.1, C.2.1, C.2.2.1, C.2.2.2.1, ht⟩ (c_charAt X.2.1 g _ hi j (by omega)) ⟨callB_of 1 ht (fun w hw => ?_) rfl rfl rfl (ht _ (inT (i := 15) (by decide +kernel) rfl)) hl (by decide +kernel) ⟨show 3 + 1 ≤ (xR X).frames by omega, show 8 + (2 + 11) + 64 * 3 ≤ (xR X).locals by omega⟩, ht _ (inT (i := 435) (by decide +kernel) rfl), ht _ (inT (i := 436) (by decide +kernel) rfl)⟩ ⟨blindS, vk_recv hE.2.2.2.2.1.1 hi h4, fun U hU hW => ⟨rfl, StrE.go (StrE.of hE) h4 hU hW⟩⟩ rfl rfl (by rw [← h2]; exact h1.1) rfl (by show 2 * 0 + _ ≤ 8; omega) (C.dec hM (by simp [lenI])) ⟨hb.1, hb.2⟩) kk
  rcases List.mem_cons.mp hw with rfl | hw
  · exact ⟨cS_charAt, goodT cS_charAt⟩
  · exact ⟨hw, goodT hw⟩
end SIM6
