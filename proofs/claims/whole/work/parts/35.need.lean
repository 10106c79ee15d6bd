/-! THE CLASS'S PRIVATE METHODS -/
theorem k_nlt {a b : Int32} (h : b ≤ a) : ¬ a < b := Int32.not_lt.mpr h
theorem k_nlt2 {a b : Int32} (h : ¬ a < b) : b ≤ a := Int32.not_lt.mp h
theorem iwX6_needNode_6 : ∀ w ∈ wsX60, w ∈ wsX6_needNode := by decide +kernel
set_option maxHeartbeats 4000000 in
set_option maxRecDepth 100000 in
theorem c_X6_needNode (l : Launch) (hst : l.stackTraces = false) (D : va_G) (κ : Nat → ClassId) (sz : Nat) (q0 qh qr ql qe : Nat) (q : Nat → Nat) (so le gr ne si ou bo : Nat → Int32) (n om ob : Nat) (p0 : Int32) (hn : n ≤ 400) (hom : om ≤ 40) (hob : ob ≤ om) : k_xuv (S := Unit) l yX6_needNode wsX6_needNode 6 90 1 6 D κ [.ref q0, .int p0] (List.flatten [wO q0 (q 0) qh qr ql qe, wG κ q so le gr ne si ou bo n om ob]) sz (fun (_ : Unit) => ¬ p0 < 0 ∧ ¬ nI n ≤ p0) (fun u => List.flatten [wO q0 (q 0) qh qr ql qe, wG κ q so le gr ne si ou bo n om ob]) (fun E => E = "java/lang/IndexOutOfBoundsException" ∧ (p0 < 0 ∨ nI n ≤ p0)) := by
  refine vx_ofW (cc := cX6_needNode) (maxL := 2) (ret := none) (by decide) rfl ?_
  intro p e s m args below meth c s₁ B hml hnx hv
  obtain ⟨rfl, ⟨hsz, hK, hP, hD0⟩, hX⟩ := hv
  have hx := B.exec
  have hb := B.bytes
  have hr := B.returns
  have hts := atoms_spec (ws := wsX6_needNode) B.pre
  have hown : s.vm.findClass RX6 = some m.cls := findClass_of_methodNamed B.named
  have hlocks := B.notSynchronized
  subst hsz
  have hD := hD0.self (sz := s.heap.size)
  generalize hAe : va_A (List.flatten [wO q0 (q 0) qh qr ql qe, wG κ q so le gr ne si ou bo n om ob]) s.heap.size = A at hD hX ⊢
  have hA : ∀ q : Nat, s.heap.size ≤ q → A q := fun q h => by rw [← hAe]; exact Or.inr h
  have hS : va_S A s.heap s.heap [] := va_S.rf
  have hP : va_P D vwCl (List.flatten [wO q0 (q 0) qh qr ql qe, wG κ q so le gr ne si ou bo n om ob]) s.heap := hP
  have hl := lv_entry ([.ref q0, .int p0]) (n := 2) (Nat.le_of_ble_eq_true rfl)
  rw [lg_entry_eq]
  generalize (lg_sl ([.ref q0, .int p0]) ++ List.replicate (2 - (lg_sl ([.ref q0, .int p0])).length) Slot.unset).toArray = ls at hl ⊢
  have hl : lv_has ls 2 [(0, .ref q0), (1, .int p0)] := hl
  refine lv_iload_n hx hb dX6_needNode_0 rfl (lv_at hl 1 rfl) ?_
  refine lv_if_lt (tgt := 15) hx hb dX6_needNode_1 (by decide) (fun c_1 => ?_) (fun c_1 => ?_)
  · skip
    exact k_throw (D := D) (E := "java/lang/IndexOutOfBoundsException") (text := "there never was such a node") (ik := 89) (is := 213) (ic := 93) hx hb hst hown (by decide) (by decide) (hts (.classLink RX6 89 "java/lang/IndexOutOfBoundsException") (by decide +kernel)) (hts (.initialized "java/lang/IndexOutOfBoundsException") (by decide +kernel)) (fun w hw => hts w (List.mem_cons_of_mem _ (List.mem_append_right _ hw))) k_bad_I k_good_I (by decide +kernel) hX hP hD hS (by rw [hml]; exact hl.1) dX6_needNode_15 dX6_needNode_18 dX6_needNode_19 dX6_needNode_21 dX6_needNode_24 hnx (Nat.le_of_ble_eq_true rfl) (Nat.le_of_ble_eq_true rfl) (Nat.le_of_ble_eq_true rfl) (Nat.le_of_ble_eq_true rfl) (Nat.le_of_ble_eq_true rfl) hlocks (⟨rfl, Or.inl c_1⟩) (Nat.le_of_ble_eq_true rfl) (Nat.le_of_ble_eq_true rfl)
  · skip
    refine lv_iload_n hx hb dX6_needNode_4 rfl (lv_at hl 1 rfl) ?_
    refine lv_aload_n hx hb dX6_needNode_5 rfl (lv_at hl 0 rfl) ?_
    refine va_get (D := D) (ci := 6) (v := .ref (q 0)) (C := RX6) (T := TX6) (N := 5) hx hb hts (iwX6_needNode_6) hown hK.1 hP 0 rfl rfl 0 (by decide) (hts (.fieldLink RX6 12 "InverterGraphs" "graph" "LInverterGraphs$Graph;") (by decide +kernel)) (fun _ h9 => h9) rfl dX6_needNode_6 ?_
    refine k_cRO (D := D) (κ := κ) (qc := (RX1, TX1, 10)) (ci := 1) (q0 := 0) ⟨hx, hb, hml, hown, hts⟩ (c_X1_nodesGiven l D κ q so le gr ne si ou bo n om ob  (by omega) (by omega) (by omega)) (cwV 0 hts gX6_needNode_X1_nodesGiven rfl rfl rfl (by decide +kernel) ⟨Nat.le_of_ble_eq_true rfl, Nat.le_of_ble_eq_true rfl⟩) hK (k_sub1 (S := wG κ q so le gr ne si ou bo n om ob) hP 1 rfl) rfl rfl (As := []) (rest := [.int p0]) rfl rfl hl.1 (Nat.le_of_ble_eq_true rfl) dX6_needNode_9 ⟨Nat.le_of_ble_eq_true rfl, Nat.le_of_ble_eq_true rfl⟩ (fun r hr => ?_)
    subst hr
    refine lv_icmp_lt (tgt := 25) hx hb dX6_needNode_12 (by decide) (fun c_12 => ?_) (fun c_12 => ?_)
    · skip
      refine vx_ret ?_
      refine W.widen (k := 1) (n := 6) (by omega) (by omega) ?_
      exact W.vret hx hb hr (fun t ht hW => ⟨⟨(), rfl, ⟨c_1, fun h => absurd c_12 (k_nlt h)⟩, by rw [ht]; exact hP, hD⟩, hS.F ht⟩) hS.2.2 dX6_needNode_25
    · skip
      exact k_throw (D := D) (E := "java/lang/IndexOutOfBoundsException") (text := "there never was such a node") (ik := 89) (is := 213) (ic := 93) hx hb hst hown (by decide) (by decide) (hts (.classLink RX6 89 "java/lang/IndexOutOfBoundsException") (by decide +kernel)) (hts (.initialized "java/lang/IndexOutOfBoundsException") (by decide +kernel)) (fun w hw => hts w (List.mem_cons_of_mem _ (List.mem_append_right _ hw))) k_bad_I k_good_I (by decide +kernel) hX hP hD hS (by rw [hml]; exact hl.1) dX6_needNode_15 dX6_needNode_18 dX6_needNode_19 dX6_needNode_21 dX6_needNode_24 hnx (Nat.le_of_ble_eq_true rfl) (Nat.le_of_ble_eq_true rfl) (Nat.le_of_ble_eq_true rfl) (Nat.le_of_ble_eq_true rfl) (Nat.le_of_ble_eq_true rfl) hlocks (⟨rfl, Or.inr (k_nlt2 c_12)⟩) (Nat.le_of_ble_eq_true rfl) (Nat.le_of_ble_eq_true rfl)
theorem iwX6_needLiteral_6 : ∀ w ∈ wsX60, w ∈ wsX6_needLiteral := by decide +kernel
set_option maxHeartbeats 4000000 in
set_option maxRecDepth 100000 in
theorem c_X6_needLiteral (l : Launch) (hst : l.stackTraces = false) (D : va_G) (κ : Nat → ClassId) (sz : Nat) (q0 qh qr ql qe : Nat) (q : Nat → Nat) (so le gr ne si ou bo : Nat → Int32) (n om ob : Nat) (p0 : Int32) (hn : n ≤ 400) (hom : om ≤ 40) (hob : ob ≤ om) : k_xuv (S := Unit) l yX6_needLiteral wsX6_needLiteral 6 90 1 6 D κ [.ref q0, .int p0] (List.flatten [wO q0 (q 0) qh qr ql qe, wG κ q so le gr ne si ou bo n om ob]) sz (fun (_ : Unit) => ¬ p0 < 0 ∧ ¬ nI n ≤ k_nodeOf p0) (fun u => List.flatten [wO q0 (q 0) qh qr ql qe, wG κ q so le gr ne si ou bo n om ob]) (fun E => E = "java/lang/IndexOutOfBoundsException" ∧ (p0 < 0 ∨ nI n ≤ k_nodeOf p0)) := by
  refine vx_ofW (cc := cX6_needLiteral) (maxL := 2) (ret := none) (by decide) rfl ?_
  intro p e s m args below meth c s₁ B hml hnx hv
  obtain ⟨rfl, ⟨hsz, hK, hP, hD0⟩, hX⟩ := hv
  have hx := B.exec
  have hb := B.bytes
  have hr := B.returns
  have hts := atoms_spec (ws := wsX6_needLiteral) B.pre
  have hown : s.vm.findClass RX6 = some m.cls := findClass_of_methodNamed B.named
  have hlocks := B.notSynchronized
  subst hsz
  have hD := hD0.self (sz := s.heap.size)
  generalize hAe : va_A (List.flatten [wO q0 (q 0) qh qr ql qe, wG κ q so le gr ne si ou bo n om ob]) s.heap.size = A at hD hX ⊢
  have hA : ∀ q : Nat, s.heap.size ≤ q → A q := fun q h => by rw [← hAe]; exact Or.inr h
  have hS : va_S A s.heap s.heap [] := va_S.rf
  have hP : va_P D vwCl (List.flatten [wO q0 (q 0) qh qr ql qe, wG κ q so le gr ne si ou bo n om ob]) s.heap := hP
  have hl := lv_entry ([.ref q0, .int p0]) (n := 2) (Nat.le_of_ble_eq_true rfl)
  rw [lg_entry_eq]
  generalize (lg_sl ([.ref q0, .int p0]) ++ List.replicate (2 - (lg_sl ([.ref q0, .int p0])).length) Slot.unset).toArray = ls at hl ⊢
  have hl : lv_has ls 2 [(0, .ref q0), (1, .int p0)] := hl
  refine lv_iload_n hx hb dX6_needLiteral_0 rfl (lv_at hl 1 rfl) ?_
  refine lv_if_lt (tgt := 18) hx hb dX6_needLiteral_1 (by decide) (fun c_1 => ?_) (fun c_1 => ?_)
  · skip
    exact k_throw (D := D) (E := "java/lang/IndexOutOfBoundsException") (text := "there never was a node of this literal") (ik := 89) (is := 215) (ic := 93) hx hb hst hown (by decide) (by decide) (hts (.classLink RX6 89 "java/lang/IndexOutOfBoundsException") (by decide +kernel)) (hts (.initialized "java/lang/IndexOutOfBoundsException") (by decide +kernel)) (fun w hw => hts w (List.mem_cons_of_mem _ (List.mem_append_right _ hw))) k_bad_I k_good_I (by decide +kernel) hX hP hD hS (by rw [hml]; exact hl.1) dX6_needLiteral_18 dX6_needLiteral_21 dX6_needLiteral_22 dX6_needLiteral_24 dX6_needLiteral_27 hnx (Nat.le_of_ble_eq_true rfl) (Nat.le_of_ble_eq_true rfl) (Nat.le_of_ble_eq_true rfl) (Nat.le_of_ble_eq_true rfl) (Nat.le_of_ble_eq_true rfl) hlocks (⟨rfl, Or.inl c_1⟩) (Nat.le_of_ble_eq_true rfl) (Nat.le_of_ble_eq_true rfl)
  · skip
    refine lv_iload_n hx hb dX6_needLiteral_4 rfl (lv_at hl 1 rfl) ?_
    refine k_cST ⟨hx, hb, hml, hown, hts⟩ (c_X6_nodeOf l p0) (va_cwS 1 hts gX6_needLiteral_X6_nodeOf rfl rfl rfl (by decide +kernel) ⟨Nat.le_of_ble_eq_true rfl, Nat.le_of_ble_eq_true rfl⟩) (As := [.int p0]) (rest := []) rfl rfl hl.1 (Nat.le_of_ble_eq_true rfl) dX6_needLiteral_5 ⟨Nat.le_of_ble_eq_true rfl, Nat.le_of_ble_eq_true rfl⟩ (fun r hr => ?_)
    subst hr
    refine lv_aload_n hx hb dX6_needLiteral_8 rfl (lv_at hl 0 rfl) ?_
    refine va_get (D := D) (ci := 6) (v := .ref (q 0)) (C := RX6) (T := TX6) (N := 5) hx hb hts (iwX6_needLiteral_6) hown hK.1 hP 0 rfl rfl 0 (by decide) (hts (.fieldLink RX6 12 "InverterGraphs" "graph" "LInverterGraphs$Graph;") (by decide +kernel)) (fun _ h9 => h9) rfl dX6_needLiteral_9 ?_
    refine k_cRO (D := D) (κ := κ) (qc := (RX1, TX1, 10)) (ci := 1) (q0 := 0) ⟨hx, hb, hml, hown, hts⟩ (c_X1_nodesGiven l D κ q so le gr ne si ou bo n om ob  (by omega) (by omega) (by omega)) (cwV 0 hts gX6_needLiteral_X1_nodesGiven rfl rfl rfl (by decide +kernel) ⟨Nat.le_of_ble_eq_true rfl, Nat.le_of_ble_eq_true rfl⟩) hK (k_sub1 (S := wG κ q so le gr ne si ou bo n om ob) hP 1 rfl) rfl rfl (As := []) (rest := [.int (k_nodeOf p0)]) rfl rfl hl.1 (Nat.le_of_ble_eq_true rfl) dX6_needLiteral_12 ⟨Nat.le_of_ble_eq_true rfl, Nat.le_of_ble_eq_true rfl⟩ (fun r hr => ?_)
    subst hr
    refine lv_icmp_lt (tgt := 28) hx hb dX6_needLiteral_15 (by decide) (fun c_15 => ?_) (fun c_15 => ?_)
    · skip
      refine vx_ret ?_
      refine W.widen (k := 1) (n := 6) (by omega) (by omega) ?_
      exact W.vret hx hb hr (fun t ht hW => ⟨⟨(), rfl, ⟨c_1, fun h => absurd c_15 (k_nlt h)⟩, by rw [ht]; exact hP, hD⟩, hS.F ht⟩) hS.2.2 dX6_needLiteral_28
    · skip
      exact k_throw (D := D) (E := "java/lang/IndexOutOfBoundsException") (text := "there never was a node of this literal") (ik := 89) (is := 215) (ic := 93) hx hb hst hown (by decide) (by decide) (hts (.classLink RX6 89 "java/lang/IndexOutOfBoundsException") (by decide +kernel)) (hts (.initialized "java/lang/IndexOutOfBoundsException") (by decide +kernel)) (fun w hw => hts w (List.mem_cons_of_mem _ (List.mem_append_right _ hw))) k_bad_I k_good_I (by decide +kernel) hX hP hD hS (by rw [hml]; exact hl.1) dX6_needLiteral_18 dX6_needLiteral_21 dX6_needLiteral_22 dX6_needLiteral_24 dX6_needLiteral_27 hnx (Nat.le_of_ble_eq_true rfl) (Nat.le_of_ble_eq_true rfl) (Nat.le_of_ble_eq_true rfl) (Nat.le_of_ble_eq_true rfl) (Nat.le_of_ble_eq_true rfl) hlocks (⟨rfl, Or.inr (k_nlt2 c_15)⟩) (Nat.le_of_ble_eq_true rfl) (Nat.le_of_ble_eq_true rfl)
theorem iwX6_needStanding_6 : ∀ w ∈ wsX60, w ∈ wsX6_needStanding := by decide +kernel
set_option maxHeartbeats 4000000 in
set_option maxRecDepth 100000 in
theorem c_X6_needStanding (l : Launch) (hst : l.stackTraces = false) (D : va_G) (κ : Nat → ClassId) (sz : Nat) (q0 qh qr ql qe : Nat) (q : Nat → Nat) (so le gr ne si ou bo : Nat → Int32) (n om ob : Nat) (p0 : Int32) (hn : n ≤ 400) (hom : om ≤ 40) (hob : ob ≤ om) : k_xuv (S := Unit) l yX6_needStanding wsX6_needStanding 6 90 1 6 D κ [.ref q0, .int p0] (List.flatten [wO q0 (q 0) qh qr ql qe, wG κ q so le gr ne si ou bo n om ob]) sz (fun (_ : Unit) => ¬ k_cat 400 so p0 = 5) (fun u => List.flatten [wO q0 (q 0) qh qr ql qe, wG κ q so le gr ne si ou bo n om ob]) (fun E => E = "java/lang/IllegalArgumentException" ∧ k_cat 400 so p0 = 5) := by
  refine vx_ofW (cc := cX6_needStanding) (maxL := 2) (ret := none) (by decide) rfl ?_
  intro p e s m args below meth c s₁ B hml hnx hv
  obtain ⟨rfl, ⟨hsz, hK, hP, hD0⟩, hX⟩ := hv
  have hx := B.exec
  have hb := B.bytes
  have hr := B.returns
  have hts := atoms_spec (ws := wsX6_needStanding) B.pre
  have hown : s.vm.findClass RX6 = some m.cls := findClass_of_methodNamed B.named
  have hlocks := B.notSynchronized
  subst hsz
  have hD := hD0.self (sz := s.heap.size)
  generalize hAe : va_A (List.flatten [wO q0 (q 0) qh qr ql qe, wG κ q so le gr ne si ou bo n om ob]) s.heap.size = A at hD hX ⊢
  have hA : ∀ q : Nat, s.heap.size ≤ q → A q := fun q h => by rw [← hAe]; exact Or.inr h
  have hS : va_S A s.heap s.heap [] := va_S.rf
  have hP : va_P D vwCl (List.flatten [wO q0 (q 0) qh qr ql qe, wG κ q so le gr ne si ou bo n om ob]) s.heap := hP
  have hl := lv_entry ([.ref q0, .int p0]) (n := 2) (Nat.le_of_ble_eq_true rfl)
  rw [lg_entry_eq]
  generalize (lg_sl ([.ref q0, .int p0]) ++ List.replicate (2 - (lg_sl ([.ref q0, .int p0])).length) Slot.unset).toArray = ls at hl ⊢
  have hl : lv_has ls 2 [(0, .ref q0), (1, .int p0)] := hl
  refine lv_aload_n hx hb dX6_needStanding_0 rfl (lv_at hl 0 rfl) ?_
  refine va_get (D := D) (ci := 6) (v := .ref (q 0)) (C := RX6) (T := TX6) (N := 5) hx hb hts (iwX6_needStanding_6) hown hK.1 hP 0 rfl rfl 0 (by decide) (hts (.fieldLink RX6 12 "InverterGraphs" "graph" "LInverterGraphs$Graph;") (by decide +kernel)) (fun _ h9 => h9) rfl dX6_needStanding_1 ?_
  refine lv_iload_n hx hb dX6_needStanding_4 rfl (lv_at hl 1 rfl) ?_
  refine k_cRO (D := D) (κ := κ) (qc := (RX1, TX1, 10)) (ci := 1) (q0 := 0) ⟨hx, hb, hml, hown, hts⟩ (c_X1_sortOf l D κ q so le gr ne si ou bo n om ob p0 (by omega) (by omega) (by omega)) (cwV 1 hts gX6_needStanding_X1_sortOf rfl rfl rfl (by decide +kernel) ⟨Nat.le_of_ble_eq_true rfl, Nat.le_of_ble_eq_true rfl⟩) hK (k_sub1 (S := wG κ q so le gr ne si ou bo n om ob) hP 1 rfl) rfl rfl (As := [.int p0]) (rest := []) rfl rfl hl.1 (Nat.le_of_ble_eq_true rfl) dX6_needStanding_5 ⟨Nat.le_of_ble_eq_true rfl, Nat.le_of_ble_eq_true rfl⟩ (fun r hr => ?_)
  subst hr
  refine lv_iconst (v := 5) hx hb dX6_needStanding_8 (by decide) ?_
  refine lv_icmp_ne (tgt := 22) hx hb dX6_needStanding_9 (by decide) (fun c_9 => ?_) (fun c_9 => ?_)
  · skip
    refine vx_ret ?_
    refine W.widen (k := 1) (n := 6) (by omega) (by omega) ?_
    exact W.vret hx hb hr (fun t ht hW => ⟨⟨(), rfl, c_9, by rw [ht]; exact hP, hD⟩, hS.F ht⟩) hS.2.2 dX6_needStanding_22
  · skip
    exact k_throw (D := D) (E := "java/lang/IllegalArgumentException") (text := "the node is gone") (ik := 101) (is := 217) (ic := 105) hx hb hst hown (by decide) (by decide) (hts (.classLink RX6 101 "java/lang/IllegalArgumentException") (by decide +kernel)) (hts (.initialized "java/lang/IllegalArgumentException") (by decide +kernel)) (fun w hw => hts w (List.mem_cons_of_mem _ (List.mem_append_right _ hw))) k_bad_A k_good_A (by decide +kernel) hX hP hD hS (by rw [hml]; exact hl.1) dX6_needStanding_12 dX6_needStanding_15 dX6_needStanding_16 dX6_needStanding_18 dX6_needStanding_21 hnx (Nat.le_of_ble_eq_true rfl) (Nat.le_of_ble_eq_true rfl) (Nat.le_of_ble_eq_true rfl) (Nat.le_of_ble_eq_true rfl) (Nat.le_of_ble_eq_true rfl) hlocks (⟨rfl, c_9⟩) (Nat.le_of_ble_eq_true rfl) (Nat.le_of_ble_eq_true rfl)
theorem iwX6_needLatch_6 : ∀ w ∈ wsX60, w ∈ wsX6_needLatch := by decide +kernel
set_option maxHeartbeats 4000000 in
set_option maxRecDepth 100000 in
theorem c_X6_needLatch (l : Launch) (hst : l.stackTraces = false) (D : va_G) (κ : Nat → ClassId) (sz : Nat) (q0 qh qr ql qe : Nat) (q : Nat → Nat) (so le gr ne si ou bo : Nat → Int32) (n om ob : Nat) (p0 : Int32) (hn : n ≤ 400) (hom : om ≤ 40) (hob : ob ≤ om) : k_xuv (S := Unit) l yX6_needLatch wsX6_needLatch 6 90 1 6 D κ [.ref q0, .int p0] (List.flatten [wO q0 (q 0) qh qr ql qe, wG κ q so le gr ne si ou bo n om ob]) sz (fun (_ : Unit) => k_cat 400 so p0 = 3) (fun u => List.flatten [wO q0 (q 0) qh qr ql qe, wG κ q so le gr ne si ou bo n om ob]) (fun E => E = "java/lang/IllegalArgumentException" ∧ ¬ k_cat 400 so p0 = 3) := by
  refine vx_ofW (cc := cX6_needLatch) (maxL := 2) (ret := none) (by decide) rfl ?_
  intro p e s m args below meth c s₁ B hml hnx hv
  obtain ⟨rfl, ⟨hsz, hK, hP, hD0⟩, hX⟩ := hv
  have hx := B.exec
  have hb := B.bytes
  have hr := B.returns
  have hts := atoms_spec (ws := wsX6_needLatch) B.pre
  have hown : s.vm.findClass RX6 = some m.cls := findClass_of_methodNamed B.named
  have hlocks := B.notSynchronized
  subst hsz
  have hD := hD0.self (sz := s.heap.size)
  generalize hAe : va_A (List.flatten [wO q0 (q 0) qh qr ql qe, wG κ q so le gr ne si ou bo n om ob]) s.heap.size = A at hD hX ⊢
  have hA : ∀ q : Nat, s.heap.size ≤ q → A q := fun q h => by rw [← hAe]; exact Or.inr h
  have hS : va_S A s.heap s.heap [] := va_S.rf
  have hP : va_P D vwCl (List.flatten [wO q0 (q 0) qh qr ql qe, wG κ q so le gr ne si ou bo n om ob]) s.heap := hP
  have hl := lv_entry ([.ref q0, .int p0]) (n := 2) (Nat.le_of_ble_eq_true rfl)
  rw [lg_entry_eq]
  generalize (lg_sl ([.ref q0, .int p0]) ++ List.replicate (2 - (lg_sl ([.ref q0, .int p0])).length) Slot.unset).toArray = ls at hl ⊢
  have hl : lv_has ls 2 [(0, .ref q0), (1, .int p0)] := hl
  refine lv_aload_n hx hb dX6_needLatch_0 rfl (lv_at hl 0 rfl) ?_
  refine va_get (D := D) (ci := 6) (v := .ref (q 0)) (C := RX6) (T := TX6) (N := 5) hx hb hts (iwX6_needLatch_6) hown hK.1 hP 0 rfl rfl 0 (by decide) (hts (.fieldLink RX6 12 "InverterGraphs" "graph" "LInverterGraphs$Graph;") (by decide +kernel)) (fun _ h9 => h9) rfl dX6_needLatch_1 ?_
  refine lv_iload_n hx hb dX6_needLatch_4 rfl (lv_at hl 1 rfl) ?_
  refine k_cRO (D := D) (κ := κ) (qc := (RX1, TX1, 10)) (ci := 1) (q0 := 0) ⟨hx, hb, hml, hown, hts⟩ (c_X1_sortOf l D κ q so le gr ne si ou bo n om ob p0 (by omega) (by omega) (by omega)) (cwV 1 hts gX6_needLatch_X1_sortOf rfl rfl rfl (by decide +kernel) ⟨Nat.le_of_ble_eq_true rfl, Nat.le_of_ble_eq_true rfl⟩) hK (k_sub1 (S := wG κ q so le gr ne si ou bo n om ob) hP 1 rfl) rfl rfl (As := [.int p0]) (rest := []) rfl rfl hl.1 (Nat.le_of_ble_eq_true rfl) dX6_needLatch_5 ⟨Nat.le_of_ble_eq_true rfl, Nat.le_of_ble_eq_true rfl⟩ (fun r hr => ?_)
  subst hr
  refine lv_iconst (v := 3) hx hb dX6_needLatch_8 (by decide) ?_
  refine lv_icmp_eq (tgt := 22) hx hb dX6_needLatch_9 (by decide) (fun c_9 => ?_) (fun c_9 => ?_)
  · skip
    refine vx_ret ?_
    refine W.widen (k := 1) (n := 6) (by omega) (by omega) ?_
    exact W.vret hx hb hr (fun t ht hW => ⟨⟨(), rfl, c_9, by rw [ht]; exact hP, hD⟩, hS.F ht⟩) hS.2.2 dX6_needLatch_22
  · skip
    exact k_throw (D := D) (E := "java/lang/IllegalArgumentException") (text := "it is no latch") (ik := 101) (is := 219) (ic := 105) hx hb hst hown (by decide) (by decide) (hts (.classLink RX6 101 "java/lang/IllegalArgumentException") (by decide +kernel)) (hts (.initialized "java/lang/IllegalArgumentException") (by decide +kernel)) (fun w hw => hts w (List.mem_cons_of_mem _ (List.mem_append_right _ hw))) k_bad_A k_good_A (by decide +kernel) hX hP hD hS (by rw [hml]; exact hl.1) dX6_needLatch_12 dX6_needLatch_15 dX6_needLatch_16 dX6_needLatch_18 dX6_needLatch_21 hnx (Nat.le_of_ble_eq_true rfl) (Nat.le_of_ble_eq_true rfl) (Nat.le_of_ble_eq_true rfl) (Nat.le_of_ble_eq_true rfl) (Nat.le_of_ble_eq_true rfl) hlocks (⟨rfl, c_9⟩) (Nat.le_of_ble_eq_true rfl) (Nat.le_of_ble_eq_true rfl)
theorem iwX6_needRoomFor_6 : ∀ w ∈ wsX60, w ∈ wsX6_needRoomFor := by decide +kernel
set_option maxHeartbeats 4000000 in
set_option maxRecDepth 100000 in
theorem c_X6_needRoomFor (l : Launch) (hst : l.stackTraces = false) (D : va_G) (κ : Nat → ClassId) (sz : Nat) (q0 qh qr ql qe : Nat) (q : Nat → Nat) (so le gr ne si ou bo : Nat → Int32) (n om ob : Nat) (p0 : Nat) (hn : n ≤ 400) (hom : om ≤ 40) (hob : ob ≤ om) (hp0 : p0 ≤ 400) : k_xuv (S := Unit) l yX6_needRoomFor wsX6_needRoomFor 6 90 1 6 D κ [.ref q0, .int (nI p0)] (List.flatten [wO q0 (q 0) qh qr ql qe, wG κ q so le gr ne si ou bo n om ob]) sz (fun (_ : Unit) => n + p0 ≤ 400) (fun u => List.flatten [wO q0 (q 0) qh qr ql qe, wG κ q so le gr ne si ou bo n om ob]) (fun E => E = "java/lang/UnsupportedOperationException" ∧ 400 < n + p0) := by
  refine vx_ofW (cc := cX6_needRoomFor) (maxL := 2) (ret := none) (by decide) rfl ?_
  intro p e s m args below meth c s₁ B hml hnx hv
  obtain ⟨rfl, ⟨hsz, hK, hP, hD0⟩, hX⟩ := hv
  have hx := B.exec
  have hb := B.bytes
  have hr := B.returns
  have hts := atoms_spec (ws := wsX6_needRoomFor) B.pre
  have hown : s.vm.findClass RX6 = some m.cls := findClass_of_methodNamed B.named
  have hlocks := B.notSynchronized
  subst hsz
  have hD := hD0.self (sz := s.heap.size)
  generalize hAe : va_A (List.flatten [wO q0 (q 0) qh qr ql qe, wG κ q so le gr ne si ou bo n om ob]) s.heap.size = A at hD hX ⊢
  have hA : ∀ q : Nat, s.heap.size ≤ q → A q := fun q h => by rw [← hAe]; exact Or.inr h
  have hS : va_S A s.heap s.heap [] := va_S.rf
  have hP : va_P D vwCl (List.flatten [wO q0 (q 0) qh qr ql qe, wG κ q so le gr ne si ou bo n om ob]) s.heap := hP
  have hl := lv_entry ([.ref q0, .int (nI p0)]) (n := 2) (Nat.le_of_ble_eq_true rfl)
  rw [lg_entry_eq]
  generalize (lg_sl ([.ref q0, .int (nI p0)]) ++ List.replicate (2 - (lg_sl ([.ref q0, .int (nI p0)])).length) Slot.unset).toArray = ls at hl ⊢
  have hl : lv_has ls 2 [(0, .ref q0), (1, .int (nI p0))] := hl
  refine lv_aload_n hx hb dX6_needRoomFor_0 rfl (lv_at hl 0 rfl) ?_
  refine va_get (D := D) (ci := 6) (v := .ref (q 0)) (C := RX6) (T := TX6) (N := 5) hx hb hts (iwX6_needRoomFor_6) hown hK.1 hP 0 rfl rfl 0 (by decide) (hts (.fieldLink RX6 12 "InverterGraphs" "graph" "LInverterGraphs$Graph;") (by decide +kernel)) (fun _ h9 => h9) rfl dX6_needRoomFor_1 ?_
  refine k_cRO (D := D) (κ := κ) (qc := (RX1, TX1, 10)) (ci := 1) (q0 := 0) ⟨hx, hb, hml, hown, hts⟩ (c_X1_nodesGiven l D κ q so le gr ne si ou bo n om ob  (by omega) (by omega) (by omega)) (cwV 0 hts gX6_needRoomFor_X1_nodesGiven rfl rfl rfl (by decide +kernel) ⟨Nat.le_of_ble_eq_true rfl, Nat.le_of_ble_eq_true rfl⟩) hK (k_sub1 (S := wG κ q so le gr ne si ou bo n om ob) hP 1 rfl) rfl rfl (As := []) (rest := []) rfl rfl hl.1 (Nat.le_of_ble_eq_true rfl) dX6_needRoomFor_4 ⟨Nat.le_of_ble_eq_true rfl, Nat.le_of_ble_eq_true rfl⟩ (fun r hr => ?_)
  subst hr
  refine lv_iload_n hx hb dX6_needRoomFor_7 rfl (lv_at hl 1 rfl) ?_
  refine lv_iadd hx hb dX6_needRoomFor_8 ?_
  refine lv_topi (nm_r (nI_add n p0) ?_)
  refine lv_sipush (v := 400) hx hb dX6_needRoomFor_9 (by decide) ?_
  refine lv_icmp_le (tgt := 25) hx hb dX6_needRoomFor_12 (by decide) (fun c_12 => ?_) (fun c_12 => ?_)
  · skip
    have c_12 : (n + p0) ≤ 400 := (nI_leI (a := (n + p0)) (b := 400) (by omega) (by omega)).mp c_12
    refine vx_ret ?_
    refine W.widen (k := 1) (n := 6) (by omega) (by omega) ?_
    exact W.vret hx hb hr (fun t ht hW => ⟨⟨(), rfl, (by omega), by rw [ht]; exact hP, hD⟩, hS.F ht⟩) hS.2.2 dX6_needRoomFor_25
  · skip
    have c_12 : ¬ ((n + p0) ≤ 400) := fun h9 => c_12 ((nI_leI (a := (n + p0)) (b := 400) (by omega) (by omega)).mpr h9)
    exact k_throw (D := D) (E := "java/lang/UnsupportedOperationException") (text := "there would be more than 400 nodes") (ik := 79) (is := 221) (ic := 83) hx hb hst hown (by decide) (by decide) (hts (.classLink RX6 79 "java/lang/UnsupportedOperationException") (by decide +kernel)) (hts (.initialized "java/lang/UnsupportedOperationException") (by decide +kernel)) (fun w hw => hts w (List.mem_cons_of_mem _ (List.mem_append_right _ hw))) k_bad_U k_good_U (by decide +kernel) hX hP hD hS (by rw [hml]; exact hl.1) dX6_needRoomFor_15 dX6_needRoomFor_18 dX6_needRoomFor_19 dX6_needRoomFor_21 dX6_needRoomFor_24 hnx (Nat.le_of_ble_eq_true rfl) (Nat.le_of_ble_eq_true rfl) (Nat.le_of_ble_eq_true rfl) (Nat.le_of_ble_eq_true rfl) (Nat.le_of_ble_eq_true rfl) hlocks (⟨rfl, by omega⟩) (Nat.le_of_ble_eq_true rfl) (Nat.le_of_ble_eq_true rfl)
