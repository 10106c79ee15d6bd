theorem iwX4_has_4 : ∀ w ∈ wsX40, w ∈ wsX4_has := by decide +kernel
set_option maxHeartbeats 4000000 in
set_option maxRecDepth 100000 in
theorem c_X4_has (l : Launch) (D : va_G) (κ : Nat → ClassId) (qe : Nat → Nat) (e0 : KE) (p0 : Int32) : k_roi l yX4_has wsX4_has 1 21 D κ [.ref (qe 0), .int p0] (wE κ qe e0) (fun r => r = if k_cat 400 e0.1 p0 = 1 then 1 else 0) := by
  refine Met.ofW (cc := cX4_has) (maxL := 2) (ret := (some .boolean)) (by decide) rfl ?_
  intro p e s m args below meth c s₁ B hml hv
  obtain ⟨rfl, hK, hP⟩ := hv
  have hx := B.exec
  have hb := B.bytes
  have hr := B.returns
  have hts := atoms_spec (ws := wsX4_has) B.pre
  have hown : s.vm.findClass RX4 = some m.cls := findClass_of_methodNamed B.named
  have hlocks := B.notSynchronized
  have hP : va_P D vwCl (wE κ qe e0) s.heap := hP
  have hl := lv_entry ([.ref (qe 0), .int p0]) (n := 2) (Nat.le_of_ble_eq_true rfl)
  rw [lg_entry_eq]
  generalize (lg_sl ([.ref (qe 0), .int p0]) ++ List.replicate (2 - (lg_sl ([.ref (qe 0), .int p0])).length) Slot.unset).toArray = ls at hl ⊢
  have hl : lv_has ls 2 [(0, .ref (qe 0)), (1, .int p0)] := hl
  refine lv_aload_n hx hb dX4_has_0 rfl (lv_at hl 0 rfl) ?_
  refine va_get (D := D) (ci := 4) (v := .ref (qe 1)) (C := RX4) (T := TX4) (N := 3) hx hb hts (iwX4_has_4) hown hK.1 hP 0 rfl rfl 0 (by decide) (hts (.fieldLink RX4 14 "InverterGraphs$Reach" "marks" "LInverterGraphs$Cells;") (by decide +kernel)) (fun _ h9 => h9) rfl dX4_has_1 ?_
  refine lv_iload_n hx hb dX4_has_4 rfl (lv_at hl 1 rfl) ?_
  refine k_cRO (D := D) (κ := κ) (qc := (RX0, TX0, 1)) (ci := 0) (q0 := 0) ⟨hx, hb, hml, hown, hts⟩ (c_X0_at l D κ (qe 1) (qe 3) 400 e0.1 p0 (by omega)) (cwV 1 hts gX4_has_X0_at rfl rfl rfl (by decide +kernel) ⟨Nat.le_of_ble_eq_true rfl, Nat.le_of_ble_eq_true rfl⟩) hK (hP.sub [1, 3] rfl) rfl rfl (As := [.int p0]) (rest := []) rfl rfl hl.1 (Nat.le_of_ble_eq_true rfl) dX4_has_5 ⟨Nat.le_of_ble_eq_true rfl, Nat.le_of_ble_eq_true rfl⟩ (fun r hr => ?_)
  subst hr
  refine lv_iconst (v := 1) hx hb dX4_has_8 (by decide) ?_
  refine lv_icmp_ne (tgt := 16) hx hb dX4_has_9 (by decide) (fun c_9 => ?_) (fun c_9 => ?_)
  · skip
    refine lv_iconst (v := 0) hx hb dX4_has_16 (by decide) ?_
    exact W.zret (ty := .boolean) (v := 0) hx hb hr rfl (fun t ht _ => ⟨0, rfl, (by rw [if_neg c_9]), ht⟩) (fun _ h9 => nomatch h9) dX4_has_17
  · skip
    refine lv_iconst (v := 1) hx hb dX4_has_12 (by decide) ?_
    refine lv_goto (tgt := 17) hx hb dX4_has_13 (by decide) ?_
    exact W.zret (ty := .boolean) (v := 1) hx hb hr rfl (fun t ht _ => ⟨1, rfl, (by rw [if_pos c_9]), ht⟩) (fun _ h9 => nomatch h9) dX4_has_17
theorem iwX4_clear_4 : ∀ w ∈ wsX40, w ∈ wsX4_clear := by decide +kernel
set_option maxHeartbeats 4000000 in
set_option maxRecDepth 100000 in
theorem c_X4_clear (l : Launch) (D : va_G) (κ : Nat → ClassId) (sz : Nat) (qe : Nat → Nat) (e0 : KE)  : k_muv (S := KE) l yX4_clear wsX4_clear 2 44 0 0 D κ [.ref (qe 0)] (wE κ qe e0) sz (fun u => u = k_clr e0) (fun u => wE κ qe u) := by
  refine Met.ofW (cc := cX4_clear) (maxL := 1) (ret := none) (by decide) rfl ?_
  intro p e s m args below meth c s₁ B hml hv
  obtain ⟨rfl, hsz, hK, hP, hD0⟩ := hv
  have hx := B.exec
  have hb := B.bytes
  have hr := B.returns
  have hts := atoms_spec (ws := wsX4_clear) B.pre
  have hown : s.vm.findClass RX4 = some m.cls := findClass_of_methodNamed B.named
  have hlocks := B.notSynchronized
  subst hsz
  have hD := hD0.self (sz := s.heap.size)
  generalize hAe : va_A (wE κ qe e0) s.heap.size = A at hD ⊢
  have hA : ∀ q : Nat, s.heap.size ≤ q → A q := fun q h => by rw [← hAe]; exact Or.inr h
  have hS : va_S A s.heap s.heap [] := va_S.rf
  have hP : va_P D vwCl (wE κ qe e0) s.heap := hP
  have hl := lv_entry ([.ref (qe 0)]) (n := 1) (Nat.le_of_ble_eq_true rfl)
  rw [lg_entry_eq]
  generalize (lg_sl ([.ref (qe 0)]) ++ List.replicate (1 - (lg_sl ([.ref (qe 0)])).length) Slot.unset).toArray = ls at hl ⊢
  have hl : lv_has ls 1 [(0, .ref (qe 0))] := hl
  refine lv_aload_n hx hb dX4_clear_0 rfl (lv_at hl 0 rfl) ?_
  refine va_get (D := D) (ci := 4) (v := .ref (qe 1)) (C := RX4) (T := TX4) (N := 3) hx hb hts (iwX4_clear_4) hown hK.1 hP 0 rfl rfl 0 (by decide) (hts (.fieldLink RX4 14 "InverterGraphs$Reach" "marks" "LInverterGraphs$Cells;") (by decide +kernel)) (fun _ h9 => h9) rfl dX4_clear_1 ?_
  refine lv_iconst (v := 0) hx hb dX4_clear_4 (by decide) ?_
  refine k_cMUv (D := D) (κ := κ) (qc := (RX0, TX0, 1)) (ci := 0) (q0 := 0) (wn := fun _ => wE κ qe (k_fillF e0.1 0 400, e0.2.1, e0.2.2)) ⟨hx, hb, hml, hown, hts⟩ (c_X0_fill l D κ _ (qe 1) (qe 3) 400 e0.1 0 (by omega)) (cwV 1 hts gX4_clear_X0_fill rfl rfl rfl (by decide +kernel) ⟨Nat.le_of_ble_eq_true rfl, Nat.le_of_ble_eq_true rfl⟩) hK hP hD hS hA [1, 3] (by decide) rfl rfl rfl (fun _ => rfl) (fun _ => rfl) (As := [.int 0]) (rest := []) rfl rfl hl.1 (Nat.le_of_ble_eq_true rfl) dX4_clear_5 ⟨Nat.le_of_ble_eq_true rfl, Nat.le_of_ble_eq_true rfl⟩ (fun _ H locs hw9 hP hD hS => ?_)
  refine lv_aload_n hx hb dX4_clear_8 rfl (lv_at hl 0 rfl) ?_
  refine lv_iconst (v := 0) hx hb dX4_clear_9 (by decide) ?_
  refine va_put (D := D) (ci := 4) (v := .int 0) (ty := .int) (C := RX4) (T := TX4) (N := 3) hx hb hts (iwX4_clear_4) tyX4 tyX4_ok nmX4 hown hK.1 hP hD hS 0 rfl rfl 2 (by decide) (hts (.fieldLink RX4 62 "InverterGraphs$Reach" "waits" "I") (by decide +kernel)) (fun _ h9 => h9) rfl (by decide +kernel) rfl rfl (Nat.le_of_ble_eq_true rfl) dX4_clear_10 (fun H locs hP hD hS => ?_)
  have hP : va_P D vwCl (wE κ qe (k_fillF e0.1 0 400, e0.2.1, 0)) H := hP
  have hD : va_D A (wE κ qe (k_fillF e0.1 0 400, e0.2.1, 0)) := hD
  exact W.vret hx hb hr (fun t ht hW => ⟨⟨(k_fillF e0.1 0 400, e0.2.1, 0), rfl, rfl, by rw [ht]; exact hP, hD⟩, hS.F ht⟩) hS.2.2 dX4_clear_13
theorem iwX4_mark_4 : ∀ w ∈ wsX40, w ∈ wsX4_mark := by decide +kernel
set_option maxHeartbeats 4000000 in
set_option maxRecDepth 100000 in
theorem c_X4_mark (l : Launch) (D : va_G) (κ : Nat → ClassId) (sz : Nat) (qe : Nat → Nat) (e0 : KE) (p0 : Int32) : k_muv (S := KE) l yX4_mark wsX4_mark 1 22 0 0 D κ [.ref (qe 0), .int p0] (wE κ qe e0) sz (fun u => u = k_mark p0 e0) (fun u => wE κ qe u) := by
  refine Met.ofW (cc := cX4_mark) (maxL := 2) (ret := none) (by decide) rfl ?_
  intro p e s m args below meth c s₁ B hml hv
  obtain ⟨rfl, hsz, hK, hP, hD0⟩ := hv
  have hx := B.exec
  have hb := B.bytes
  have hr := B.returns
  have hts := atoms_spec (ws := wsX4_mark) B.pre
  have hown : s.vm.findClass RX4 = some m.cls := findClass_of_methodNamed B.named
  have hlocks := B.notSynchronized
  subst hsz
  have hD := hD0.self (sz := s.heap.size)
  generalize hAe : va_A (wE κ qe e0) s.heap.size = A at hD ⊢
  have hA : ∀ q : Nat, s.heap.size ≤ q → A q := fun q h => by rw [← hAe]; exact Or.inr h
  have hS : va_S A s.heap s.heap [] := va_S.rf
  have hP : va_P D vwCl (wE κ qe e0) s.heap := hP
  have hl := lv_entry ([.ref (qe 0), .int p0]) (n := 2) (Nat.le_of_ble_eq_true rfl)
  rw [lg_entry_eq]
  generalize (lg_sl ([.ref (qe 0), .int p0]) ++ List.replicate (2 - (lg_sl ([.ref (qe 0), .int p0])).length) Slot.unset).toArray = ls at hl ⊢
  have hl : lv_has ls 2 [(0, .ref (qe 0)), (1, .int p0)] := hl
  refine lv_aload_n hx hb dX4_mark_0 rfl (lv_at hl 0 rfl) ?_
  refine va_get (D := D) (ci := 4) (v := .ref (qe 1)) (C := RX4) (T := TX4) (N := 3) hx hb hts (iwX4_mark_4) hown hK.1 hP 0 rfl rfl 0 (by decide) (hts (.fieldLink RX4 14 "InverterGraphs$Reach" "marks" "LInverterGraphs$Cells;") (by decide +kernel)) (fun _ h9 => h9) rfl dX4_mark_1 ?_
  refine lv_iload_n hx hb dX4_mark_4 rfl (lv_at hl 1 rfl) ?_
  refine k_cRO (D := D) (κ := κ) (qc := (RX0, TX0, 1)) (ci := 0) (q0 := 0) ⟨hx, hb, hml, hown, hts⟩ (c_X0_at l D κ (qe 1) (qe 3) 400 e0.1 p0 (by omega)) (cwV 1 hts gX4_mark_X0_at rfl rfl rfl (by decide +kernel) ⟨Nat.le_of_ble_eq_true rfl, Nat.le_of_ble_eq_true rfl⟩) hK (hP.sub [1, 3] rfl) rfl rfl (As := [.int p0]) (rest := []) rfl rfl hl.1 (Nat.le_of_ble_eq_true rfl) dX4_mark_5 ⟨Nat.le_of_ble_eq_true rfl, Nat.le_of_ble_eq_true rfl⟩ (fun r hr => ?_)
  subst hr
  refine lv_if_ne (tgt := 42) hx hb dX4_mark_8 (by decide) (fun c_8 => ?_) (fun c_8 => ?_)
  · skip
    exact W.vret hx hb hr (fun t ht hW => ⟨⟨e0, rfl, (by unfold k_mark; rw [if_neg c_8]), by rw [ht]; exact hP, hD⟩, hS.F ht⟩) hS.2.2 dX4_mark_42
  · skip
    refine lv_aload_n hx hb dX4_mark_11 rfl (lv_at hl 0 rfl) ?_
    refine va_get (D := D) (ci := 4) (v := .ref (qe 1)) (C := RX4) (T := TX4) (N := 3) hx hb hts (iwX4_mark_4) hown hK.1 hP 0 rfl rfl 0 (by decide) (hts (.fieldLink RX4 14 "InverterGraphs$Reach" "marks" "LInverterGraphs$Cells;") (by decide +kernel)) (fun _ h9 => h9) rfl dX4_mark_12 ?_
    refine lv_iload_n hx hb dX4_mark_15 rfl (lv_at hl 1 rfl) ?_
    refine lv_iconst (v := 1) hx hb dX4_mark_16 (by decide) ?_
    refine k_cMUv (D := D) (κ := κ) (qc := (RX0, TX0, 1)) (ci := 0) (q0 := 0) (wn := fun _ => wE κ qe (k_cpt 400 e0.1 p0 1, e0.2.1, e0.2.2)) ⟨hx, hb, hml, hown, hts⟩ (c_X0_put l D κ _ (qe 1) (qe 3) 400 e0.1 p0 1 (by omega)) (cwV 2 hts gX4_mark_X0_put rfl rfl rfl (by decide +kernel) ⟨Nat.le_of_ble_eq_true rfl, Nat.le_of_ble_eq_true rfl⟩) hK hP hD hS hA [1, 3] (by decide) rfl rfl rfl (fun _ => rfl) (fun _ => rfl) (As := [.int p0, .int 1]) (rest := []) rfl rfl hl.1 (Nat.le_of_ble_eq_true rfl) dX4_mark_17 ⟨Nat.le_of_ble_eq_true rfl, Nat.le_of_ble_eq_true rfl⟩ (fun _ H locs hw9 hP hD hS => ?_)
    refine lv_aload_n hx hb dX4_mark_20 rfl (lv_at hl 0 rfl) ?_
    refine va_get (D := D) (ci := 4) (v := .ref (qe 2)) (C := RX4) (T := TX4) (N := 3) hx hb hts (iwX4_mark_4) hown hK.1 hP 0 rfl rfl 1 (by decide) (hts (.fieldLink RX4 20 "InverterGraphs$Reach" "waiting" "LInverterGraphs$Cells;") (by decide +kernel)) (fun _ h9 => h9) rfl dX4_mark_21 ?_
    refine lv_aload_n hx hb dX4_mark_24 rfl (lv_at hl 0 rfl) ?_
    refine va_get (D := D) (ci := 4) (v := .int e0.2.2) (C := RX4) (T := TX4) (N := 3) hx hb hts (iwX4_mark_4) hown hK.1 hP 0 rfl rfl 2 (by decide) (hts (.fieldLink RX4 62 "InverterGraphs$Reach" "waits" "I") (by decide +kernel)) (fun _ h9 => h9) rfl dX4_mark_25 ?_
    refine lv_iload_n hx hb dX4_mark_28 rfl (lv_at hl 1 rfl) ?_
    refine k_cMUv (D := D) (κ := κ) (qc := (RX0, TX0, 1)) (ci := 0) (q0 := 0) (wn := fun _ => wE κ qe (k_cpt 400 e0.1 p0 1, k_cpt 400 e0.2.1 e0.2.2 p0, e0.2.2)) ⟨hx, hb, hml, hown, hts⟩ (c_X0_put l D κ _ (qe 2) (qe 4) 400 e0.2.1 e0.2.2 p0 (by omega)) (cwV 2 hts gX4_mark_X0_put rfl rfl rfl (by decide +kernel) ⟨Nat.le_of_ble_eq_true rfl, Nat.le_of_ble_eq_true rfl⟩) hK hP hD hS hA [2, 4] (by decide) rfl rfl rfl (fun _ => rfl) (fun _ => rfl) (As := [.int e0.2.2, .int p0]) (rest := []) rfl rfl hl.1 (Nat.le_of_ble_eq_true rfl) dX4_mark_29 ⟨Nat.le_of_ble_eq_true rfl, Nat.le_of_ble_eq_true rfl⟩ (fun _ H locs hw9 hP hD hS => ?_)
    refine lv_aload_n hx hb dX4_mark_32 rfl (lv_at hl 0 rfl) ?_
    refine lv_dup hx hb dX4_mark_33 rfl ?_
    refine va_get (D := D) (ci := 4) (v := .int e0.2.2) (C := RX4) (T := TX4) (N := 3) hx hb hts (iwX4_mark_4) hown hK.1 hP 0 rfl rfl 2 (by decide) (hts (.fieldLink RX4 62 "InverterGraphs$Reach" "waits" "I") (by decide +kernel)) (fun _ h9 => h9) rfl dX4_mark_34 ?_
    refine lv_iconst (v := 1) hx hb dX4_mark_37 (by decide) ?_
    refine lv_iadd hx hb dX4_mark_38 ?_
    refine va_put (D := D) (ci := 4) (v := .int (e0.2.2 + 1)) (ty := .int) (C := RX4) (T := TX4) (N := 3) hx hb hts (iwX4_mark_4) tyX4 tyX4_ok nmX4 hown hK.1 hP hD hS 0 rfl rfl 2 (by decide) (hts (.fieldLink RX4 62 "InverterGraphs$Reach" "waits" "I") (by decide +kernel)) (fun _ h9 => h9) rfl (by decide +kernel) rfl rfl (Nat.le_of_ble_eq_true rfl) dX4_mark_39 (fun H locs hP hD hS => ?_)
    have hP : va_P D vwCl (wE κ qe (k_cpt 400 e0.1 p0 1, k_cpt 400 e0.2.1 e0.2.2 p0, e0.2.2 + 1)) H := hP
    have hD : va_D A (wE κ qe (k_cpt 400 e0.1 p0 1, k_cpt 400 e0.2.1 e0.2.2 p0, e0.2.2 + 1)) := hD
    exact W.vret hx hb hr (fun t ht hW => ⟨⟨(k_cpt 400 e0.1 p0 1, k_cpt 400 e0.2.1 e0.2.2 p0, e0.2.2 + 1), rfl, (by unfold k_mark; rw [if_pos c_8]), by rw [ht]; exact hP, hD⟩, hS.F ht⟩) hS.2.2 dX4_mark_42
theorem iwX4_spread_4 : ∀ w ∈ wsX40, w ∈ wsX4_spread := by decide +kernel
set_option maxHeartbeats 4000000 in
set_option maxRecDepth 100000 in
theorem c_X4_spread (l : Launch) (D : va_G) (κ : Nat → ClassId) (sz : Nat) (qe : Nat → Nat) (e0 : KE) (q : Nat → Nat) (so le gr ne si ou bo : Nat → Int32) (n om ob : Nat)  (hn : n ≤ 400) (hom : om ≤ 40) (hob : ob ≤ om) : k_muv (S := KE) l yX4_spread wsX4_spread 2 43 0 0 D κ [.ref (qe 0), .ref (q 0)] (List.flatten [wE κ qe e0, wG κ q so le gr ne si ou bo n om ob]) sz (fun u => u = k_spr le gr 400 e0) (fun u => List.flatten [wE κ qe u, wG κ q so le gr ne si ou bo n om ob]) := by
  refine Met.ofW (cc := cX4_spread) (maxL := 4) (ret := none) (by decide) rfl ?_
  intro p e s m args below meth c s₁ B hml hv
  obtain ⟨rfl, hsz, hK, hP, hD0⟩ := hv
  have hx := B.exec
  have hb := B.bytes
  have hr := B.returns
  have hts := atoms_spec (ws := wsX4_spread) B.pre
  have hown : s.vm.findClass RX4 = some m.cls := findClass_of_methodNamed B.named
  have hlocks := B.notSynchronized
  subst hsz
  have hD := hD0.self (sz := s.heap.size)
  generalize hAe : va_A (List.flatten [wE κ qe e0, wG κ q so le gr ne si ou bo n om ob]) s.heap.size = A at hD ⊢
  have hA : ∀ q : Nat, s.heap.size ≤ q → A q := fun q h => by rw [← hAe]; exact Or.inr h
  have hS : va_S A s.heap s.heap [] := va_S.rf
  have hP : va_P D vwCl (List.flatten [wE κ qe e0, wG κ q so le gr ne si ou bo n om ob]) s.heap := hP
  have hl := lv_entry ([.ref (qe 0), .ref (q 0)]) (n := 4) (Nat.le_of_ble_eq_true rfl)
  rw [lg_entry_eq]
  generalize (lg_sl ([.ref (qe 0), .ref (q 0)]) ++ List.replicate (4 - (lg_sl ([.ref (qe 0), .ref (q 0)])).length) Slot.unset).toArray = ls at hl ⊢
  have hl : lv_has ls 4 [(0, .ref (qe 0)), (1, .ref (q 0))] := hl
  refine lv_iconst (v := 0) hx hb dX4_spread_0 (by decide) ?_
  refine lv_istore_n (lv' := [(2, .int 0), (0, .ref (qe 0)), (1, .ref (q 0))]) hx hb dX4_spread_1 rfl hl (by decide) rfl (fun ls hl => ?_)
  have lp : ∀ (k : Nat) (x : KE) (i : Nat) (H : Heap) (locs : List Loc) (ls : Array Slot), (i + k = 400) → (k_spr le gr 400 e0 = k_spr le gr k x) → va_P D vwCl (List.flatten [wE κ qe x, wG κ q so le gr ne si ou bo n om ob]) H → va_D A (List.flatten [wE κ qe x, wG κ q so le gr ne si ou bo n om ob]) → va_S A s.heap H locs → lv_has ls 4 [(0, .ref (qe 0)), (1, .ref (q 0)), (2, .int (nI i))] → W p l e (headSpec wsX4_spread ({ frames := 2, cells := 0, slots := 0, locals := 43 })).room s m ([.ref (qe 0), .ref (q 0)] : List Value).toArray below meth c H locs 0 0 (MQ below (va_Qv (S := KE) (fun u => u = k_spr le gr 400 e0) (fun u => k_B D A (List.flatten [wE κ qe u, wG κ q so le gr ne si ou bo n om ob])) A) ([.ref (qe 0), .ref (q 0)] : List Value).toArray s 0 0 A) (F0 m 2 ls []) := by
    intro k
    induction k with
    | zero =>
      intro x i H locs ls hi hr9 hP hD hS hl
      refine lv_iload_n hx hb dX4_spread_2 rfl (lv_at hl 2 rfl) ?_
      refine lv_sipush (v := 400) hx hb dX4_spread_3 (by decide) ?_
      refine lv_icmp_ge (tgt := 68) hx hb dX4_spread_6 (by decide) (fun c_6 => ?_) (fun c_6 => ?_)
      · skip
        have c_6 : 400 ≤ i := (nI_leI (a := 400) (b := i) (by omega) (by omega)).mp c_6
        exact W.vret hx hb hr (fun t ht hW => ⟨⟨x, rfl, (by rw [hr9, k_spr]), by rw [ht]; exact hP, hD⟩, hS.F ht⟩) hS.2.2 dX4_spread_68
      · skip
        have c_6 : ¬ (400 ≤ i) := fun h9 => c_6 ((nI_leI (a := 400) (b := i) (by omega) (by omega)).mpr h9)
        exfalso; omega
    | succ k ih =>
      intro x i H locs ls hi hr9 hP hD hS hl
      refine lv_iload_n hx hb dX4_spread_2 rfl (lv_at hl 2 rfl) ?_
      refine lv_sipush (v := 400) hx hb dX4_spread_3 (by decide) ?_
      refine lv_icmp_ge (tgt := 68) hx hb dX4_spread_6 (by decide) (fun c_6 => ?_) (fun c_6 => ?_)
      · skip
        have c_6 : 400 ≤ i := (nI_leI (a := 400) (b := i) (by omega) (by omega)).mp c_6
        exfalso; omega
      · skip
        have c_6 : ¬ (400 ≤ i) := fun h9 => c_6 ((nI_leI (a := 400) (b := i) (by omega) (by omega)).mpr h9)
        refine lv_aload_n hx hb dX4_spread_9 rfl (lv_at hl 0 rfl) ?_
        refine va_get (D := D) (ci := 4) (v := .int x.2.2) (C := RX4) (T := TX4) (N := 3) hx hb hts (iwX4_spread_4) hown hK.1 hP 0 rfl rfl 2 (by decide) (hts (.fieldLink RX4 62 "InverterGraphs$Reach" "waits" "I") (by decide +kernel)) (fun _ h9 => h9) rfl dX4_spread_10 ?_
        refine lv_if_le (tgt := 68) hx hb dX4_spread_13 (by decide) (fun c_13 => ?_) (fun c_13 => ?_)
        · skip
          exact W.vret hx hb hr (fun t ht hW => ⟨⟨x, rfl, (by rw [hr9, k_spr, if_pos c_13]), by rw [ht]; exact hP, hD⟩, hS.F ht⟩) hS.2.2 dX4_spread_68
        · skip
          refine lv_aload_n hx hb dX4_spread_16 rfl (lv_at hl 0 rfl) ?_
          refine lv_dup hx hb dX4_spread_17 rfl ?_
          refine va_get (D := D) (ci := 4) (v := .int x.2.2) (C := RX4) (T := TX4) (N := 3) hx hb hts (iwX4_spread_4) hown hK.1 hP 0 rfl rfl 2 (by decide) (hts (.fieldLink RX4 62 "InverterGraphs$Reach" "waits" "I") (by decide +kernel)) (fun _ h9 => h9) rfl dX4_spread_18 ?_
          refine lv_iconst (v := 1) hx hb dX4_spread_21 (by decide) ?_
          refine lv_isub hx hb dX4_spread_22 ?_
          refine va_put (D := D) (ci := 4) (v := .int (x.2.2 - 1)) (ty := .int) (C := RX4) (T := TX4) (N := 3) hx hb hts (iwX4_spread_4) tyX4 tyX4_ok nmX4 hown hK.1 hP hD hS 0 rfl rfl 2 (by decide) (hts (.fieldLink RX4 62 "InverterGraphs$Reach" "waits" "I") (by decide +kernel)) (fun _ h9 => h9) rfl (by decide +kernel) rfl rfl (Nat.le_of_ble_eq_true rfl) dX4_spread_23 (fun H locs hP hD hS => ?_)
          have hP : va_P D vwCl (List.flatten [wE κ qe (x.1, x.2.1, x.2.2 - 1), wG κ q so le gr ne si ou bo n om ob]) H := hP
          have hD : va_D A (List.flatten [wE κ qe (x.1, x.2.1, x.2.2 - 1), wG κ q so le gr ne si ou bo n om ob]) := hD
          refine lv_aload_n hx hb dX4_spread_26 rfl (lv_at hl 0 rfl) ?_
          refine va_get (D := D) (ci := 4) (v := .ref (qe 2)) (C := RX4) (T := TX4) (N := 3) hx hb hts (iwX4_spread_4) hown hK.1 hP 0 rfl rfl 1 (by decide) (hts (.fieldLink RX4 20 "InverterGraphs$Reach" "waiting" "LInverterGraphs$Cells;") (by decide +kernel)) (fun _ h9 => h9) rfl dX4_spread_27 ?_
          refine lv_aload_n hx hb dX4_spread_30 rfl (lv_at hl 0 rfl) ?_
          refine va_get (D := D) (ci := 4) (v := .int (x.2.2 - 1)) (C := RX4) (T := TX4) (N := 3) hx hb hts (iwX4_spread_4) hown hK.1 hP 0 rfl rfl 2 (by decide) (hts (.fieldLink RX4 62 "InverterGraphs$Reach" "waits" "I") (by decide +kernel)) (fun _ h9 => h9) rfl dX4_spread_31 ?_
          refine k_cRO (D := D) (κ := κ) (qc := (RX0, TX0, 1)) (ci := 0) (q0 := 0) ⟨hx, hb, hml, hown, hts⟩ (c_X0_at l D κ (qe 2) (qe 4) 400 x.2.1 (x.2.2 - 1) (by omega)) (cwV 1 hts gX4_spread_X0_at rfl rfl rfl (by decide +kernel) ⟨Nat.le_of_ble_eq_true rfl, Nat.le_of_ble_eq_true rfl⟩) hK (hP.sub [2, 4] rfl) rfl rfl (As := [.int (x.2.2 - 1)]) (rest := []) rfl rfl hl.1 (Nat.le_of_ble_eq_true rfl) dX4_spread_34 ⟨Nat.le_of_ble_eq_true rfl, Nat.le_of_ble_eq_true rfl⟩ (fun r hr => ?_)
          subst hr
          refine lv_istore_n (lv' := [(3, .int (k_cat 400 x.2.1 (x.2.2 - 1))), (0, .ref (qe 0)), (1, .ref (q 0)), (2, .int (nI i))]) hx hb dX4_spread_37 rfl hl (by decide) rfl (fun ls hl => ?_)
          refine lv_aload_n hx hb dX4_spread_38 rfl (lv_at hl 1 rfl) ?_
          refine lv_aload_n hx hb dX4_spread_39 rfl (lv_at hl 2 rfl) ?_
          refine lv_iload_n hx hb dX4_spread_40 rfl (lv_at hl 0 rfl) ?_
          refine k_cRO (D := D) (κ := κ) (qc := (RX1, TX1, 10)) (ci := 1) (q0 := 0) ⟨hx, hb, hml, hown, hts⟩ (c_X1_lesserFanin l D κ q so le gr ne si ou bo n om ob (k_cat 400 x.2.1 (x.2.2 - 1)) (by omega) (by omega) (by omega)) (cwV 1 hts gX4_spread_X1_lesserFanin rfl rfl rfl (by decide +kernel) ⟨Nat.le_of_ble_eq_true rfl, Nat.le_of_ble_eq_true rfl⟩) hK (k_sub1 (S := wG κ q so le gr ne si ou bo n om ob) hP 1 rfl) rfl rfl (As := [.int (k_cat 400 x.2.1 (x.2.2 - 1))]) (rest := [.ref (qe 0)]) rfl rfl hl.1 (Nat.le_of_ble_eq_true rfl) dX4_spread_41 ⟨Nat.le_of_ble_eq_true rfl, Nat.le_of_ble_eq_true rfl⟩ (fun r hr => ?_)
          subst hr
          refine k_cNS ⟨hx, hb, hml, hown, hts⟩ (c_X6_nodeOf l (k_cat 400 le (k_cat 400 x.2.1 (x.2.2 - 1)))) ⟨va_cnB 1 hts ggX4_spread_X6_nodeOf rfl rfl rfl hK.2.2.2.2.2.2.1 (hts (.initialized RX6) (by decide +kernel)) (by decide +kernel) ⟨Nat.le_of_ble_eq_true rfl, Nat.le_of_ble_eq_true rfl⟩, (hts (.static yX6_nodeOf) (by decide +kernel)), trivial⟩ (As := [.int (k_cat 400 le (k_cat 400 x.2.1 (x.2.2 - 1)))]) (rest := [.ref (qe 0)]) rfl rfl hl.1 (Nat.le_of_ble_eq_true rfl) dX4_spread_44 ⟨Nat.le_of_ble_eq_true rfl, Nat.le_of_ble_eq_true rfl⟩ (fun r hr => ?_)
          subst hr
          refine k_cSUv (D := D) (κ := κ) (qc := (RX4, TX4, 3)) (ci := 4) (q0 := 0) (Wc := [wE κ qe (x.1, x.2.1, x.2.2 - 1)]) (W' := fun u_47 => [wE κ qe u_47]) (Wn := fun u_47 => [wE κ qe u_47, wG κ q so le gr ne si ou bo n om ob]) ⟨hx, hb, hml, hown, hts⟩ (c_X4_mark l D κ _ qe (x.1, x.2.1, x.2.2 - 1) (k_nodeOf (k_cat 400 le (k_cat 400 x.2.1 (x.2.2 - 1)))) ) (cwV 1 hts gX4_spread_X4_mark rfl rfl rfl (by decide +kernel) ⟨Nat.le_of_ble_eq_true rfl, Nat.le_of_ble_eq_true rfl⟩) hK hP hD hS hA [0] (by decide) rfl (List.flatten_singleton) (fun _ => (List.flatten_singleton)) rfl rfl (fun _ => rfl) (fun _ => rfl) (As := [.int (k_nodeOf (k_cat 400 le (k_cat 400 x.2.1 (x.2.2 - 1))))]) (rest := []) rfl rfl hl.1 (Nat.le_of_ble_eq_true rfl) dX4_spread_47 ⟨Nat.le_of_ble_eq_true rfl, Nat.le_of_ble_eq_true rfl⟩ (fun u_47 H locs hw9 hP hD hS => ?_)
          have hu_47 := hw9
          have hP : va_P D vwCl (List.flatten [wE κ qe u_47, wG κ q so le gr ne si ou bo n om ob]) H := hP
          have hD : va_D A (List.flatten [wE κ qe u_47, wG κ q so le gr ne si ou bo n om ob]) := hD
          refine lv_aload_n hx hb dX4_spread_50 rfl (lv_at hl 1 rfl) ?_
          refine lv_aload_n hx hb dX4_spread_51 rfl (lv_at hl 2 rfl) ?_
          refine lv_iload_n hx hb dX4_spread_52 rfl (lv_at hl 0 rfl) ?_
          refine k_cRO (D := D) (κ := κ) (qc := (RX1, TX1, 10)) (ci := 1) (q0 := 0) ⟨hx, hb, hml, hown, hts⟩ (c_X1_greaterFanin l D κ q so le gr ne si ou bo n om ob (k_cat 400 x.2.1 (x.2.2 - 1)) (by omega) (by omega) (by omega)) (cwV 1 hts gX4_spread_X1_greaterFanin rfl rfl rfl (by decide +kernel) ⟨Nat.le_of_ble_eq_true rfl, Nat.le_of_ble_eq_true rfl⟩) hK (k_sub1 (S := wG κ q so le gr ne si ou bo n om ob) hP 1 rfl) rfl rfl (As := [.int (k_cat 400 x.2.1 (x.2.2 - 1))]) (rest := [.ref (qe 0)]) rfl rfl hl.1 (Nat.le_of_ble_eq_true rfl) dX4_spread_53 ⟨Nat.le_of_ble_eq_true rfl, Nat.le_of_ble_eq_true rfl⟩ (fun r hr => ?_)
          subst hr
          refine k_cNS ⟨hx, hb, hml, hown, hts⟩ (c_X6_nodeOf l (k_cat 400 gr (k_cat 400 x.2.1 (x.2.2 - 1)))) ⟨va_cnB 1 hts ggX4_spread_X6_nodeOf rfl rfl rfl hK.2.2.2.2.2.2.1 (hts (.initialized RX6) (by decide +kernel)) (by decide +kernel) ⟨Nat.le_of_ble_eq_true rfl, Nat.le_of_ble_eq_true rfl⟩, (hts (.static yX6_nodeOf) (by decide +kernel)), trivial⟩ (As := [.int (k_cat 400 gr (k_cat 400 x.2.1 (x.2.2 - 1)))]) (rest := [.ref (qe 0)]) rfl rfl hl.1 (Nat.le_of_ble_eq_true rfl) dX4_spread_56 ⟨Nat.le_of_ble_eq_true rfl, Nat.le_of_ble_eq_true rfl⟩ (fun r hr => ?_)
          subst hr
          refine k_cSUv (D := D) (κ := κ) (qc := (RX4, TX4, 3)) (ci := 4) (q0 := 0) (Wc := [wE κ qe u_47]) (W' := fun u_59 => [wE κ qe u_59]) (Wn := fun u_59 => [wE κ qe u_59, wG κ q so le gr ne si ou bo n om ob]) ⟨hx, hb, hml, hown, hts⟩ (c_X4_mark l D κ _ qe u_47 (k_nodeOf (k_cat 400 gr (k_cat 400 x.2.1 (x.2.2 - 1)))) ) (cwV 1 hts gX4_spread_X4_mark rfl rfl rfl (by decide +kernel) ⟨Nat.le_of_ble_eq_true rfl, Nat.le_of_ble_eq_true rfl⟩) hK hP hD hS hA [0] (by decide) rfl (List.flatten_singleton) (fun _ => (List.flatten_singleton)) rfl rfl (fun _ => rfl) (fun _ => rfl) (As := [.int (k_nodeOf (k_cat 400 gr (k_cat 400 x.2.1 (x.2.2 - 1))))]) (rest := []) rfl rfl hl.1 (Nat.le_of_ble_eq_true rfl) dX4_spread_59 ⟨Nat.le_of_ble_eq_true rfl, Nat.le_of_ble_eq_true rfl⟩ (fun u_59 H locs hw9 hP hD hS => ?_)
          have hu_59 := hw9
          have hP : va_P D vwCl (List.flatten [wE κ qe u_59, wG κ q so le gr ne si ou bo n om ob]) H := hP
          have hD : va_D A (List.flatten [wE κ qe u_59, wG κ q so le gr ne si ou bo n om ob]) := hD
          refine lv_iinc (v := nI (i + 1)) (lv' := [(2, .int (nI (i + 1))), (3, .int (k_cat 400 x.2.1 (x.2.2 - 1))), (0, .ref (qe 0)), (1, .ref (q 0))]) hx hb dX4_spread_62 hl (k := 3) rfl (nI_1 _) (by decide) rfl (fun ls hl => ?_)
          refine lv_goto (tgt := 2) hx hb dX4_spread_65 (by decide) ?_
          exact ih u_59 (i + 1) H locs ls (by omega) (by rw [hr9, k_spr, if_neg c_13, hu_59, hu_47]; rfl) hP hD hS (lv_sub hl [2, 3, 0] rfl)
  exact lp 400 e0 0 _ _ ls (by omega) rfl hP hD hS (lv_sub hl [1, 2, 0] rfl)
set_option maxHeartbeats 4000000 in
set_option maxRecDepth 100000 in
theorem c_X4_isAtOrAbove (l : Launch) (D : va_G) (κ : Nat → ClassId) (sz : Nat) (qe : Nat → Nat) (e0 : KE) (q : Nat → Nat) (so le gr ne si ou bo : Nat → Int32) (n om ob : Nat) (p1 p2 : Int32) (hn : n ≤ 400) (hom : om ≤ 40) (hob : ob ≤ om) : k_mui (S := KE) l yX4_isAtOrAbove wsX4_isAtOrAbove 3 66 0 0 D κ [.ref (qe 0), .ref (q 0), .int p1, .int p2] (List.flatten [wE κ qe e0, wG κ q so le gr ne si ou bo n om ob]) sz (fun r u => (r = if k_cat 400 (k_spr le gr 400 (k_mark p1 (k_clr e0))).1 p2 = 1 then 1 else 0) ∧ u = k_spr le gr 400 (k_mark p1 (k_clr e0))) (fun u => List.flatten [wE κ qe u, wG κ q so le gr ne si ou bo n om ob]) := by
  refine Met.ofW (cc := cX4_isAtOrAbove) (maxL := 4) (ret := (some .boolean)) (by decide) rfl ?_
  intro p e s m args below meth c s₁ B hml hv
  obtain ⟨rfl, hsz, hK, hP, hD0⟩ := hv
  have hx := B.exec
  have hb := B.bytes
  have hr := B.returns
  have hts := atoms_spec (ws := wsX4_isAtOrAbove) B.pre
  have hown : s.vm.findClass RX4 = some m.cls := findClass_of_methodNamed B.named
  have hlocks := B.notSynchronized
  subst hsz
  have hD := hD0.self (sz := s.heap.size)
  generalize hAe : va_A (List.flatten [wE κ qe e0, wG κ q so le gr ne si ou bo n om ob]) s.heap.size = A at hD ⊢
  have hA : ∀ q : Nat, s.heap.size ≤ q → A q := fun q h => by rw [← hAe]; exact Or.inr h
  have hS : va_S A s.heap s.heap [] := va_S.rf
  have hP : va_P D vwCl (List.flatten [wE κ qe e0, wG κ q so le gr ne si ou bo n om ob]) s.heap := hP
  have hl := lv_entry ([.ref (qe 0), .ref (q 0), .int p1, .int p2]) (n := 4) (Nat.le_of_ble_eq_true rfl)
  rw [lg_entry_eq]
  generalize (lg_sl ([.ref (qe 0), .ref (q 0), .int p1, .int p2]) ++ List.replicate (4 - (lg_sl ([.ref (qe 0), .ref (q 0), .int p1, .int p2])).length) Slot.unset).toArray = ls at hl ⊢
  have hl : lv_has ls 4 [(0, .ref (qe 0)), (1, .ref (q 0)), (2, .int p1), (3, .int p2)] := hl
  refine lv_aload_n hx hb dX4_isAtOrAbove_0 rfl (lv_at hl 0 rfl) ?_
  refine k_cSUv (D := D) (κ := κ) (qc := (RX4, TX4, 3)) (ci := 4) (q0 := 0) (Wc := [wE κ qe e0]) (W' := fun u_1 => [wE κ qe u_1]) (Wn := fun u_1 => [wE κ qe u_1, wG κ q so le gr ne si ou bo n om ob]) ⟨hx, hb, hml, hown, hts⟩ (c_X4_clear l D κ _ qe e0  ) (cwV 0 hts gX4_isAtOrAbove_X4_clear rfl rfl rfl (by decide +kernel) ⟨Nat.le_of_ble_eq_true rfl, Nat.le_of_ble_eq_true rfl⟩) hK hP hD hS hA [0] (by decide) rfl (List.flatten_singleton) (fun _ => (List.flatten_singleton)) rfl rfl (fun _ => rfl) (fun _ => rfl) (As := []) (rest := []) rfl rfl hl.1 (Nat.le_of_ble_eq_true rfl) dX4_isAtOrAbove_1 ⟨Nat.le_of_ble_eq_true rfl, Nat.le_of_ble_eq_true rfl⟩ (fun u_1 H locs hw9 hP hD hS => ?_)
  have hu_1 := hw9
  have hP : va_P D vwCl (List.flatten [wE κ qe u_1, wG κ q so le gr ne si ou bo n om ob]) H := hP
  have hD : va_D A (List.flatten [wE κ qe u_1, wG κ q so le gr ne si ou bo n om ob]) := hD
  refine lv_aload_n hx hb dX4_isAtOrAbove_4 rfl (lv_at hl 0 rfl) ?_
  refine lv_iload_n hx hb dX4_isAtOrAbove_5 rfl (lv_at hl 2 rfl) ?_
  refine k_cSUv (D := D) (κ := κ) (qc := (RX4, TX4, 3)) (ci := 4) (q0 := 0) (Wc := [wE κ qe u_1]) (W' := fun u_6 => [wE κ qe u_6]) (Wn := fun u_6 => [wE κ qe u_6, wG κ q so le gr ne si ou bo n om ob]) ⟨hx, hb, hml, hown, hts⟩ (c_X4_mark l D κ _ qe u_1 p1 ) (cwV 1 hts gX4_isAtOrAbove_X4_mark rfl rfl rfl (by decide +kernel) ⟨Nat.le_of_ble_eq_true rfl, Nat.le_of_ble_eq_true rfl⟩) hK hP hD hS hA [0] (by decide) rfl (List.flatten_singleton) (fun _ => (List.flatten_singleton)) rfl rfl (fun _ => rfl) (fun _ => rfl) (As := [.int p1]) (rest := []) rfl rfl hl.1 (Nat.le_of_ble_eq_true rfl) dX4_isAtOrAbove_6 ⟨Nat.le_of_ble_eq_true rfl, Nat.le_of_ble_eq_true rfl⟩ (fun u_6 H locs hw9 hP hD hS => ?_)
  have hu_6 := hw9
  have hP : va_P D vwCl (List.flatten [wE κ qe u_6, wG κ q so le gr ne si ou bo n om ob]) H := hP
  have hD : va_D A (List.flatten [wE κ qe u_6, wG κ q so le gr ne si ou bo n om ob]) := hD
  refine lv_aload_n hx hb dX4_isAtOrAbove_9 rfl (lv_at hl 0 rfl) ?_
  refine lv_aload_n hx hb dX4_isAtOrAbove_10 rfl (lv_at hl 1 rfl) ?_
  refine k_cSUv (D := D) (κ := κ) (qc := (RX4, TX4, 3)) (ci := 4) (q0 := 0) (Wc := [wE κ qe u_6, wG κ q so le gr ne si ou bo n om ob]) (W' := fun u_11 => [wE κ qe u_11, wG κ q so le gr ne si ou bo n om ob]) (Wn := fun u_11 => [wE κ qe u_11, wG κ q so le gr ne si ou bo n om ob]) ⟨hx, hb, hml, hown, hts⟩ (c_X4_spread l D κ _ qe u_6 q so le gr ne si ou bo n om ob  (by omega) (by omega) (by omega)) (cwV 1 hts gX4_isAtOrAbove_X4_spread rfl rfl rfl (by decide +kernel) ⟨Nat.le_of_ble_eq_true rfl, Nat.le_of_ble_eq_true rfl⟩) hK hP hD hS hA [0, 1] (by decide) rfl rfl (fun _ => rfl) rfl rfl (fun _ => rfl) (fun _ => rfl) (As := [.ref (q 0)]) (rest := []) rfl rfl hl.1 (Nat.le_of_ble_eq_true rfl) dX4_isAtOrAbove_11 ⟨Nat.le_of_ble_eq_true rfl, Nat.le_of_ble_eq_true rfl⟩ (fun u_11 H locs hw9 hP hD hS => ?_)
  have hu_11 := hw9
  have hP : va_P D vwCl (List.flatten [wE κ qe u_11, wG κ q so le gr ne si ou bo n om ob]) H := hP
  have hD : va_D A (List.flatten [wE κ qe u_11, wG κ q so le gr ne si ou bo n om ob]) := hD
  refine lv_aload_n hx hb dX4_isAtOrAbove_14 rfl (lv_at hl 0 rfl) ?_
  refine lv_iload_n hx hb dX4_isAtOrAbove_15 rfl (lv_at hl 3 rfl) ?_
  refine k_cRO (D := D) (κ := κ) (qc := (RX4, TX4, 3)) (ci := 4) (q0 := 0) ⟨hx, hb, hml, hown, hts⟩ (c_X4_has l D κ qe u_11 p2 ) (cwV 1 hts gX4_isAtOrAbove_X4_has rfl rfl rfl (by decide +kernel) ⟨Nat.le_of_ble_eq_true rfl, Nat.le_of_ble_eq_true rfl⟩) hK (k_sub1 (S := wE κ qe u_11) hP 0 rfl) rfl rfl (As := [.int p2]) (rest := []) rfl rfl hl.1 (Nat.le_of_ble_eq_true rfl) dX4_isAtOrAbove_16 ⟨Nat.le_of_ble_eq_true rfl, Nat.le_of_ble_eq_true rfl⟩ (fun r hr => ?_)
  subst hr
  exact W.zret (ty := .boolean) (v := if k_cat 400 u_11.1 p2 = 1 then 1 else 0) hx hb hr (by repeat (first | rfl | split)) (fun t ht hW => ⟨⟨if k_cat 400 u_11.1 p2 = 1 then 1 else 0, u_11, rfl, ⟨by rw [hu_11, hu_6, hu_1], by rw [hu_11, hu_6, hu_1]⟩, by rw [ht]; exact hP, hD⟩, hS.F ht⟩) hS.2.2 dX4_isAtOrAbove_19
set_option maxHeartbeats 4000000 in
set_option maxRecDepth 100000 in
theorem c_X4_spreadFromUsers (l : Launch) (D : va_G) (κ : Nat → ClassId) (sz : Nat) (qe : Nat → Nat) (e0 : KE) (q : Nat → Nat) (so le gr ne si ou bo : Nat → Int32) (n om ob : Nat)  (hn : n ≤ 400) (hom : om ≤ 40) (hob : ob ≤ om) : k_muv (S := KE) l yX4_spreadFromUsers wsX4_spreadFromUsers 3 66 0 0 D κ [.ref (qe 0), .ref (q 0)] (List.flatten [wE κ qe e0, wG κ q so le gr ne si ou bo n om ob]) sz (fun u => u = k_spr le gr 400 (k_mkR 400 ne (k_mkR 40 ou (k_clr e0) om) n)) (fun u => List.flatten [wE κ qe u, wG κ q so le gr ne si ou bo n om ob]) := by
  refine Met.ofW (cc := cX4_spreadFromUsers) (maxL := 3) (ret := none) (by decide) rfl ?_
  intro p e s m args below meth c s₁ B hml hv
  obtain ⟨rfl, hsz, hK, hP, hD0⟩ := hv
  have hx := B.exec
  have hb := B.bytes
  have hr := B.returns
  have hts := atoms_spec (ws := wsX4_spreadFromUsers) B.pre
  have hown : s.vm.findClass RX4 = some m.cls := findClass_of_methodNamed B.named
  have hlocks := B.notSynchronized
  subst hsz
  have hD := hD0.self (sz := s.heap.size)
  generalize hAe : va_A (List.flatten [wE κ qe e0, wG κ q so le gr ne si ou bo n om ob]) s.heap.size = A at hD ⊢
  have hA : ∀ q : Nat, s.heap.size ≤ q → A q := fun q h => by rw [← hAe]; exact Or.inr h
  have hS : va_S A s.heap s.heap [] := va_S.rf
  have hP : va_P D vwCl (List.flatten [wE κ qe e0, wG κ q so le gr ne si ou bo n om ob]) s.heap := hP
  have hl := lv_entry ([.ref (qe 0), .ref (q 0)]) (n := 3) (Nat.le_of_ble_eq_true rfl)
  rw [lg_entry_eq]
  generalize (lg_sl ([.ref (qe 0), .ref (q 0)]) ++ List.replicate (3 - (lg_sl ([.ref (qe 0), .ref (q 0)])).length) Slot.unset).toArray = ls at hl ⊢
  have hl : lv_has ls 3 [(0, .ref (qe 0)), (1, .ref (q 0))] := hl
  refine lv_aload_n hx hb dX4_spreadFromUsers_0 rfl (lv_at hl 0 rfl) ?_
  refine k_cSUv (D := D) (κ := κ) (qc := (RX4, TX4, 3)) (ci := 4) (q0 := 0) (Wc := [wE κ qe e0]) (W' := fun u_1 => [wE κ qe u_1]) (Wn := fun u_1 => [wE κ qe u_1, wG κ q so le gr ne si ou bo n om ob]) ⟨hx, hb, hml, hown, hts⟩ (c_X4_clear l D κ _ qe e0  ) (cwV 0 hts gX4_spreadFromUsers_X4_clear rfl rfl rfl (by decide +kernel) ⟨Nat.le_of_ble_eq_true rfl, Nat.le_of_ble_eq_true rfl⟩) hK hP hD hS hA [0] (by decide) rfl (List.flatten_singleton) (fun _ => (List.flatten_singleton)) rfl rfl (fun _ => rfl) (fun _ => rfl) (As := []) (rest := []) rfl rfl hl.1 (Nat.le_of_ble_eq_true rfl) dX4_spreadFromUsers_1 ⟨Nat.le_of_ble_eq_true rfl, Nat.le_of_ble_eq_true rfl⟩ (fun u_1 H locs hw9 hP hD hS => ?_)
  have hu_1 := hw9
  have hP : va_P D vwCl (List.flatten [wE κ qe u_1, wG κ q so le gr ne si ou bo n om ob]) H := hP
  have hD : va_D A (List.flatten [wE κ qe u_1, wG κ q so le gr ne si ou bo n om ob]) := hD
  refine lv_iconst (v := 0) hx hb dX4_spreadFromUsers_4 (by decide) ?_
  refine lv_istore_n (lv' := [(2, .int 0), (0, .ref (qe 0)), (1, .ref (q 0))]) hx hb dX4_spreadFromUsers_5 rfl hl (by decide) rfl (fun ls hl => ?_)
  have lq : ∀ (k : Nat) (x : KE) (i : Nat) (H : Heap) (locs : List Loc) (ls : Array Slot), (i + k = n) → (x = k_mkR 400 ne (k_mkR 40 ou (k_clr e0) om) i) → va_P D vwCl (List.flatten [wE κ qe x, wG κ q so le gr ne si ou bo n om ob]) H → va_D A (List.flatten [wE κ qe x, wG κ q so le gr ne si ou bo n om ob]) → va_S A s.heap H locs → lv_has ls 3 [(0, .ref (qe 0)), (1, .ref (q 0)), (2, .int (nI i))] → W p l e (headSpec wsX4_spreadFromUsers ({ frames := 3, cells := 0, slots := 0, locals := 66 })).room s m ([.ref (qe 0), .ref (q 0)] : List Value).toArray below meth c H locs 0 0 (MQ below (va_Qv (S := KE) (fun u => u = k_spr le gr 400 (k_mkR 400 ne (k_mkR 40 ou (k_clr e0) om) n)) (fun u => k_B D A (List.flatten [wE κ qe u, wG κ q so le gr ne si ou bo n om ob])) A) ([.ref (qe 0), .ref (q 0)] : List Value).toArray s 0 0 A) (F0 m 34 ls []) := by
    intro k
    induction k with
    | zero =>
      intro x i H locs ls hi hx9 hP hD hS hl
      refine lv_iload_n hx hb dX4_spreadFromUsers_34 rfl (lv_at hl 2 rfl) ?_
      refine lv_aload_n hx hb dX4_spreadFromUsers_35 rfl (lv_at hl 1 rfl) ?_
      refine k_cRO (D := D) (κ := κ) (qc := (RX1, TX1, 10)) (ci := 1) (q0 := 0) ⟨hx, hb, hml, hown, hts⟩ (c_X1_nodesGiven l D κ q so le gr ne si ou bo n om ob  (by omega) (by omega) (by omega)) (cwV 0 hts gX4_spreadFromUsers_X1_nodesGiven rfl rfl rfl (by decide +kernel) ⟨Nat.le_of_ble_eq_true rfl, Nat.le_of_ble_eq_true rfl⟩) hK (k_sub1 (S := wG κ q so le gr ne si ou bo n om ob) hP 1 rfl) rfl rfl (As := []) (rest := [.int (nI i)]) rfl rfl hl.1 (Nat.le_of_ble_eq_true rfl) dX4_spreadFromUsers_36 ⟨Nat.le_of_ble_eq_true rfl, Nat.le_of_ble_eq_true rfl⟩ (fun r hr => ?_)
      subst hr
      refine lv_icmp_ge (tgt := 60) hx hb dX4_spreadFromUsers_39 (by decide) (fun c_39 => ?_) (fun c_39 => ?_)
      · skip
        have c_39 : n ≤ i := (nI_leI (a := n) (b := i) (by omega) (by omega)).mp c_39
        have e9 : n = i := by omega
        subst e9
        refine lv_aload_n hx hb dX4_spreadFromUsers_60 rfl (lv_at hl 0 rfl) ?_
        refine lv_aload_n hx hb dX4_spreadFromUsers_61 rfl (lv_at hl 1 rfl) ?_
        refine k_cSUv (D := D) (κ := κ) (qc := (RX4, TX4, 3)) (ci := 4) (q0 := 0) (Wc := [wE κ qe x, wG κ q so le gr ne si ou bo n om ob]) (W' := fun u_62 => [wE κ qe u_62, wG κ q so le gr ne si ou bo n om ob]) (Wn := fun u_62 => [wE κ qe u_62, wG κ q so le gr ne si ou bo n om ob]) ⟨hx, hb, hml, hown, hts⟩ (c_X4_spread l D κ _ qe x q so le gr ne si ou bo n om ob  (by omega) (by omega) (by omega)) (cwV 1 hts gX4_spreadFromUsers_X4_spread rfl rfl rfl (by decide +kernel) ⟨Nat.le_of_ble_eq_true rfl, Nat.le_of_ble_eq_true rfl⟩) hK hP hD hS hA [0, 1] (by decide) rfl rfl (fun _ => rfl) rfl rfl (fun _ => rfl) (fun _ => rfl) (As := [.ref (q 0)]) (rest := []) rfl rfl hl.1 (Nat.le_of_ble_eq_true rfl) dX4_spreadFromUsers_62 ⟨Nat.le_of_ble_eq_true rfl, Nat.le_of_ble_eq_true rfl⟩ (fun u_62 H locs hw9 hP hD hS => ?_)
        have hu_62 := hw9
        have hP : va_P D vwCl (List.flatten [wE κ qe u_62, wG κ q so le gr ne si ou bo n om ob]) H := hP
        have hD : va_D A (List.flatten [wE κ qe u_62, wG κ q so le gr ne si ou bo n om ob]) := hD
        exact W.vret hx hb hr (fun t ht hW => ⟨⟨u_62, rfl, (by rw [hu_62, hx9]), by rw [ht]; exact hP, hD⟩, hS.F ht⟩) hS.2.2 dX4_spreadFromUsers_65
      · skip
        have c_39 : ¬ (n ≤ i) := fun h9 => c_39 ((nI_leI (a := n) (b := i) (by omega) (by omega)).mpr h9)
        exfalso; omega
    | succ k ih =>
      intro x i H locs ls hi hx9 hP hD hS hl
      refine lv_iload_n hx hb dX4_spreadFromUsers_34 rfl (lv_at hl 2 rfl) ?_
      refine lv_aload_n hx hb dX4_spreadFromUsers_35 rfl (lv_at hl 1 rfl) ?_
      refine k_cRO (D := D) (κ := κ) (qc := (RX1, TX1, 10)) (ci := 1) (q0 := 0) ⟨hx, hb, hml, hown, hts⟩ (c_X1_nodesGiven l D κ q so le gr ne si ou bo n om ob  (by omega) (by omega) (by omega)) (cwV 0 hts gX4_spreadFromUsers_X1_nodesGiven rfl rfl rfl (by decide +kernel) ⟨Nat.le_of_ble_eq_true rfl, Nat.le_of_ble_eq_true rfl⟩) hK (k_sub1 (S := wG κ q so le gr ne si ou bo n om ob) hP 1 rfl) rfl rfl (As := []) (rest := [.int (nI i)]) rfl rfl hl.1 (Nat.le_of_ble_eq_true rfl) dX4_spreadFromUsers_36 ⟨Nat.le_of_ble_eq_true rfl, Nat.le_of_ble_eq_true rfl⟩ (fun r hr => ?_)
      subst hr
      refine lv_icmp_ge (tgt := 60) hx hb dX4_spreadFromUsers_39 (by decide) (fun c_39 => ?_) (fun c_39 => ?_)
      · skip
        have c_39 : n ≤ i := (nI_leI (a := n) (b := i) (by omega) (by omega)).mp c_39
        exfalso; omega
      · skip
        have c_39 : ¬ (n ≤ i) := fun h9 => c_39 ((nI_leI (a := n) (b := i) (by omega) (by omega)).mpr h9)
        refine lv_aload_n hx hb dX4_spreadFromUsers_42 rfl (lv_at hl 0 rfl) ?_
        refine lv_aload_n hx hb dX4_spreadFromUsers_43 rfl (lv_at hl 1 rfl) ?_
        refine lv_iload_n hx hb dX4_spreadFromUsers_44 rfl (lv_at hl 2 rfl) ?_
        refine k_cRO (D := D) (κ := κ) (qc := (RX1, TX1, 10)) (ci := 1) (q0 := 0) ⟨hx, hb, hml, hown, hts⟩ (c_X1_nextLiteral l D κ q so le gr ne si ou bo n om ob (nI i) (by omega) (by omega) (by omega)) (cwV 1 hts gX4_spreadFromUsers_X1_nextLiteral rfl rfl rfl (by decide +kernel) ⟨Nat.le_of_ble_eq_true rfl, Nat.le_of_ble_eq_true rfl⟩) hK (k_sub1 (S := wG κ q so le gr ne si ou bo n om ob) hP 1 rfl) rfl rfl (As := [.int (nI i)]) (rest := [.ref (qe 0)]) rfl rfl hl.1 (Nat.le_of_ble_eq_true rfl) dX4_spreadFromUsers_45 ⟨Nat.le_of_ble_eq_true rfl, Nat.le_of_ble_eq_true rfl⟩ (fun r hr => ?_)
        subst hr
        refine k_cNS ⟨hx, hb, hml, hown, hts⟩ (c_X6_nodeOf l (k_cat 400 ne (nI i))) ⟨va_cnB 1 hts ggX4_spreadFromUsers_X6_nodeOf rfl rfl rfl hK.2.2.2.2.2.2.1 (hts (.initialized RX6) (by decide +kernel)) (by decide +kernel) ⟨Nat.le_of_ble_eq_true rfl, Nat.le_of_ble_eq_true rfl⟩, (hts (.static yX6_nodeOf) (by decide +kernel)), trivial⟩ (As := [.int (k_cat 400 ne (nI i))]) (rest := [.ref (qe 0)]) rfl rfl hl.1 (Nat.le_of_ble_eq_true rfl) dX4_spreadFromUsers_48 ⟨Nat.le_of_ble_eq_true rfl, Nat.le_of_ble_eq_true rfl⟩ (fun r hr => ?_)
        subst hr
        refine k_cSUv (D := D) (κ := κ) (qc := (RX4, TX4, 3)) (ci := 4) (q0 := 0) (Wc := [wE κ qe x]) (W' := fun u_51 => [wE κ qe u_51]) (Wn := fun u_51 => [wE κ qe u_51, wG κ q so le gr ne si ou bo n om ob]) ⟨hx, hb, hml, hown, hts⟩ (c_X4_mark l D κ _ qe x (k_nodeOf (k_cat 400 ne (nI i))) ) (cwV 1 hts gX4_spreadFromUsers_X4_mark rfl rfl rfl (by decide +kernel) ⟨Nat.le_of_ble_eq_true rfl, Nat.le_of_ble_eq_true rfl⟩) hK hP hD hS hA [0] (by decide) rfl (List.flatten_singleton) (fun _ => (List.flatten_singleton)) rfl rfl (fun _ => rfl) (fun _ => rfl) (As := [.int (k_nodeOf (k_cat 400 ne (nI i)))]) (rest := []) rfl rfl hl.1 (Nat.le_of_ble_eq_true rfl) dX4_spreadFromUsers_51 ⟨Nat.le_of_ble_eq_true rfl, Nat.le_of_ble_eq_true rfl⟩ (fun u_51 H locs hw9 hP hD hS => ?_)
        have hu_51 := hw9
        have hP : va_P D vwCl (List.flatten [wE κ qe u_51, wG κ q so le gr ne si ou bo n om ob]) H := hP
        have hD : va_D A (List.flatten [wE κ qe u_51, wG κ q so le gr ne si ou bo n om ob]) := hD
        refine lv_iinc (v := nI (i + 1)) (lv' := [(2, .int (nI (i + 1))), (0, .ref (qe 0)), (1, .ref (q 0))]) hx hb dX4_spreadFromUsers_54 hl (k := 2) rfl (nI_1 _) (by decide) rfl (fun ls hl => ?_)
        refine lv_goto (tgt := 34) hx hb dX4_spreadFromUsers_57 (by decide) ?_
        exact ih u_51 (i + 1) H locs ls (by omega) (by rw [hu_51, hx9]; rfl) hP hD hS (lv_sub hl [1, 2, 0] rfl)
  have lp : ∀ (k : Nat) (x : KE) (i : Nat) (H : Heap) (locs : List Loc) (ls : Array Slot), (i + k = om) → (x = k_mkR 40 ou (k_clr e0) i) → va_P D vwCl (List.flatten [wE κ qe x, wG κ q so le gr ne si ou bo n om ob]) H → va_D A (List.flatten [wE κ qe x, wG κ q so le gr ne si ou bo n om ob]) → va_S A s.heap H locs → lv_has ls 3 [(0, .ref (qe 0)), (1, .ref (q 0)), (2, .int (nI i))] → W p l e (headSpec wsX4_spreadFromUsers ({ frames := 3, cells := 0, slots := 0, locals := 66 })).room s m ([.ref (qe 0), .ref (q 0)] : List Value).toArray below meth c H locs 0 0 (MQ below (va_Qv (S := KE) (fun u => u = k_spr le gr 400 (k_mkR 400 ne (k_mkR 40 ou (k_clr e0) om) n)) (fun u => k_B D A (List.flatten [wE κ qe u, wG κ q so le gr ne si ou bo n om ob])) A) ([.ref (qe 0), .ref (q 0)] : List Value).toArray s 0 0 A) (F0 m 6 ls []) := by
    intro k
    induction k with
    | zero =>
      intro x i H locs ls hi hx9 hP hD hS hl
      refine lv_iload_n hx hb dX4_spreadFromUsers_6 rfl (lv_at hl 2 rfl) ?_
      refine lv_aload_n hx hb dX4_spreadFromUsers_7 rfl (lv_at hl 1 rfl) ?_
      refine k_cRO (D := D) (κ := κ) (qc := (RX1, TX1, 10)) (ci := 1) (q0 := 0) ⟨hx, hb, hml, hown, hts⟩ (c_X1_outputsGiven l D κ q so le gr ne si ou bo n om ob  (by omega) (by omega) (by omega)) (cwV 0 hts gX4_spreadFromUsers_X1_outputsGiven rfl rfl rfl (by decide +kernel) ⟨Nat.le_of_ble_eq_true rfl, Nat.le_of_ble_eq_true rfl⟩) hK (k_sub1 (S := wG κ q so le gr ne si ou bo n om ob) hP 1 rfl) rfl rfl (As := []) (rest := [.int (nI i)]) rfl rfl hl.1 (Nat.le_of_ble_eq_true rfl) dX4_spreadFromUsers_8 ⟨Nat.le_of_ble_eq_true rfl, Nat.le_of_ble_eq_true rfl⟩ (fun r hr => ?_)
      subst hr
      refine lv_icmp_ge (tgt := 32) hx hb dX4_spreadFromUsers_11 (by decide) (fun c_11 => ?_) (fun c_11 => ?_)
      · skip
        have c_11 : om ≤ i := (nI_leI (a := om) (b := i) (by omega) (by omega)).mp c_11
        have e9 : om = i := by omega
        subst e9
        refine lv_iconst (v := 0) hx hb dX4_spreadFromUsers_32 (by decide) ?_
        refine lv_istore_n (lv' := [(2, .int 0), (0, .ref (qe 0)), (1, .ref (q 0))]) hx hb dX4_spreadFromUsers_33 rfl hl (by decide) rfl (fun ls hl => ?_)
        exact lq n x 0 H locs ls (by omega) hx9 hP hD hS (lv_sub hl [1, 2, 0] rfl)
      · skip
        have c_11 : ¬ (om ≤ i) := fun h9 => c_11 ((nI_leI (a := om) (b := i) (by omega) (by omega)).mpr h9)
        exfalso; omega
    | succ k ih =>
      intro x i H locs ls hi hx9 hP hD hS hl
      refine lv_iload_n hx hb dX4_spreadFromUsers_6 rfl (lv_at hl 2 rfl) ?_
      refine lv_aload_n hx hb dX4_spreadFromUsers_7 rfl (lv_at hl 1 rfl) ?_
      refine k_cRO (D := D) (κ := κ) (qc := (RX1, TX1, 10)) (ci := 1) (q0 := 0) ⟨hx, hb, hml, hown, hts⟩ (c_X1_outputsGiven l D κ q so le gr ne si ou bo n om ob  (by omega) (by omega) (by omega)) (cwV 0 hts gX4_spreadFromUsers_X1_outputsGiven rfl rfl rfl (by decide +kernel) ⟨Nat.le_of_ble_eq_true rfl, Nat.le_of_ble_eq_true rfl⟩) hK (k_sub1 (S := wG κ q so le gr ne si ou bo n om ob) hP 1 rfl) rfl rfl (As := []) (rest := [.int (nI i)]) rfl rfl hl.1 (Nat.le_of_ble_eq_true rfl) dX4_spreadFromUsers_8 ⟨Nat.le_of_ble_eq_true rfl, Nat.le_of_ble_eq_true rfl⟩ (fun r hr => ?_)
      subst hr
      refine lv_icmp_ge (tgt := 32) hx hb dX4_spreadFromUsers_11 (by decide) (fun c_11 => ?_) (fun c_11 => ?_)
      · skip
        have c_11 : om ≤ i := (nI_leI (a := om) (b := i) (by omega) (by omega)).mp c_11
        exfalso; omega
      · skip
        have c_11 : ¬ (om ≤ i) := fun h9 => c_11 ((nI_leI (a := om) (b := i) (by omega) (by omega)).mpr h9)
        refine lv_aload_n hx hb dX4_spreadFromUsers_14 rfl (lv_at hl 0 rfl) ?_
        refine lv_aload_n hx hb dX4_spreadFromUsers_15 rfl (lv_at hl 1 rfl) ?_
        refine lv_iload_n hx hb dX4_spreadFromUsers_16 rfl (lv_at hl 2 rfl) ?_
        refine k_cRO (D := D) (κ := κ) (qc := (RX1, TX1, 10)) (ci := 1) (q0 := 0) ⟨hx, hb, hml, hown, hts⟩ (c_X1_outputLiteral l D κ q so le gr ne si ou bo n om ob (nI i) (by omega) (by omega) (by omega)) (cwV 1 hts gX4_spreadFromUsers_X1_outputLiteral rfl rfl rfl (by decide +kernel) ⟨Nat.le_of_ble_eq_true rfl, Nat.le_of_ble_eq_true rfl⟩) hK (k_sub1 (S := wG κ q so le gr ne si ou bo n om ob) hP 1 rfl) rfl rfl (As := [.int (nI i)]) (rest := [.ref (qe 0)]) rfl rfl hl.1 (Nat.le_of_ble_eq_true rfl) dX4_spreadFromUsers_17 ⟨Nat.le_of_ble_eq_true rfl, Nat.le_of_ble_eq_true rfl⟩ (fun r hr => ?_)
        subst hr
        refine k_cNS ⟨hx, hb, hml, hown, hts⟩ (c_X6_nodeOf l (k_cat 40 ou (nI i))) ⟨va_cnB 1 hts ggX4_spreadFromUsers_X6_nodeOf rfl rfl rfl hK.2.2.2.2.2.2.1 (hts (.initialized RX6) (by decide +kernel)) (by decide +kernel) ⟨Nat.le_of_ble_eq_true rfl, Nat.le_of_ble_eq_true rfl⟩, (hts (.static yX6_nodeOf) (by decide +kernel)), trivial⟩ (As := [.int (k_cat 40 ou (nI i))]) (rest := [.ref (qe 0)]) rfl rfl hl.1 (Nat.le_of_ble_eq_true rfl) dX4_spreadFromUsers_20 ⟨Nat.le_of_ble_eq_true rfl, Nat.le_of_ble_eq_true rfl⟩ (fun r hr => ?_)
        subst hr
        refine k_cSUv (D := D) (κ := κ) (qc := (RX4, TX4, 3)) (ci := 4) (q0 := 0) (Wc := [wE κ qe x]) (W' := fun u_23 => [wE κ qe u_23]) (Wn := fun u_23 => [wE κ qe u_23, wG κ q so le gr ne si ou bo n om ob]) ⟨hx, hb, hml, hown, hts⟩ (c_X4_mark l D κ _ qe x (k_nodeOf (k_cat 40 ou (nI i))) ) (cwV 1 hts gX4_spreadFromUsers_X4_mark rfl rfl rfl (by decide +kernel) ⟨Nat.le_of_ble_eq_true rfl, Nat.le_of_ble_eq_true rfl⟩) hK hP hD hS hA [0] (by decide) rfl (List.flatten_singleton) (fun _ => (List.flatten_singleton)) rfl rfl (fun _ => rfl) (fun _ => rfl) (As := [.int (k_nodeOf (k_cat 40 ou (nI i)))]) (rest := []) rfl rfl hl.1 (Nat.le_of_ble_eq_true rfl) dX4_spreadFromUsers_23 ⟨Nat.le_of_ble_eq_true rfl, Nat.le_of_ble_eq_true rfl⟩ (fun u_23 H locs hw9 hP hD hS => ?_)
        have hu_23 := hw9
        have hP : va_P D vwCl (List.flatten [wE κ qe u_23, wG κ q so le gr ne si ou bo n om ob]) H := hP
        have hD : va_D A (List.flatten [wE κ qe u_23, wG κ q so le gr ne si ou bo n om ob]) := hD
        refine lv_iinc (v := nI (i + 1)) (lv' := [(2, .int (nI (i + 1))), (0, .ref (qe 0)), (1, .ref (q 0))]) hx hb dX4_spreadFromUsers_26 hl (k := 2) rfl (nI_1 _) (by decide) rfl (fun ls hl => ?_)
        refine lv_goto (tgt := 6) hx hb dX4_spreadFromUsers_29 (by decide) ?_
        exact ih u_23 (i + 1) H locs ls (by omega) (by rw [hu_23, hx9]; rfl) hP hD hS (lv_sub hl [1, 2, 0] rfl)
  exact lp om u_1 0 H locs ls (by omega) hu_1 hP hD hS (lv_sub hl [1, 2, 0] rfl)
