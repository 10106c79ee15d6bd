theorem iwX6_undo_6 : ∀ w ∈ wsX60, w ∈ wsX6_undo := by decide +kernel
set_option maxHeartbeats 4000000 in
set_option maxRecDepth 100000 in
theorem c_X6_undo (l : Launch) (D : va_G) (κ : Nat → ClassId) (sz : Nat) (q0 : Nat) (qh qr ql qe : Nat → Nat) (q : Nat → Nat) (so le gr ne si ou bo : Nat → Int32) (n om ob : Nat) (cs : Nat → Nat → Nat) (gs : Nat → KH) (made pl kp : Nat) (ro : Nat → Int64) (wo : Int32) (lv : Nat → Int32) (e0 : KE) (hn : n ≤ 400) (hom : om ≤ 40) (hob : ob ≤ om) (hgs : ∀ k, k < made → k_bG (gs k)) (hpl : pl < 30) (hpm : pl ≤ made) (hma : made ≤ 30) (hkp : kp ≤ 30) (hlat : kp ≠ 0 → (if 0 < pl then pl - 1 else 29) < made) : k_mui (S := XV) l yX6_undo wsX6_undo 4 105 24 2900 D κ [.ref q0] (List.flatten [wO q0 (q 0) (qh 0) (qr 0) (ql 0) (qe 0), wG κ q so le gr ne si ou bo n om ob, wH κ qh (k_rg cs made) pl kp, wR κ qr ro wo, wL κ ql lv, wE κ qe e0, wK κ cs gs made]) sz (fun r u => (kp = 0 ∧ r = 0 ∧ u = ((so, le, gr, ne, si, ou, bo, n, om, ob), (cs, gs, made, pl, kp), ro, wo, lv, e0)) ∨ (kp ≠ 0 ∧ r = 1 ∧ k_eqG u.1 (gs (if 0 < pl then pl - 1 else 29)) ∧ xcs u = cs ∧ xgs u = gs ∧ xmade u = made ∧ xkp u = kp - 1 ∧ xpl u = (if 0 < pl then pl - 1 else 29) ∧ xro u = ro ∧ xwo u = 0 ∧ xlv u = lv ∧ xe u = e0 ∧ True)) (fun u => wX κ q0 q qh qr ql qe u) := by
  refine Met.ofW (cc := cX6_undo) (maxL := 1) (ret := (some .boolean)) (by decide) rfl ?_
  intro p e s m args below meth c s₁ B hml hv
  obtain ⟨rfl, hsz, hK, hP, hD0⟩ := hv
  have hx := B.exec
  have hb := B.bytes
  have hr := B.returns
  have hts := atoms_spec (ws := wsX6_undo) B.pre
  have hown : s.vm.findClass RX6 = some m.cls := findClass_of_methodNamed B.named
  have hlocks := B.notSynchronized
  subst hsz
  have hD := hD0.self (sz := s.heap.size)
  generalize hAe : va_A (List.flatten [wO q0 (q 0) (qh 0) (qr 0) (ql 0) (qe 0), wG κ q so le gr ne si ou bo n om ob, wH κ qh (k_rg cs made) pl kp, wR κ qr ro wo, wL κ ql lv, wE κ qe e0, wK κ cs gs made]) s.heap.size = A at hD ⊢
  have hA : ∀ q : Nat, s.heap.size ≤ q → A q := fun q h => by rw [← hAe]; exact Or.inr h
  have hS : va_S A s.heap s.heap [] := va_S.rf
  have hP : va_P D vwCl (List.flatten [wO q0 (q 0) (qh 0) (qr 0) (ql 0) (qe 0), wG κ q so le gr ne si ou bo n om ob, wH κ qh (k_rg cs made) pl kp, wR κ qr ro wo, wL κ ql lv, wE κ qe e0, wK κ cs gs made]) s.heap := hP
  have hl := lv_entry ([.ref q0]) (n := 1) (Nat.le_of_ble_eq_true rfl)
  rw [lg_entry_eq]
  generalize (lg_sl ([.ref q0]) ++ List.replicate (1 - (lg_sl ([.ref q0])).length) Slot.unset).toArray = ls at hl ⊢
  have hl : lv_has ls 1 [(0, .ref q0)] := hl
  refine lv_aload_n hx hb dX6_undo_0 rfl (lv_at hl 0 rfl) ?_
  refine va_get (D := D) (ci := 6) (v := .ref (qh 0)) (C := RX6) (T := TX6) (N := 5) hx hb hts (iwX6_undo_6) hown hK.1 hP 0 rfl rfl 1 (by decide) (hts (.fieldLink RX6 19 "InverterGraphs" "history" "LInverterGraphs$History;") (by decide +kernel)) (fun _ h9 => h9) rfl dX6_undo_1 ?_
  refine lv_aload_n hx hb dX6_undo_4 rfl (lv_at hl 0 rfl) ?_
  refine va_get (D := D) (ci := 6) (v := .ref (q 0)) (C := RX6) (T := TX6) (N := 5) hx hb hts (iwX6_undo_6) hown hK.1 hP 0 rfl rfl 0 (by decide) (hts (.fieldLink RX6 12 "InverterGraphs" "graph" "LInverterGraphs$Graph;") (by decide +kernel)) (fun _ h9 => h9) rfl dX6_undo_5 ?_
  refine k_cSUi (D := D) (κ := κ) (qc := (RX2, TX2, 3)) (ci := 2) (q0 := 0) (Wc := [wH κ qh (k_rg cs made) pl kp, wG κ q so le gr ne si ou bo n om ob, wK κ cs gs made]) (W' := fun u_8 => [wH κ qh (k_rg cs made) (if kp = 0 then pl else (if 0 < pl then pl - 1 else 29)) (kp - 1), wG κ q (KH.so u_8) (KH.le u_8) (KH.gr u_8) (KH.ne u_8) (KH.si u_8) (KH.ou u_8) (KH.bo u_8) (KH.n u_8) (KH.om u_8) (KH.ob u_8), wK κ cs gs made]) (Wn := fun u_8 => [wO q0 (q 0) (qh 0) (qr 0) (ql 0) (qe 0), wG κ q (KH.so u_8) (KH.le u_8) (KH.gr u_8) (KH.ne u_8) (KH.si u_8) (KH.ou u_8) (KH.bo u_8) (KH.n u_8) (KH.om u_8) (KH.ob u_8), wH κ qh (k_rg cs made) (if kp = 0 then pl else (if 0 < pl then pl - 1 else 29)) (kp - 1), wR κ qr ro wo, wL κ ql lv, wE κ qe e0, wK κ cs gs made]) ⟨hx, hb, hml, hown, hts⟩ (c_X2_takeBack l D κ _ qh cs gs made pl kp q (so, le, gr, ne, si, ou, bo, n, om, ob) ⟨hn, hom, hob⟩ hgs hpl hpm hma hkp hlat) (cwV 1 hts gX6_undo_X2_takeBack rfl rfl rfl (by decide +kernel) ⟨Nat.le_of_ble_eq_true rfl, Nat.le_of_ble_eq_true rfl⟩) hK hP hD hS hA [2, 1, 6] (by decide) rfl rfl (fun _ => rfl) rfl rfl (fun _ => rfl) (fun _ => rfl) (As := [.ref (q 0)]) (rest := []) rfl rfl hl.1 (Nat.le_of_ble_eq_true rfl) dX6_undo_8 ⟨Nat.le_of_ble_eq_true rfl, Nat.le_of_ble_eq_true rfl⟩ (fun r u_8 H locs hw9 hP hD hS => ?_)
  have hr := hw9
  have hP : va_P D vwCl (List.flatten [wO q0 (q 0) (qh 0) (qr 0) (ql 0) (qe 0), wG κ q (KH.so u_8) (KH.le u_8) (KH.gr u_8) (KH.ne u_8) (KH.si u_8) (KH.ou u_8) (KH.bo u_8) (KH.n u_8) (KH.om u_8) (KH.ob u_8), wH κ qh (k_rg cs made) (if kp = 0 then pl else (if 0 < pl then pl - 1 else 29)) (kp - 1), wR κ qr ro wo, wL κ ql lv, wE κ qe e0, wK κ cs gs made]) H := hP
  have hD : va_D A (List.flatten [wO q0 (q 0) (qh 0) (qr 0) (ql 0) (qe 0), wG κ q (KH.so u_8) (KH.le u_8) (KH.gr u_8) (KH.ne u_8) (KH.si u_8) (KH.ou u_8) (KH.bo u_8) (KH.n u_8) (KH.om u_8) (KH.ob u_8), wH κ qh (k_rg cs made) (if kp = 0 then pl else (if 0 < pl then pl - 1 else 29)) (kp - 1), wR κ qr ro wo, wL κ ql lv, wE κ qe e0, wK κ cs gs made]) := hD
  refine lv_if_ne (tgt := 16) hx hb dX6_undo_11 (by decide) (fun c_11 => ?_) (fun c_11 => ?_)
  · skip
    refine lv_aload_n hx hb dX6_undo_16 rfl (lv_at hl 0 rfl) ?_
    refine va_get (D := D) (ci := 6) (v := .ref (qr 0)) (C := RX6) (T := TX6) (N := 5) hx hb hts (iwX6_undo_6) hown hK.1 hP 0 rfl rfl 2 (by decide) (hts (.fieldLink RX6 26 "InverterGraphs" "rows" "LInverterGraphs$Rows;") (by decide +kernel)) (fun _ h9 => h9) rfl dX6_undo_17 ?_
    refine k_cSUv (D := D) (κ := κ) (qc := (RX5, TX5, 2)) (ci := 5) (q0 := 0) (Wc := [wR κ qr ro wo]) (W' := fun _ => [wR κ qr ro 0]) (Wn := fun _ => [wO q0 (q 0) (qh 0) (qr 0) (ql 0) (qe 0), wG κ q (KH.so u_8) (KH.le u_8) (KH.gr u_8) (KH.ne u_8) (KH.si u_8) (KH.ou u_8) (KH.bo u_8) (KH.n u_8) (KH.om u_8) (KH.ob u_8), wH κ qh (k_rg cs made) (if kp = 0 then pl else (if 0 < pl then pl - 1 else 29)) (kp - 1), wR κ qr ro 0, wL κ ql lv, wE κ qe e0, wK κ cs gs made]) ⟨hx, hb, hml, hown, hts⟩ (c_X5_forget l D κ _ qr ro wo  ) (cwV 0 hts gX6_undo_X5_forget rfl rfl rfl (by decide +kernel) ⟨Nat.le_of_ble_eq_true rfl, Nat.le_of_ble_eq_true rfl⟩) hK hP hD hS hA [3] (by decide) rfl (List.flatten_singleton) (fun _ => (List.flatten_singleton)) rfl rfl (fun _ => rfl) (fun _ => rfl) (As := []) (rest := []) rfl rfl hl.1 (Nat.le_of_ble_eq_true rfl) dX6_undo_20 ⟨Nat.le_of_ble_eq_true rfl, Nat.le_of_ble_eq_true rfl⟩ (fun _ H locs hw9 hP hD hS => ?_)
    have hP : va_P D vwCl (List.flatten [wO q0 (q 0) (qh 0) (qr 0) (ql 0) (qe 0), wG κ q (KH.so u_8) (KH.le u_8) (KH.gr u_8) (KH.ne u_8) (KH.si u_8) (KH.ou u_8) (KH.bo u_8) (KH.n u_8) (KH.om u_8) (KH.ob u_8), wH κ qh (k_rg cs made) (if kp = 0 then pl else (if 0 < pl then pl - 1 else 29)) (kp - 1), wR κ qr ro 0, wL κ ql lv, wE κ qe e0, wK κ cs gs made]) H := hP
    have hD : va_D A (List.flatten [wO q0 (q 0) (qh 0) (qr 0) (ql 0) (qe 0), wG κ q (KH.so u_8) (KH.le u_8) (KH.gr u_8) (KH.ne u_8) (KH.si u_8) (KH.ou u_8) (KH.bo u_8) (KH.n u_8) (KH.om u_8) (KH.ob u_8), wH κ qh (k_rg cs made) (if kp = 0 then pl else (if 0 < pl then pl - 1 else 29)) (kp - 1), wR κ qr ro 0, wL κ ql lv, wE κ qe e0, wK κ cs gs made]) := hD
    refine lv_iconst (v := 1) hx hb dX6_undo_23 (by decide) ?_
    rcases hr with ⟨h1, h2, h3⟩ | ⟨h1, h2, h3⟩
    · exact absurd h2 c_11
    refine W.widen (k := 24) (n := 2900) (by omega) (by omega) ?_
    exact W.zret (ty := .boolean) (v := 1) hx hb hr rfl (fun t ht hW => ⟨⟨1, (u_8, (cs, gs, made, (if kp = 0 then pl else (if 0 < pl then pl - 1 else 29)), (kp - 1)), ro, 0, lv, e0), rfl, Or.inr ⟨h1, rfl, h3, rfl, rfl, rfl, rfl, by show (if kp = 0 then pl else (if 0 < pl then pl - 1 else 29)) = (if 0 < pl then pl - 1 else 29); rw [if_neg h1], rfl, rfl, rfl, rfl, trivial⟩, by rw [ht]; exact hP, hD⟩, hS.F ht⟩) hS.2.2 dX6_undo_24
  · skip
    refine lv_iconst (v := 0) hx hb dX6_undo_14 (by decide) ?_
    rcases hr with ⟨h1, h2, h3⟩ | ⟨h1, h2, h3⟩
    · skip
      refine W.widen (k := 24) (n := 2900) (by omega) (by omega) ?_
      exact W.zret (ty := .boolean) (v := 0) hx hb hr rfl (fun t ht hW => ⟨⟨0, (u_8, (cs, gs, made, (if kp = 0 then pl else (if 0 < pl then pl - 1 else 29)), (kp - 1)), ro, wo, lv, e0), rfl, Or.inl ⟨h1, rfl, by rw [h3, if_pos h1, show kp - 1 = kp by omega]⟩, by rw [ht]; exact hP, hD⟩, hS.F ht⟩) hS.2.2 dX6_undo_15
    · exact absurd (c_11.symm.trans h2) (by decide)
theorem iwX6_simulate_6 : ∀ w ∈ wsX60, w ∈ wsX6_simulate := by decide +kernel
set_option maxHeartbeats 4000000 in
set_option maxRecDepth 100000 in
theorem c_X6_simulate (l : Launch) (D : va_G) (κ : Nat → ClassId) (sz : Nat) (q0 : Nat) (qh qr ql qe : Nat → Nat) (q : Nat → Nat) (so le gr ne si ou bo : Nat → Int32) (n om ob : Nat) (cs : Nat → Nat → Nat) (gs : Nat → KH) (made pl kp : Nat) (ro : Nat → Int64) (wo : Int32) (lv : Nat → Int32) (e0 : KE) (p1 : Int64) (hn : n ≤ 400) (hom : om ≤ 40) (hob : ob ≤ om) (hgs : ∀ k, k < made → k_bG (gs k)) (hpl : pl < 30) (hpm : pl ≤ made) (hma : made ≤ 30) (hkp : kp ≤ 30) : k_mui (S := XV) l yX6_simulate wsX6_simulate 4 94 24 2900 D κ [.ref q0, .long p1] (List.flatten [wO q0 (q 0) (qh 0) (qr 0) (ql 0) (qe 0), wG κ q so le gr ne si ou bo n om ob, wH κ qh (k_rg cs made) pl kp, wR κ qr ro wo, wL κ ql lv, wE κ qe e0, wK κ cs gs made]) sz (fun r u => r = nI n - k_cnt so 5 n ∧ u = ((so, le, gr, ne, si, ou, bo, n, om, ob), (cs, gs, made, pl, kp), k_rw so le gr n 400 1 (k_ms so p1 (k_fillJ ro 0 400) n).2, 1, lv, e0)) (fun u => wX κ q0 q qh qr ql qe u) := by
  refine Met.ofW (cc := cX6_simulate) (maxL := 3) (ret := (some .int)) (by decide) rfl ?_
  intro p e s m args below meth c s₁ B hml hv
  obtain ⟨rfl, hsz, hK, hP, hD0⟩ := hv
  have hx := B.exec
  have hb := B.bytes
  have hr := B.returns
  have hts := atoms_spec (ws := wsX6_simulate) B.pre
  have hown : s.vm.findClass RX6 = some m.cls := findClass_of_methodNamed B.named
  have hlocks := B.notSynchronized
  subst hsz
  have hD := hD0.self (sz := s.heap.size)
  generalize hAe : va_A (List.flatten [wO q0 (q 0) (qh 0) (qr 0) (ql 0) (qe 0), wG κ q so le gr ne si ou bo n om ob, wH κ qh (k_rg cs made) pl kp, wR κ qr ro wo, wL κ ql lv, wE κ qe e0, wK κ cs gs made]) s.heap.size = A at hD ⊢
  have hA : ∀ q : Nat, s.heap.size ≤ q → A q := fun q h => by rw [← hAe]; exact Or.inr h
  have hS : va_S A s.heap s.heap [] := va_S.rf
  have hP : va_P D vwCl (List.flatten [wO q0 (q 0) (qh 0) (qr 0) (ql 0) (qe 0), wG κ q so le gr ne si ou bo n om ob, wH κ qh (k_rg cs made) pl kp, wR κ qr ro wo, wL κ ql lv, wE κ qe e0, wK κ cs gs made]) s.heap := hP
  have hl := lv_entry ([.ref q0, .long p1]) (n := 3) (Nat.le_of_ble_eq_true rfl)
  rw [lg_entry_eq]
  generalize (lg_sl ([.ref q0, .long p1]) ++ List.replicate (3 - (lg_sl ([.ref q0, .long p1])).length) Slot.unset).toArray = ls at hl ⊢
  have hl : lv_has ls 3 [(0, .ref q0), (1, .long p1)] := hl
  refine lv_aload_n hx hb dX6_simulate_0 rfl (lv_at hl 0 rfl) ?_
  refine va_get (D := D) (ci := 6) (v := .ref (qr 0)) (C := RX6) (T := TX6) (N := 5) hx hb hts (iwX6_simulate_6) hown hK.1 hP 0 rfl rfl 2 (by decide) (hts (.fieldLink RX6 26 "InverterGraphs" "rows" "LInverterGraphs$Rows;") (by decide +kernel)) (fun _ h9 => h9) rfl dX6_simulate_1 ?_
  refine lv_aload_n hx hb dX6_simulate_4 rfl (lv_at hl 0 rfl) ?_
  refine va_get (D := D) (ci := 6) (v := .ref (q 0)) (C := RX6) (T := TX6) (N := 5) hx hb hts (iwX6_simulate_6) hown hK.1 hP 0 rfl rfl 0 (by decide) (hts (.fieldLink RX6 12 "InverterGraphs" "graph" "LInverterGraphs$Graph;") (by decide +kernel)) (fun _ h9 => h9) rfl dX6_simulate_5 ?_
  refine lv_lload_n hx hb dX6_simulate_8 rfl (lv_at hl 1 rfl) ?_
  refine k_cSUv (D := D) (κ := κ) (qc := (RX5, TX5, 2)) (ci := 5) (q0 := 0) (Wc := [wR κ qr ro wo, wG κ q so le gr ne si ou bo n om ob]) (W' := fun _ => [wR κ qr (k_rw so le gr n 400 1 (k_ms so p1 (k_fillJ ro 0 400) n).2) 1, wG κ q so le gr ne si ou bo n om ob]) (Wn := fun _ => [wO q0 (q 0) (qh 0) (qr 0) (ql 0) (qe 0), wG κ q so le gr ne si ou bo n om ob, wH κ qh (k_rg cs made) pl kp, wR κ qr (k_rw so le gr n 400 1 (k_ms so p1 (k_fillJ ro 0 400) n).2) 1, wL κ ql lv, wE κ qe e0, wK κ cs gs made]) ⟨hx, hb, hml, hown, hts⟩ (c_X5_workOut l D κ _ qr ro wo q so le gr ne si ou bo n om ob p1 (by omega) (by omega) (by omega)) (cwV 2 hts gX6_simulate_X5_workOut rfl rfl rfl (by decide +kernel) ⟨Nat.le_of_ble_eq_true rfl, Nat.le_of_ble_eq_true rfl⟩) hK hP hD hS hA [3, 1] (by decide) rfl rfl (fun _ => rfl) rfl rfl (fun _ => rfl) (fun _ => rfl) (As := [.ref (q 0), .long p1]) (rest := []) rfl rfl hl.1 (Nat.le_of_ble_eq_true rfl) dX6_simulate_9 ⟨Nat.le_of_ble_eq_true rfl, Nat.le_of_ble_eq_true rfl⟩ (fun _ H locs hw9 hP hD hS => ?_)
  have hP : va_P D vwCl (List.flatten [wO q0 (q 0) (qh 0) (qr 0) (ql 0) (qe 0), wG κ q so le gr ne si ou bo n om ob, wH κ qh (k_rg cs made) pl kp, wR κ qr (k_rw so le gr n 400 1 (k_ms so p1 (k_fillJ ro 0 400) n).2) 1, wL κ ql lv, wE κ qe e0, wK κ cs gs made]) H := hP
  have hD : va_D A (List.flatten [wO q0 (q 0) (qh 0) (qr 0) (ql 0) (qe 0), wG κ q so le gr ne si ou bo n om ob, wH κ qh (k_rg cs made) pl kp, wR κ qr (k_rw so le gr n 400 1 (k_ms so p1 (k_fillJ ro 0 400) n).2) 1, wL κ ql lv, wE κ qe e0, wK κ cs gs made]) := hD
  refine lv_aload_n hx hb dX6_simulate_12 rfl (lv_at hl 0 rfl) ?_
  refine va_get (D := D) (ci := 6) (v := .ref (q 0)) (C := RX6) (T := TX6) (N := 5) hx hb hts (iwX6_simulate_6) hown hK.1 hP 0 rfl rfl 0 (by decide) (hts (.fieldLink RX6 12 "InverterGraphs" "graph" "LInverterGraphs$Graph;") (by decide +kernel)) (fun _ h9 => h9) rfl dX6_simulate_13 ?_
  refine k_cRO (D := D) (κ := κ) (qc := (RX1, TX1, 10)) (ci := 1) (q0 := 0) ⟨hx, hb, hml, hown, hts⟩ (c_X1_nodesGiven l D κ q so le gr ne si ou bo n om ob  (by omega) (by omega) (by omega)) (cwV 0 hts gX6_simulate_X1_nodesGiven rfl rfl rfl (by decide +kernel) ⟨Nat.le_of_ble_eq_true rfl, Nat.le_of_ble_eq_true rfl⟩) hK (k_sub1 (S := wG κ q so le gr ne si ou bo n om ob) hP 1 rfl) rfl rfl (As := []) (rest := []) rfl rfl hl.1 (Nat.le_of_ble_eq_true rfl) dX6_simulate_16 ⟨Nat.le_of_ble_eq_true rfl, Nat.le_of_ble_eq_true rfl⟩ (fun r hr => ?_)
  subst hr
  refine lv_aload_n hx hb dX6_simulate_19 rfl (lv_at hl 0 rfl) ?_
  refine va_get (D := D) (ci := 6) (v := .ref (q 0)) (C := RX6) (T := TX6) (N := 5) hx hb hts (iwX6_simulate_6) hown hK.1 hP 0 rfl rfl 0 (by decide) (hts (.fieldLink RX6 12 "InverterGraphs" "graph" "LInverterGraphs$Graph;") (by decide +kernel)) (fun _ h9 => h9) rfl dX6_simulate_20 ?_
  refine lv_iconst (v := 5) hx hb dX6_simulate_23 (by decide) ?_
  refine k_cRO (D := D) (κ := κ) (qc := (RX1, TX1, 10)) (ci := 1) (q0 := 0) ⟨hx, hb, hml, hown, hts⟩ (c_X1_howMany l D κ q so le gr ne si ou bo n om ob 5 (by omega) (by omega) (by omega)) (cwV 1 hts gX6_simulate_X1_howMany rfl rfl rfl (by decide +kernel) ⟨Nat.le_of_ble_eq_true rfl, Nat.le_of_ble_eq_true rfl⟩) hK (k_sub1 (S := wG κ q so le gr ne si ou bo n om ob) hP 1 rfl) rfl rfl (As := [.int 5]) (rest := [.int (nI n)]) rfl rfl hl.1 (Nat.le_of_ble_eq_true rfl) dX6_simulate_24 ⟨Nat.le_of_ble_eq_true rfl, Nat.le_of_ble_eq_true rfl⟩ (fun r hr => ?_)
  subst hr
  refine lv_isub hx hb dX6_simulate_27 ?_
  refine W.widen (k := 24) (n := 2900) (by omega) (by omega) ?_
  exact W.iret (v := (nI n) - (k_cnt so 5 n)) hx hb hr (fun t ht hW => ⟨⟨(nI n) - (k_cnt so 5 n), ((so, le, gr, ne, si, ou, bo, n, om, ob), (cs, gs, made, pl, kp), k_rw so le gr n 400 1 (k_ms so p1 (k_fillJ ro 0 400) n).2, 1, lv, e0), rfl, ⟨rfl, rfl⟩, by rw [ht]; exact hP, hD⟩, hS.F ht⟩) hS.2.2 dX6_simulate_28
theorem iwX6_row_6 : ∀ w ∈ wsX60, w ∈ wsX6_row := by decide +kernel
set_option maxHeartbeats 4000000 in
set_option maxRecDepth 100000 in
theorem c_X6_row (l : Launch) (hst : l.stackTraces = false) (D : va_G) (κ : Nat → ClassId) (sz : Nat) (q0 : Nat) (qh qr ql qe : Nat → Nat) (q : Nat → Nat) (so le gr ne si ou bo : Nat → Int32) (n om ob : Nat) (cs : Nat → Nat → Nat) (gs : Nat → KH) (made pl kp : Nat) (ro : Nat → Int64) (wo : Int32) (lv : Nat → Int32) (e0 : KE) (p0 : Int32) (hn : n ≤ 400) (hom : om ≤ 40) (hob : ob ≤ om) (hgs : ∀ k, k < made → k_bG (gs k)) (hpl : pl < 30) (hpm : pl ≤ made) (hma : made ≤ 30) (hkp : kp ≤ 30) (hwo : wo = 0 ∨ wo = 1) : k_xul (S := XV) l yX6_row wsX6_row 7 111 24 2900 D κ [.ref q0, .int p0] (List.flatten [wO q0 (q 0) (qh 0) (qr 0) (ql 0) (qe 0), wG κ q so le gr ne si ou bo n om ob, wH κ qh (k_rg cs made) pl kp, wR κ qr ro wo, wL κ ql lv, wE κ qe e0, wK κ cs gs made]) sz (fun r u => x_yn n p0 ∧ ¬ wo = 0 ∧ ¬ k_cat 400 so p0 = 5 ∧ r = k_catJ 400 ro p0 ∧ u = ((so, le, gr, ne, si, ou, bo, n, om, ob), (cs, gs, made, pl, kp), ro, wo, lv, e0)) (fun u => wX κ q0 q qh qr ql qe u) (fun E => (E = "java/lang/IndexOutOfBoundsException" ∧ x_nn n p0) ∨ (E = "java/lang/IllegalStateException" ∧ x_yn n p0 ∧ wo = 0) ∨ (E = "java/lang/IllegalArgumentException" ∧ x_yn n p0 ∧ ¬ wo = 0 ∧ k_cat 400 so p0 = 5)) := by
  refine vx_ofW (cc := cX6_row) (maxL := 2) (ret := (some .long)) (by decide) rfl ?_
  intro p e s m args below meth c s₁ B hml hnx hv
  obtain ⟨rfl, ⟨hsz, hK, hP, hD0⟩, hX⟩ := hv
  have hx := B.exec
  have hb := B.bytes
  have hr := B.returns
  have hts := atoms_spec (ws := wsX6_row) B.pre
  have hown : s.vm.findClass RX6 = some m.cls := findClass_of_methodNamed B.named
  have hlocks := B.notSynchronized
  subst hsz
  have hD := hD0.self (sz := s.heap.size)
  generalize hAe : va_A (List.flatten [wO q0 (q 0) (qh 0) (qr 0) (ql 0) (qe 0), wG κ q so le gr ne si ou bo n om ob, wH κ qh (k_rg cs made) pl kp, wR κ qr ro wo, wL κ ql lv, wE κ qe e0, wK κ cs gs made]) s.heap.size = A at hD hX ⊢
  have hA : ∀ q : Nat, s.heap.size ≤ q → A q := fun q h => by rw [← hAe]; exact Or.inr h
  have hS : va_S A s.heap s.heap [] := va_S.rf
  have hP : va_P D vwCl (List.flatten [wO q0 (q 0) (qh 0) (qr 0) (ql 0) (qe 0), wG κ q so le gr ne si ou bo n om ob, wH κ qh (k_rg cs made) pl kp, wR κ qr ro wo, wL κ ql lv, wE κ qe e0, wK κ cs gs made]) s.heap := hP
  have hl := lv_entry ([.ref q0, .int p0]) (n := 2) (Nat.le_of_ble_eq_true rfl)
  rw [lg_entry_eq]
  generalize (lg_sl ([.ref q0, .int p0]) ++ List.replicate (2 - (lg_sl ([.ref q0, .int p0])).length) Slot.unset).toArray = ls at hl ⊢
  have hl : lv_has ls 2 [(0, .ref q0), (1, .int p0)] := hl
  refine lv_aload_n hx hb dX6_row_0 rfl (lv_at hl 0 rfl) ?_
  refine lv_iload_n hx hb dX6_row_1 rfl (lv_at hl 1 rfl) ?_
  refine k_xSUv (D := D) (κ := κ) (qc := (RX6, TX6, 5)) (ci := 6) (q0 := 0) (Wl := [wO q0 (q 0) (qh 0) (qr 0) (ql 0) (qe 0), wG κ q so le gr ne si ou bo n om ob, wH κ qh (k_rg cs made) pl kp, wR κ qr ro wo, wL κ ql lv, wE κ qe e0, wK κ cs gs made]) (Wc := [wO q0 (q 0) (qh 0) (qr 0) (ql 0) (qe 0), wG κ q so le gr ne si ou bo n om ob]) (W' := fun _ => [wO q0 (q 0) (qh 0) (qr 0) (ql 0) (qe 0), wG κ q so le gr ne si ou bo n om ob]) (Wn := fun _ => [wO q0 (q 0) (qh 0) (qr 0) (ql 0) (qe 0), wG κ q so le gr ne si ou bo n om ob, wH κ qh (k_rg cs made) pl kp, wR κ qr ro wo, wL κ ql lv, wE κ qe e0, wK κ cs gs made]) ⟨hx, hb, hml, hown, hts⟩ (c_X6_needNode l hst D κ _ q0 (qh 0) (qr 0) (ql 0) (qe 0) q so le gr ne si ou bo n om ob p0 (by omega) (by omega) (by omega)) (cwV 1 hts gX6_row_X6_needNode rfl rfl rfl (by decide +kernel) ⟨Nat.le_of_ble_eq_true rfl, Nat.le_of_ble_eq_true rfl⟩) hK hX hP hD hS hA [0, 1] (by decide) rfl rfl (fun _ => rfl) rfl rfl (fun _ => rfl) (fun _ => rfl) (As := [.int p0]) (rest := []) rfl rfl hl.1 (Nat.le_of_ble_eq_true rfl) dX6_row_2 ⟨Nat.le_of_ble_eq_true rfl, Nat.le_of_ble_eq_true rfl⟩ hnx hlocks rfl (fun E h => Or.inl h) (Nat.le_of_ble_eq_true rfl) (Nat.le_of_ble_eq_true rfl) (fun _ H locs hx_2 hP hD hS => ?_)
  have hP : va_P D vwCl (List.flatten [wO q0 (q 0) (qh 0) (qr 0) (ql 0) (qe 0), wG κ q so le gr ne si ou bo n om ob, wH κ qh (k_rg cs made) pl kp, wR κ qr ro wo, wL κ ql lv, wE κ qe e0, wK κ cs gs made]) H := hP
  have hD : va_D A (List.flatten [wO q0 (q 0) (qh 0) (qr 0) (ql 0) (qe 0), wG κ q so le gr ne si ou bo n om ob, wH κ qh (k_rg cs made) pl kp, wR κ qr ro wo, wL κ ql lv, wE κ qe e0, wK κ cs gs made]) := hD
  refine lv_aload_n hx hb dX6_row_5 rfl (lv_at hl 0 rfl) ?_
  refine va_get (D := D) (ci := 6) (v := .ref (qr 0)) (C := RX6) (T := TX6) (N := 5) hx hb hts (iwX6_row_6) hown hK.1 hP 0 rfl rfl 2 (by decide) (hts (.fieldLink RX6 26 "InverterGraphs" "rows" "LInverterGraphs$Rows;") (by decide +kernel)) (fun _ h9 => h9) rfl dX6_row_6 ?_
  refine k_cRO (D := D) (κ := κ) (qc := (RX5, TX5, 2)) (ci := 5) (q0 := 0) ⟨hx, hb, hml, hown, hts⟩ (c_X5_areWorkedOut l D κ qr ro wo  (by first | assumption | exact Or.inl rfl | exact Or.inr rfl)) (cwV 0 hts gX6_row_X5_areWorkedOut rfl rfl rfl (by decide +kernel) ⟨Nat.le_of_ble_eq_true rfl, Nat.le_of_ble_eq_true rfl⟩) hK (k_sub1 (S := wR κ qr ro wo) hP 3 rfl) rfl rfl (As := []) (rest := []) rfl rfl hl.1 (Nat.le_of_ble_eq_true rfl) dX6_row_9 ⟨Nat.le_of_ble_eq_true rfl, Nat.le_of_ble_eq_true rfl⟩ (fun r hr => ?_)
  refine lv_topi (nm_r (hr) ?_)
  clear hr
  refine lv_if_ne (tgt := 25) hx hb dX6_row_12 (by decide) (fun c_12 => ?_) (fun c_12 => ?_)
  · skip
    refine lv_aload_n hx hb dX6_row_25 rfl (lv_at hl 0 rfl) ?_
    refine lv_iload_n hx hb dX6_row_26 rfl (lv_at hl 1 rfl) ?_
    refine k_xSUv (D := D) (κ := κ) (qc := (RX6, TX6, 5)) (ci := 6) (q0 := 0) (Wl := [wO q0 (q 0) (qh 0) (qr 0) (ql 0) (qe 0), wG κ q so le gr ne si ou bo n om ob, wH κ qh (k_rg cs made) pl kp, wR κ qr ro wo, wL κ ql lv, wE κ qe e0, wK κ cs gs made]) (Wc := [wO q0 (q 0) (qh 0) (qr 0) (ql 0) (qe 0), wG κ q so le gr ne si ou bo n om ob]) (W' := fun _ => [wO q0 (q 0) (qh 0) (qr 0) (ql 0) (qe 0), wG κ q so le gr ne si ou bo n om ob]) (Wn := fun _ => [wO q0 (q 0) (qh 0) (qr 0) (ql 0) (qe 0), wG κ q so le gr ne si ou bo n om ob, wH κ qh (k_rg cs made) pl kp, wR κ qr ro wo, wL κ ql lv, wE κ qe e0, wK κ cs gs made]) ⟨hx, hb, hml, hown, hts⟩ (c_X6_needStanding l hst D κ _ q0 (qh 0) (qr 0) (ql 0) (qe 0) q so le gr ne si ou bo n om ob p0 (by omega) (by omega) (by omega)) (cwV 1 hts gX6_row_X6_needStanding rfl rfl rfl (by decide +kernel) ⟨Nat.le_of_ble_eq_true rfl, Nat.le_of_ble_eq_true rfl⟩) hK hX hP hD hS hA [0, 1] (by decide) rfl rfl (fun _ => rfl) rfl rfl (fun _ => rfl) (fun _ => rfl) (As := [.int p0]) (rest := []) rfl rfl hl.1 (Nat.le_of_ble_eq_true rfl) dX6_row_27 ⟨Nat.le_of_ble_eq_true rfl, Nat.le_of_ble_eq_true rfl⟩ hnx hlocks rfl (fun E h => Or.inr (Or.inr ⟨h.1, hx_2, c_12, h.2⟩)) (Nat.le_of_ble_eq_true rfl) (Nat.le_of_ble_eq_true rfl) (fun _ H locs hx_27 hP hD hS => ?_)
    have hP : va_P D vwCl (List.flatten [wO q0 (q 0) (qh 0) (qr 0) (ql 0) (qe 0), wG κ q so le gr ne si ou bo n om ob, wH κ qh (k_rg cs made) pl kp, wR κ qr ro wo, wL κ ql lv, wE κ qe e0, wK κ cs gs made]) H := hP
    have hD : va_D A (List.flatten [wO q0 (q 0) (qh 0) (qr 0) (ql 0) (qe 0), wG κ q so le gr ne si ou bo n om ob, wH κ qh (k_rg cs made) pl kp, wR κ qr ro wo, wL κ ql lv, wE κ qe e0, wK κ cs gs made]) := hD
    refine lv_aload_n hx hb dX6_row_30 rfl (lv_at hl 0 rfl) ?_
    refine va_get (D := D) (ci := 6) (v := .ref (qr 0)) (C := RX6) (T := TX6) (N := 5) hx hb hts (iwX6_row_6) hown hK.1 hP 0 rfl rfl 2 (by decide) (hts (.fieldLink RX6 26 "InverterGraphs" "rows" "LInverterGraphs$Rows;") (by decide +kernel)) (fun _ h9 => h9) rfl dX6_row_31 ?_
    refine lv_iload_n hx hb dX6_row_34 rfl (lv_at hl 1 rfl) ?_
    refine k_cROl (D := D) (κ := κ) (qc := (RX5, TX5, 2)) (ci := 5) (q0 := 0) ⟨hx, hb, hml, hown, hts⟩ (c_X5_at l D κ qr ro wo p0 ) (cwV 1 hts gX6_row_X5_at rfl rfl rfl (by decide +kernel) ⟨Nat.le_of_ble_eq_true rfl, Nat.le_of_ble_eq_true rfl⟩) hK (k_sub1 (S := wR κ qr ro wo) hP 3 rfl) rfl rfl (As := [.int p0]) (rest := []) rfl rfl hl.1 (Nat.le_of_ble_eq_true rfl) dX6_row_35 ⟨Nat.le_of_ble_eq_true rfl, Nat.le_of_ble_eq_true rfl⟩ (fun r hr => ?_)
    subst hr
    refine vx_ret ?_
    refine W.widen (k := 24) (n := 2900) (by omega) (by omega) ?_
    exact W.lret (v := k_catJ 400 ro p0) hx hb hr (fun t ht hW => ⟨⟨k_catJ 400 ro p0, ((so, le, gr, ne, si, ou, bo, n, om, ob), (cs, gs, made, pl, kp), ro, wo, lv, e0), rfl, ⟨hx_2, c_12, hx_27, rfl, rfl⟩, by rw [ht]; exact hP, hD⟩, hS.F ht⟩) hS.2.2 dX6_row_38
  · skip
    exact k_throw (D := D) (E := "java/lang/IllegalStateException") (text := "no rows are worked out") (ik := 172) (is := 174) (ic := 176) hx hb hst hown (by decide) (by decide) (hts (.classLink RX6 172 "java/lang/IllegalStateException") (by decide +kernel)) (hts (.initialized "java/lang/IllegalStateException") (by decide +kernel)) (fun w hw => hts w (List.mem_cons_of_mem _ (List.mem_append_left _ (List.mem_append_left _ (List.mem_append_right _ hw))))) k_bad_S k_good_S (by decide +kernel) hX hP hD hS (by rw [hml]; exact hl.1) dX6_row_15 dX6_row_18 dX6_row_19 dX6_row_21 dX6_row_24 hnx (Nat.le_of_ble_eq_true rfl) (Nat.le_of_ble_eq_true rfl) (Nat.le_of_ble_eq_true rfl) (Nat.le_of_ble_eq_true rfl) (Nat.le_of_ble_eq_true rfl) hlocks (Or.inr (Or.inl ⟨rfl, hx_2, c_12⟩)) (Nat.le_of_ble_eq_true rfl) (Nat.le_of_ble_eq_true rfl)
theorem iwX6_level_6 : ∀ w ∈ wsX60, w ∈ wsX6_level := by decide +kernel
set_option maxHeartbeats 4000000 in
set_option maxRecDepth 100000 in
theorem c_X6_level (l : Launch) (hst : l.stackTraces = false) (D : va_G) (κ : Nat → ClassId) (sz : Nat) (q0 : Nat) (qh qr ql qe : Nat → Nat) (q : Nat → Nat) (so le gr ne si ou bo : Nat → Int32) (n om ob : Nat) (cs : Nat → Nat → Nat) (gs : Nat → KH) (made pl kp : Nat) (ro : Nat → Int64) (wo : Int32) (lv : Nat → Int32) (e0 : KE) (p0 : Int32) (hn : n ≤ 400) (hom : om ≤ 40) (hob : ob ≤ om) (hgs : ∀ k, k < made → k_bG (gs k)) (hpl : pl < 30) (hpm : pl ≤ made) (hma : made ≤ 30) (hkp : kp ≤ 30) : k_xui (S := XV) l yX6_level wsX6_level 7 111 24 2900 D κ [.ref q0, .int p0] (List.flatten [wO q0 (q 0) (qh 0) (qr 0) (ql 0) (qe 0), wG κ q so le gr ne si ou bo n om ob, wH κ qh (k_rg cs made) pl kp, wR κ qr ro wo, wL κ ql lv, wE κ qe e0, wK κ cs gs made]) sz (fun r u => x_yn n p0 ∧ ¬ k_cat 400 so p0 = 5 ∧ r = k_cat 400 (k_lw so le gr n 400 1 (k_fillF lv 0 400)) p0 ∧ u = ((so, le, gr, ne, si, ou, bo, n, om, ob), (cs, gs, made, pl, kp), ro, wo, k_lw so le gr n 400 1 (k_fillF lv 0 400), e0)) (fun u => wX κ q0 q qh qr ql qe u) (fun E => (E = "java/lang/IndexOutOfBoundsException" ∧ x_nn n p0) ∨ (E = "java/lang/IllegalArgumentException" ∧ x_yn n p0 ∧ k_cat 400 so p0 = 5)) := by
  refine vx_ofW (cc := cX6_level) (maxL := 2) (ret := (some .int)) (by decide) rfl ?_
  intro p e s m args below meth c s₁ B hml hnx hv
  obtain ⟨rfl, ⟨hsz, hK, hP, hD0⟩, hX⟩ := hv
  have hx := B.exec
  have hb := B.bytes
  have hr := B.returns
  have hts := atoms_spec (ws := wsX6_level) B.pre
  have hown : s.vm.findClass RX6 = some m.cls := findClass_of_methodNamed B.named
  have hlocks := B.notSynchronized
  subst hsz
  have hD := hD0.self (sz := s.heap.size)
  generalize hAe : va_A (List.flatten [wO q0 (q 0) (qh 0) (qr 0) (ql 0) (qe 0), wG κ q so le gr ne si ou bo n om ob, wH κ qh (k_rg cs made) pl kp, wR κ qr ro wo, wL κ ql lv, wE κ qe e0, wK κ cs gs made]) s.heap.size = A at hD hX ⊢
  have hA : ∀ q : Nat, s.heap.size ≤ q → A q := fun q h => by rw [← hAe]; exact Or.inr h
  have hS : va_S A s.heap s.heap [] := va_S.rf
  have hP : va_P D vwCl (List.flatten [wO q0 (q 0) (qh 0) (qr 0) (ql 0) (qe 0), wG κ q so le gr ne si ou bo n om ob, wH κ qh (k_rg cs made) pl kp, wR κ qr ro wo, wL κ ql lv, wE κ qe e0, wK κ cs gs made]) s.heap := hP
  have hl := lv_entry ([.ref q0, .int p0]) (n := 2) (Nat.le_of_ble_eq_true rfl)
  rw [lg_entry_eq]
  generalize (lg_sl ([.ref q0, .int p0]) ++ List.replicate (2 - (lg_sl ([.ref q0, .int p0])).length) Slot.unset).toArray = ls at hl ⊢
  have hl : lv_has ls 2 [(0, .ref q0), (1, .int p0)] := hl
  refine lv_aload_n hx hb dX6_level_0 rfl (lv_at hl 0 rfl) ?_
  refine lv_iload_n hx hb dX6_level_1 rfl (lv_at hl 1 rfl) ?_
  refine k_xSUv (D := D) (κ := κ) (qc := (RX6, TX6, 5)) (ci := 6) (q0 := 0) (Wl := [wO q0 (q 0) (qh 0) (qr 0) (ql 0) (qe 0), wG κ q so le gr ne si ou bo n om ob, wH κ qh (k_rg cs made) pl kp, wR κ qr ro wo, wL κ ql lv, wE κ qe e0, wK κ cs gs made]) (Wc := [wO q0 (q 0) (qh 0) (qr 0) (ql 0) (qe 0), wG κ q so le gr ne si ou bo n om ob]) (W' := fun _ => [wO q0 (q 0) (qh 0) (qr 0) (ql 0) (qe 0), wG κ q so le gr ne si ou bo n om ob]) (Wn := fun _ => [wO q0 (q 0) (qh 0) (qr 0) (ql 0) (qe 0), wG κ q so le gr ne si ou bo n om ob, wH κ qh (k_rg cs made) pl kp, wR κ qr ro wo, wL κ ql lv, wE κ qe e0, wK κ cs gs made]) ⟨hx, hb, hml, hown, hts⟩ (c_X6_needNode l hst D κ _ q0 (qh 0) (qr 0) (ql 0) (qe 0) q so le gr ne si ou bo n om ob p0 (by omega) (by omega) (by omega)) (cwV 1 hts gX6_level_X6_needNode rfl rfl rfl (by decide +kernel) ⟨Nat.le_of_ble_eq_true rfl, Nat.le_of_ble_eq_true rfl⟩) hK hX hP hD hS hA [0, 1] (by decide) rfl rfl (fun _ => rfl) rfl rfl (fun _ => rfl) (fun _ => rfl) (As := [.int p0]) (rest := []) rfl rfl hl.1 (Nat.le_of_ble_eq_true rfl) dX6_level_2 ⟨Nat.le_of_ble_eq_true rfl, Nat.le_of_ble_eq_true rfl⟩ hnx hlocks rfl (fun E h => Or.inl h) (Nat.le_of_ble_eq_true rfl) (Nat.le_of_ble_eq_true rfl) (fun _ H locs hx_2 hP hD hS => ?_)
  have hP : va_P D vwCl (List.flatten [wO q0 (q 0) (qh 0) (qr 0) (ql 0) (qe 0), wG κ q so le gr ne si ou bo n om ob, wH κ qh (k_rg cs made) pl kp, wR κ qr ro wo, wL κ ql lv, wE κ qe e0, wK κ cs gs made]) H := hP
  have hD : va_D A (List.flatten [wO q0 (q 0) (qh 0) (qr 0) (ql 0) (qe 0), wG κ q so le gr ne si ou bo n om ob, wH κ qh (k_rg cs made) pl kp, wR κ qr ro wo, wL κ ql lv, wE κ qe e0, wK κ cs gs made]) := hD
  refine lv_aload_n hx hb dX6_level_5 rfl (lv_at hl 0 rfl) ?_
  refine lv_iload_n hx hb dX6_level_6 rfl (lv_at hl 1 rfl) ?_
  refine k_xSUv (D := D) (κ := κ) (qc := (RX6, TX6, 5)) (ci := 6) (q0 := 0) (Wl := [wO q0 (q 0) (qh 0) (qr 0) (ql 0) (qe 0), wG κ q so le gr ne si ou bo n om ob, wH κ qh (k_rg cs made) pl kp, wR κ qr ro wo, wL κ ql lv, wE κ qe e0, wK κ cs gs made]) (Wc := [wO q0 (q 0) (qh 0) (qr 0) (ql 0) (qe 0), wG κ q so le gr ne si ou bo n om ob]) (W' := fun _ => [wO q0 (q 0) (qh 0) (qr 0) (ql 0) (qe 0), wG κ q so le gr ne si ou bo n om ob]) (Wn := fun _ => [wO q0 (q 0) (qh 0) (qr 0) (ql 0) (qe 0), wG κ q so le gr ne si ou bo n om ob, wH κ qh (k_rg cs made) pl kp, wR κ qr ro wo, wL κ ql lv, wE κ qe e0, wK κ cs gs made]) ⟨hx, hb, hml, hown, hts⟩ (c_X6_needStanding l hst D κ _ q0 (qh 0) (qr 0) (ql 0) (qe 0) q so le gr ne si ou bo n om ob p0 (by omega) (by omega) (by omega)) (cwV 1 hts gX6_level_X6_needStanding rfl rfl rfl (by decide +kernel) ⟨Nat.le_of_ble_eq_true rfl, Nat.le_of_ble_eq_true rfl⟩) hK hX hP hD hS hA [0, 1] (by decide) rfl rfl (fun _ => rfl) rfl rfl (fun _ => rfl) (fun _ => rfl) (As := [.int p0]) (rest := []) rfl rfl hl.1 (Nat.le_of_ble_eq_true rfl) dX6_level_7 ⟨Nat.le_of_ble_eq_true rfl, Nat.le_of_ble_eq_true rfl⟩ hnx hlocks rfl (fun E h => Or.inr ⟨h.1, hx_2, h.2⟩) (Nat.le_of_ble_eq_true rfl) (Nat.le_of_ble_eq_true rfl) (fun _ H locs hx_7 hP hD hS => ?_)
  have hP : va_P D vwCl (List.flatten [wO q0 (q 0) (qh 0) (qr 0) (ql 0) (qe 0), wG κ q so le gr ne si ou bo n om ob, wH κ qh (k_rg cs made) pl kp, wR κ qr ro wo, wL κ ql lv, wE κ qe e0, wK κ cs gs made]) H := hP
  have hD : va_D A (List.flatten [wO q0 (q 0) (qh 0) (qr 0) (ql 0) (qe 0), wG κ q so le gr ne si ou bo n om ob, wH κ qh (k_rg cs made) pl kp, wR κ qr ro wo, wL κ ql lv, wE κ qe e0, wK κ cs gs made]) := hD
  refine lv_aload_n hx hb dX6_level_10 rfl (lv_at hl 0 rfl) ?_
  refine va_get (D := D) (ci := 6) (v := .ref (ql 0)) (C := RX6) (T := TX6) (N := 5) hx hb hts (iwX6_level_6) hown hK.1 hP 0 rfl rfl 3 (by decide) (hts (.fieldLink RX6 33 "InverterGraphs" "levels" "LInverterGraphs$Levels;") (by decide +kernel)) (fun _ h9 => h9) rfl dX6_level_11 ?_
  refine lv_aload_n hx hb dX6_level_14 rfl (lv_at hl 0 rfl) ?_
  refine va_get (D := D) (ci := 6) (v := .ref (q 0)) (C := RX6) (T := TX6) (N := 5) hx hb hts (iwX6_level_6) hown hK.1 hP 0 rfl rfl 0 (by decide) (hts (.fieldLink RX6 12 "InverterGraphs" "graph" "LInverterGraphs$Graph;") (by decide +kernel)) (fun _ h9 => h9) rfl dX6_level_15 ?_
  refine k_cSUv (D := D) (κ := κ) (qc := (RX3, TX3, 1)) (ci := 3) (q0 := 0) (Wc := [wL κ ql lv, wG κ q so le gr ne si ou bo n om ob]) (W' := fun _ => [wL κ ql (k_lw so le gr n 400 1 (k_fillF lv 0 400)), wG κ q so le gr ne si ou bo n om ob]) (Wn := fun _ => [wO q0 (q 0) (qh 0) (qr 0) (ql 0) (qe 0), wG κ q so le gr ne si ou bo n om ob, wH κ qh (k_rg cs made) pl kp, wR κ qr ro wo, wL κ ql (k_lw so le gr n 400 1 (k_fillF lv 0 400)), wE κ qe e0, wK κ cs gs made]) ⟨hx, hb, hml, hown, hts⟩ (c_X3_workOut l D κ _ ql lv q so le gr ne si ou bo n om ob  (by omega) (by omega) (by omega)) (cwV 1 hts gX6_level_X3_workOut rfl rfl rfl (by decide +kernel) ⟨Nat.le_of_ble_eq_true rfl, Nat.le_of_ble_eq_true rfl⟩) hK hP hD hS hA [4, 1] (by decide) rfl rfl (fun _ => rfl) rfl rfl (fun _ => rfl) (fun _ => rfl) (As := [.ref (q 0)]) (rest := []) rfl rfl hl.1 (Nat.le_of_ble_eq_true rfl) dX6_level_18 ⟨Nat.le_of_ble_eq_true rfl, Nat.le_of_ble_eq_true rfl⟩ (fun _ H locs hw9 hP hD hS => ?_)
  have hP : va_P D vwCl (List.flatten [wO q0 (q 0) (qh 0) (qr 0) (ql 0) (qe 0), wG κ q so le gr ne si ou bo n om ob, wH κ qh (k_rg cs made) pl kp, wR κ qr ro wo, wL κ ql (k_lw so le gr n 400 1 (k_fillF lv 0 400)), wE κ qe e0, wK κ cs gs made]) H := hP
  have hD : va_D A (List.flatten [wO q0 (q 0) (qh 0) (qr 0) (ql 0) (qe 0), wG κ q so le gr ne si ou bo n om ob, wH κ qh (k_rg cs made) pl kp, wR κ qr ro wo, wL κ ql (k_lw so le gr n 400 1 (k_fillF lv 0 400)), wE κ qe e0, wK κ cs gs made]) := hD
  refine lv_aload_n hx hb dX6_level_21 rfl (lv_at hl 0 rfl) ?_
  refine va_get (D := D) (ci := 6) (v := .ref (ql 0)) (C := RX6) (T := TX6) (N := 5) hx hb hts (iwX6_level_6) hown hK.1 hP 0 rfl rfl 3 (by decide) (hts (.fieldLink RX6 33 "InverterGraphs" "levels" "LInverterGraphs$Levels;") (by decide +kernel)) (fun _ h9 => h9) rfl dX6_level_22 ?_
  refine lv_iload_n hx hb dX6_level_25 rfl (lv_at hl 1 rfl) ?_
  refine k_cRO (D := D) (κ := κ) (qc := (RX3, TX3, 1)) (ci := 3) (q0 := 0) ⟨hx, hb, hml, hown, hts⟩ (c_X3_at l D κ ql (k_lw so le gr n 400 1 (k_fillF lv 0 400)) p0 ) (cwV 1 hts gX6_level_X3_at rfl rfl rfl (by decide +kernel) ⟨Nat.le_of_ble_eq_true rfl, Nat.le_of_ble_eq_true rfl⟩) hK (k_sub1 (S := wL κ ql (k_lw so le gr n 400 1 (k_fillF lv 0 400))) hP 4 rfl) rfl rfl (As := [.int p0]) (rest := []) rfl rfl hl.1 (Nat.le_of_ble_eq_true rfl) dX6_level_26 ⟨Nat.le_of_ble_eq_true rfl, Nat.le_of_ble_eq_true rfl⟩ (fun r hr => ?_)
  subst hr
  refine vx_ret ?_
  refine W.widen (k := 24) (n := 2900) (by omega) (by omega) ?_
  exact W.iret (v := k_cat 400 (k_lw so le gr n 400 1 (k_fillF lv 0 400)) p0) hx hb hr (fun t ht hW => ⟨⟨k_cat 400 (k_lw so le gr n 400 1 (k_fillF lv 0 400)) p0, ((so, le, gr, ne, si, ou, bo, n, om, ob), (cs, gs, made, pl, kp), ro, wo, k_lw so le gr n 400 1 (k_fillF lv 0 400), e0), rfl, ⟨hx_2, hx_7, rfl, rfl⟩, by rw [ht]; exact hP, hD⟩, hS.F ht⟩) hS.2.2 dX6_level_29
theorem iwX6_fan_6 : ∀ w ∈ wsX60, w ∈ wsX6_fan := by decide +kernel
set_option maxHeartbeats 4000000 in
set_option maxRecDepth 100000 in
theorem c_X6_fan (l : Launch) (hst : l.stackTraces = false) (D : va_G) (κ : Nat → ClassId) (sz : Nat) (q0 : Nat) (qh qr ql qe : Nat → Nat) (q : Nat → Nat) (so le gr ne si ou bo : Nat → Int32) (n om ob : Nat) (cs : Nat → Nat → Nat) (gs : Nat → KH) (made pl kp : Nat) (ro : Nat → Int64) (wo : Int32) (lv : Nat → Int32) (e0 : KE) (p0 : Int32) (hn : n ≤ 400) (hom : om ≤ 40) (hob : ob ≤ om) (hgs : ∀ k, k < made → k_bG (gs k)) (hpl : pl < 30) (hpm : pl ≤ made) (hma : made ≤ 30) (hkp : kp ≤ 30) : k_xui (S := XV) l yX6_fan wsX6_fan 7 111 24 2900 D κ [.ref q0, .int p0] (List.flatten [wO q0 (q 0) (qh 0) (qr 0) (ql 0) (qe 0), wG κ q so le gr ne si ou bo n om ob, wH κ qh (k_rg cs made) pl kp, wR κ qr ro wo, wL κ ql lv, wE κ qe e0, wK κ cs gs made]) sz (fun r u => x_yn n p0 ∧ ¬ k_cat 400 so p0 = 5 ∧ r = k_useO ou p0 (k_use3 le gr ne p0 n) om ∧ u = ((so, le, gr, ne, si, ou, bo, n, om, ob), (cs, gs, made, pl, kp), ro, wo, lv, e0)) (fun u => wX κ q0 q qh qr ql qe u) (fun E => (E = "java/lang/IndexOutOfBoundsException" ∧ x_nn n p0) ∨ (E = "java/lang/IllegalArgumentException" ∧ x_yn n p0 ∧ k_cat 400 so p0 = 5)) := by
  refine vx_ofW (cc := cX6_fan) (maxL := 2) (ret := (some .int)) (by decide) rfl ?_
  intro p e s m args below meth c s₁ B hml hnx hv
  obtain ⟨rfl, ⟨hsz, hK, hP, hD0⟩, hX⟩ := hv
  have hx := B.exec
  have hb := B.bytes
  have hr := B.returns
  have hts := atoms_spec (ws := wsX6_fan) B.pre
  have hown : s.vm.findClass RX6 = some m.cls := findClass_of_methodNamed B.named
  have hlocks := B.notSynchronized
  subst hsz
  have hD := hD0.self (sz := s.heap.size)
  generalize hAe : va_A (List.flatten [wO q0 (q 0) (qh 0) (qr 0) (ql 0) (qe 0), wG κ q so le gr ne si ou bo n om ob, wH κ qh (k_rg cs made) pl kp, wR κ qr ro wo, wL κ ql lv, wE κ qe e0, wK κ cs gs made]) s.heap.size = A at hD hX ⊢
  have hA : ∀ q : Nat, s.heap.size ≤ q → A q := fun q h => by rw [← hAe]; exact Or.inr h
  have hS : va_S A s.heap s.heap [] := va_S.rf
  have hP : va_P D vwCl (List.flatten [wO q0 (q 0) (qh 0) (qr 0) (ql 0) (qe 0), wG κ q so le gr ne si ou bo n om ob, wH κ qh (k_rg cs made) pl kp, wR κ qr ro wo, wL κ ql lv, wE κ qe e0, wK κ cs gs made]) s.heap := hP
  have hl := lv_entry ([.ref q0, .int p0]) (n := 2) (Nat.le_of_ble_eq_true rfl)
  rw [lg_entry_eq]
  generalize (lg_sl ([.ref q0, .int p0]) ++ List.replicate (2 - (lg_sl ([.ref q0, .int p0])).length) Slot.unset).toArray = ls at hl ⊢
  have hl : lv_has ls 2 [(0, .ref q0), (1, .int p0)] := hl
  refine lv_aload_n hx hb dX6_fan_0 rfl (lv_at hl 0 rfl) ?_
  refine lv_iload_n hx hb dX6_fan_1 rfl (lv_at hl 1 rfl) ?_
  refine k_xSUv (D := D) (κ := κ) (qc := (RX6, TX6, 5)) (ci := 6) (q0 := 0) (Wl := [wO q0 (q 0) (qh 0) (qr 0) (ql 0) (qe 0), wG κ q so le gr ne si ou bo n om ob, wH κ qh (k_rg cs made) pl kp, wR κ qr ro wo, wL κ ql lv, wE κ qe e0, wK κ cs gs made]) (Wc := [wO q0 (q 0) (qh 0) (qr 0) (ql 0) (qe 0), wG κ q so le gr ne si ou bo n om ob]) (W' := fun _ => [wO q0 (q 0) (qh 0) (qr 0) (ql 0) (qe 0), wG κ q so le gr ne si ou bo n om ob]) (Wn := fun _ => [wO q0 (q 0) (qh 0) (qr 0) (ql 0) (qe 0), wG κ q so le gr ne si ou bo n om ob, wH κ qh (k_rg cs made) pl kp, wR κ qr ro wo, wL κ ql lv, wE κ qe e0, wK κ cs gs made]) ⟨hx, hb, hml, hown, hts⟩ (c_X6_needNode l hst D κ _ q0 (qh 0) (qr 0) (ql 0) (qe 0) q so le gr ne si ou bo n om ob p0 (by omega) (by omega) (by omega)) (cwV 1 hts gX6_fan_X6_needNode rfl rfl rfl (by decide +kernel) ⟨Nat.le_of_ble_eq_true rfl, Nat.le_of_ble_eq_true rfl⟩) hK hX hP hD hS hA [0, 1] (by decide) rfl rfl (fun _ => rfl) rfl rfl (fun _ => rfl) (fun _ => rfl) (As := [.int p0]) (rest := []) rfl rfl hl.1 (Nat.le_of_ble_eq_true rfl) dX6_fan_2 ⟨Nat.le_of_ble_eq_true rfl, Nat.le_of_ble_eq_true rfl⟩ hnx hlocks rfl (fun E h => Or.inl h) (Nat.le_of_ble_eq_true rfl) (Nat.le_of_ble_eq_true rfl) (fun _ H locs hx_2 hP hD hS => ?_)
  have hP : va_P D vwCl (List.flatten [wO q0 (q 0) (qh 0) (qr 0) (ql 0) (qe 0), wG κ q so le gr ne si ou bo n om ob, wH κ qh (k_rg cs made) pl kp, wR κ qr ro wo, wL κ ql lv, wE κ qe e0, wK κ cs gs made]) H := hP
  have hD : va_D A (List.flatten [wO q0 (q 0) (qh 0) (qr 0) (ql 0) (qe 0), wG κ q so le gr ne si ou bo n om ob, wH κ qh (k_rg cs made) pl kp, wR κ qr ro wo, wL κ ql lv, wE κ qe e0, wK κ cs gs made]) := hD
  refine lv_aload_n hx hb dX6_fan_5 rfl (lv_at hl 0 rfl) ?_
  refine lv_iload_n hx hb dX6_fan_6 rfl (lv_at hl 1 rfl) ?_
  refine k_xSUv (D := D) (κ := κ) (qc := (RX6, TX6, 5)) (ci := 6) (q0 := 0) (Wl := [wO q0 (q 0) (qh 0) (qr 0) (ql 0) (qe 0), wG κ q so le gr ne si ou bo n om ob, wH κ qh (k_rg cs made) pl kp, wR κ qr ro wo, wL κ ql lv, wE κ qe e0, wK κ cs gs made]) (Wc := [wO q0 (q 0) (qh 0) (qr 0) (ql 0) (qe 0), wG κ q so le gr ne si ou bo n om ob]) (W' := fun _ => [wO q0 (q 0) (qh 0) (qr 0) (ql 0) (qe 0), wG κ q so le gr ne si ou bo n om ob]) (Wn := fun _ => [wO q0 (q 0) (qh 0) (qr 0) (ql 0) (qe 0), wG κ q so le gr ne si ou bo n om ob, wH κ qh (k_rg cs made) pl kp, wR κ qr ro wo, wL κ ql lv, wE κ qe e0, wK κ cs gs made]) ⟨hx, hb, hml, hown, hts⟩ (c_X6_needStanding l hst D κ _ q0 (qh 0) (qr 0) (ql 0) (qe 0) q so le gr ne si ou bo n om ob p0 (by omega) (by omega) (by omega)) (cwV 1 hts gX6_fan_X6_needStanding rfl rfl rfl (by decide +kernel) ⟨Nat.le_of_ble_eq_true rfl, Nat.le_of_ble_eq_true rfl⟩) hK hX hP hD hS hA [0, 1] (by decide) rfl rfl (fun _ => rfl) rfl rfl (fun _ => rfl) (fun _ => rfl) (As := [.int p0]) (rest := []) rfl rfl hl.1 (Nat.le_of_ble_eq_true rfl) dX6_fan_7 ⟨Nat.le_of_ble_eq_true rfl, Nat.le_of_ble_eq_true rfl⟩ hnx hlocks rfl (fun E h => Or.inr ⟨h.1, hx_2, h.2⟩) (Nat.le_of_ble_eq_true rfl) (Nat.le_of_ble_eq_true rfl) (fun _ H locs hx_7 hP hD hS => ?_)
  have hP : va_P D vwCl (List.flatten [wO q0 (q 0) (qh 0) (qr 0) (ql 0) (qe 0), wG κ q so le gr ne si ou bo n om ob, wH κ qh (k_rg cs made) pl kp, wR κ qr ro wo, wL κ ql lv, wE κ qe e0, wK κ cs gs made]) H := hP
  have hD : va_D A (List.flatten [wO q0 (q 0) (qh 0) (qr 0) (ql 0) (qe 0), wG κ q so le gr ne si ou bo n om ob, wH κ qh (k_rg cs made) pl kp, wR κ qr ro wo, wL κ ql lv, wE κ qe e0, wK κ cs gs made]) := hD
  refine lv_aload_n hx hb dX6_fan_10 rfl (lv_at hl 0 rfl) ?_
  refine va_get (D := D) (ci := 6) (v := .ref (q 0)) (C := RX6) (T := TX6) (N := 5) hx hb hts (iwX6_fan_6) hown hK.1 hP 0 rfl rfl 0 (by decide) (hts (.fieldLink RX6 12 "InverterGraphs" "graph" "LInverterGraphs$Graph;") (by decide +kernel)) (fun _ h9 => h9) rfl dX6_fan_11 ?_
  refine lv_iload_n hx hb dX6_fan_14 rfl (lv_at hl 1 rfl) ?_
  refine k_cRO (D := D) (κ := κ) (qc := (RX1, TX1, 10)) (ci := 1) (q0 := 0) ⟨hx, hb, hml, hown, hts⟩ (c_X1_usesOf l D κ q so le gr ne si ou bo n om ob p0 (by omega) (by omega) (by omega)) (cwV 1 hts gX6_fan_X1_usesOf rfl rfl rfl (by decide +kernel) ⟨Nat.le_of_ble_eq_true rfl, Nat.le_of_ble_eq_true rfl⟩) hK (k_sub1 (S := wG κ q so le gr ne si ou bo n om ob) hP 1 rfl) rfl rfl (As := [.int p0]) (rest := []) rfl rfl hl.1 (Nat.le_of_ble_eq_true rfl) dX6_fan_15 ⟨Nat.le_of_ble_eq_true rfl, Nat.le_of_ble_eq_true rfl⟩ (fun r hr => ?_)
  subst hr
  refine vx_ret ?_
  refine W.widen (k := 24) (n := 2900) (by omega) (by omega) ?_
  exact W.iret (v := k_useO ou p0 (k_use3 le gr ne p0 n) om) hx hb hr (fun t ht hW => ⟨⟨k_useO ou p0 (k_use3 le gr ne p0 n) om, ((so, le, gr, ne, si, ou, bo, n, om, ob), (cs, gs, made, pl, kp), ro, wo, lv, e0), rfl, ⟨hx_2, hx_7, rfl, rfl⟩, by rw [ht]; exact hP, hD⟩, hS.F ht⟩) hS.2.2 dX6_fan_18
theorem iwX6_node_6 : ∀ w ∈ wsX60, w ∈ wsX6_node := by decide +kernel
set_option maxHeartbeats 4000000 in
set_option maxRecDepth 100000 in
theorem c_X6_node (l : Launch) (hst : l.stackTraces = false) (D : va_G) (κ : Nat → ClassId) (sz : Nat) (q0 : Nat) (qh qr ql qe : Nat → Nat) (q : Nat → Nat) (so le gr ne si ou bo : Nat → Int32) (n om ob : Nat) (cs : Nat → Nat → Nat) (gs : Nat → KH) (made pl kp : Nat) (ro : Nat → Int64) (wo : Int32) (lv : Nat → Int32) (e0 : KE) (p0 p1 : Int32) (hn : n ≤ 400) (hom : om ≤ 40) (hob : ob ≤ om) (hgs : ∀ k, k < made → k_bG (gs k)) (hpl : pl < 30) (hpm : pl ≤ made) (hma : made ≤ 30) (hkp : kp ≤ 30) : k_xui (S := XV) l yX6_node wsX6_node 7 111 24 2900 D κ [.ref q0, .int p0, .int p1] (List.flatten [wO q0 (q 0) (qh 0) (qr 0) (ql 0) (qe 0), wG κ q so le gr ne si ou bo n om ob, wH κ qh (k_rg cs made) pl kp, wR κ qr ro wo, wL κ ql lv, wE κ qe e0, wK κ cs gs made]) sz (fun r u => x_yn n p0 ∧ u = ((so, le, gr, ne, si, ou, bo, n, om, ob), (cs, gs, made, pl, kp), ro, wo, lv, e0) ∧ ((p1 = 0 ∧ r = k_cat 400 so p0) ∨ (p1 = 1 ∧ r = k_cat 400 le p0) ∨ (p1 = 2 ∧ r = k_cat 400 gr p0) ∨ (p1 = 3 ∧ r = k_cat 400 si p0))) (fun u => wX κ q0 q qh qr ql qe u) (fun E => (E = "java/lang/IndexOutOfBoundsException" ∧ x_nn n p0) ∨ (E = "java/lang/IllegalArgumentException" ∧ x_yn n p0 ∧ ¬ p1 = 0 ∧ ¬ p1 = 1 ∧ ¬ p1 = 2 ∧ ¬ p1 = 3)) := by
  refine vx_ofW (cc := cX6_node) (maxL := 3) (ret := (some .int)) (by decide) rfl ?_
  intro p e s m args below meth c s₁ B hml hnx hv
  obtain ⟨rfl, ⟨hsz, hK, hP, hD0⟩, hX⟩ := hv
  have hx := B.exec
  have hb := B.bytes
  have hr := B.returns
  have hts := atoms_spec (ws := wsX6_node) B.pre
  have hown : s.vm.findClass RX6 = some m.cls := findClass_of_methodNamed B.named
  have hlocks := B.notSynchronized
  subst hsz
  have hD := hD0.self (sz := s.heap.size)
  generalize hAe : va_A (List.flatten [wO q0 (q 0) (qh 0) (qr 0) (ql 0) (qe 0), wG κ q so le gr ne si ou bo n om ob, wH κ qh (k_rg cs made) pl kp, wR κ qr ro wo, wL κ ql lv, wE κ qe e0, wK κ cs gs made]) s.heap.size = A at hD hX ⊢
  have hA : ∀ q : Nat, s.heap.size ≤ q → A q := fun q h => by rw [← hAe]; exact Or.inr h
  have hS : va_S A s.heap s.heap [] := va_S.rf
  have hP : va_P D vwCl (List.flatten [wO q0 (q 0) (qh 0) (qr 0) (ql 0) (qe 0), wG κ q so le gr ne si ou bo n om ob, wH κ qh (k_rg cs made) pl kp, wR κ qr ro wo, wL κ ql lv, wE κ qe e0, wK κ cs gs made]) s.heap := hP
  have hl := lv_entry ([.ref q0, .int p0, .int p1]) (n := 3) (Nat.le_of_ble_eq_true rfl)
  rw [lg_entry_eq]
  generalize (lg_sl ([.ref q0, .int p0, .int p1]) ++ List.replicate (3 - (lg_sl ([.ref q0, .int p0, .int p1])).length) Slot.unset).toArray = ls at hl ⊢
  have hl : lv_has ls 3 [(0, .ref q0), (1, .int p0), (2, .int p1)] := hl
  refine lv_aload_n hx hb dX6_node_0 rfl (lv_at hl 0 rfl) ?_
  refine lv_iload_n hx hb dX6_node_1 rfl (lv_at hl 1 rfl) ?_
  refine k_xSUv (D := D) (κ := κ) (qc := (RX6, TX6, 5)) (ci := 6) (q0 := 0) (Wl := [wO q0 (q 0) (qh 0) (qr 0) (ql 0) (qe 0), wG κ q so le gr ne si ou bo n om ob, wH κ qh (k_rg cs made) pl kp, wR κ qr ro wo, wL κ ql lv, wE κ qe e0, wK κ cs gs made]) (Wc := [wO q0 (q 0) (qh 0) (qr 0) (ql 0) (qe 0), wG κ q so le gr ne si ou bo n om ob]) (W' := fun _ => [wO q0 (q 0) (qh 0) (qr 0) (ql 0) (qe 0), wG κ q so le gr ne si ou bo n om ob]) (Wn := fun _ => [wO q0 (q 0) (qh 0) (qr 0) (ql 0) (qe 0), wG κ q so le gr ne si ou bo n om ob, wH κ qh (k_rg cs made) pl kp, wR κ qr ro wo, wL κ ql lv, wE κ qe e0, wK κ cs gs made]) ⟨hx, hb, hml, hown, hts⟩ (c_X6_needNode l hst D κ _ q0 (qh 0) (qr 0) (ql 0) (qe 0) q so le gr ne si ou bo n om ob p0 (by omega) (by omega) (by omega)) (cwV 1 hts gX6_node_X6_needNode rfl rfl rfl (by decide +kernel) ⟨Nat.le_of_ble_eq_true rfl, Nat.le_of_ble_eq_true rfl⟩) hK hX hP hD hS hA [0, 1] (by decide) rfl rfl (fun _ => rfl) rfl rfl (fun _ => rfl) (fun _ => rfl) (As := [.int p0]) (rest := []) rfl rfl hl.1 (Nat.le_of_ble_eq_true rfl) dX6_node_2 ⟨Nat.le_of_ble_eq_true rfl, Nat.le_of_ble_eq_true rfl⟩ hnx hlocks rfl (fun E h => Or.inl h) (Nat.le_of_ble_eq_true rfl) (Nat.le_of_ble_eq_true rfl) (fun _ H locs hx_2 hP hD hS => ?_)
  have hP : va_P D vwCl (List.flatten [wO q0 (q 0) (qh 0) (qr 0) (ql 0) (qe 0), wG κ q so le gr ne si ou bo n om ob, wH κ qh (k_rg cs made) pl kp, wR κ qr ro wo, wL κ ql lv, wE κ qe e0, wK κ cs gs made]) H := hP
  have hD : va_D A (List.flatten [wO q0 (q 0) (qh 0) (qr 0) (ql 0) (qe 0), wG κ q so le gr ne si ou bo n om ob, wH κ qh (k_rg cs made) pl kp, wR κ qr ro wo, wL κ ql lv, wE κ qe e0, wK κ cs gs made]) := hD
  refine lv_iload_n hx hb dX6_node_5 rfl (lv_at hl 2 rfl) ?_
  by_cases h_0 : p1 = 0
  · skip
    refine lv_topi (nm_r (h_0) ?_)
    refine lv_tableIn (off := 30) (tgt := 36) hx hb dX6_node_6 (by decide) (by decide) rfl (by decide) ?_
    refine lv_aload_n hx hb dX6_node_36 rfl (lv_at hl 0 rfl) ?_
    refine va_get (D := D) (ci := 6) (v := .ref (q 0)) (C := RX6) (T := TX6) (N := 5) hx hb hts (iwX6_node_6) hown hK.1 hP 0 rfl rfl 0 (by decide) (hts (.fieldLink RX6 12 "InverterGraphs" "graph" "LInverterGraphs$Graph;") (by decide +kernel)) (fun _ h9 => h9) rfl dX6_node_37 ?_
    refine lv_iload_n hx hb dX6_node_40 rfl (lv_at hl 1 rfl) ?_
    refine k_cRO (D := D) (κ := κ) (qc := (RX1, TX1, 10)) (ci := 1) (q0 := 0) ⟨hx, hb, hml, hown, hts⟩ (c_X1_sortOf l D κ q so le gr ne si ou bo n om ob p0 (by omega) (by omega) (by omega)) (cwV 1 hts gX6_node_X1_sortOf rfl rfl rfl (by decide +kernel) ⟨Nat.le_of_ble_eq_true rfl, Nat.le_of_ble_eq_true rfl⟩) hK (k_sub1 (S := wG κ q so le gr ne si ou bo n om ob) hP 1 rfl) rfl rfl (As := [.int p0]) (rest := []) rfl rfl hl.1 (Nat.le_of_ble_eq_true rfl) dX6_node_41 ⟨Nat.le_of_ble_eq_true rfl, Nat.le_of_ble_eq_true rfl⟩ (fun r hr => ?_)
    subst hr
    refine vx_ret ?_
    refine W.widen (k := 24) (n := 2900) (by omega) (by omega) ?_
    exact W.iret (v := k_cat 400 so p0) hx hb hr (fun t ht hW => ⟨⟨k_cat 400 so p0, ((so, le, gr, ne, si, ou, bo, n, om, ob), (cs, gs, made, pl, kp), ro, wo, lv, e0), rfl, ⟨hx_2, rfl, Or.inl ⟨h_0, rfl⟩⟩, by rw [ht]; exact hP, hD⟩, hS.F ht⟩) hS.2.2 dX6_node_44
  by_cases h_1 : p1 = 1
  · skip
    refine lv_topi (nm_r (h_1) ?_)
    refine lv_tableIn (off := 39) (tgt := 45) hx hb dX6_node_6 (by decide) (by decide) rfl (by decide) ?_
    refine lv_aload_n hx hb dX6_node_45 rfl (lv_at hl 0 rfl) ?_
    refine va_get (D := D) (ci := 6) (v := .ref (q 0)) (C := RX6) (T := TX6) (N := 5) hx hb hts (iwX6_node_6) hown hK.1 hP 0 rfl rfl 0 (by decide) (hts (.fieldLink RX6 12 "InverterGraphs" "graph" "LInverterGraphs$Graph;") (by decide +kernel)) (fun _ h9 => h9) rfl dX6_node_46 ?_
    refine lv_iload_n hx hb dX6_node_49 rfl (lv_at hl 1 rfl) ?_
    refine k_cRO (D := D) (κ := κ) (qc := (RX1, TX1, 10)) (ci := 1) (q0 := 0) ⟨hx, hb, hml, hown, hts⟩ (c_X1_lesserFanin l D κ q so le gr ne si ou bo n om ob p0 (by omega) (by omega) (by omega)) (cwV 1 hts gX6_node_X1_lesserFanin rfl rfl rfl (by decide +kernel) ⟨Nat.le_of_ble_eq_true rfl, Nat.le_of_ble_eq_true rfl⟩) hK (k_sub1 (S := wG κ q so le gr ne si ou bo n om ob) hP 1 rfl) rfl rfl (As := [.int p0]) (rest := []) rfl rfl hl.1 (Nat.le_of_ble_eq_true rfl) dX6_node_50 ⟨Nat.le_of_ble_eq_true rfl, Nat.le_of_ble_eq_true rfl⟩ (fun r hr => ?_)
    subst hr
    refine vx_ret ?_
    refine W.widen (k := 24) (n := 2900) (by omega) (by omega) ?_
    exact W.iret (v := k_cat 400 le p0) hx hb hr (fun t ht hW => ⟨⟨k_cat 400 le p0, ((so, le, gr, ne, si, ou, bo, n, om, ob), (cs, gs, made, pl, kp), ro, wo, lv, e0), rfl, ⟨hx_2, rfl, Or.inr (Or.inl ⟨h_1, rfl⟩)⟩, by rw [ht]; exact hP, hD⟩, hS.F ht⟩) hS.2.2 dX6_node_53
  by_cases h_2 : p1 = 2
  · skip
    refine lv_topi (nm_r (h_2) ?_)
    refine lv_tableIn (off := 48) (tgt := 54) hx hb dX6_node_6 (by decide) (by decide) rfl (by decide) ?_
    refine lv_aload_n hx hb dX6_node_54 rfl (lv_at hl 0 rfl) ?_
    refine va_get (D := D) (ci := 6) (v := .ref (q 0)) (C := RX6) (T := TX6) (N := 5) hx hb hts (iwX6_node_6) hown hK.1 hP 0 rfl rfl 0 (by decide) (hts (.fieldLink RX6 12 "InverterGraphs" "graph" "LInverterGraphs$Graph;") (by decide +kernel)) (fun _ h9 => h9) rfl dX6_node_55 ?_
    refine lv_iload_n hx hb dX6_node_58 rfl (lv_at hl 1 rfl) ?_
    refine k_cRO (D := D) (κ := κ) (qc := (RX1, TX1, 10)) (ci := 1) (q0 := 0) ⟨hx, hb, hml, hown, hts⟩ (c_X1_greaterFanin l D κ q so le gr ne si ou bo n om ob p0 (by omega) (by omega) (by omega)) (cwV 1 hts gX6_node_X1_greaterFanin rfl rfl rfl (by decide +kernel) ⟨Nat.le_of_ble_eq_true rfl, Nat.le_of_ble_eq_true rfl⟩) hK (k_sub1 (S := wG κ q so le gr ne si ou bo n om ob) hP 1 rfl) rfl rfl (As := [.int p0]) (rest := []) rfl rfl hl.1 (Nat.le_of_ble_eq_true rfl) dX6_node_59 ⟨Nat.le_of_ble_eq_true rfl, Nat.le_of_ble_eq_true rfl⟩ (fun r hr => ?_)
    subst hr
    refine vx_ret ?_
    refine W.widen (k := 24) (n := 2900) (by omega) (by omega) ?_
    exact W.iret (v := k_cat 400 gr p0) hx hb hr (fun t ht hW => ⟨⟨k_cat 400 gr p0, ((so, le, gr, ne, si, ou, bo, n, om, ob), (cs, gs, made, pl, kp), ro, wo, lv, e0), rfl, ⟨hx_2, rfl, Or.inr (Or.inr (Or.inl ⟨h_2, rfl⟩))⟩, by rw [ht]; exact hP, hD⟩, hS.F ht⟩) hS.2.2 dX6_node_62
  by_cases h_3 : p1 = 3
  · skip
    refine lv_topi (nm_r (h_3) ?_)
    refine lv_tableIn (off := 57) (tgt := 63) hx hb dX6_node_6 (by decide) (by decide) rfl (by decide) ?_
    refine lv_aload_n hx hb dX6_node_63 rfl (lv_at hl 0 rfl) ?_
    refine va_get (D := D) (ci := 6) (v := .ref (q 0)) (C := RX6) (T := TX6) (N := 5) hx hb hts (iwX6_node_6) hown hK.1 hP 0 rfl rfl 0 (by decide) (hts (.fieldLink RX6 12 "InverterGraphs" "graph" "LInverterGraphs$Graph;") (by decide +kernel)) (fun _ h9 => h9) rfl dX6_node_64 ?_
    refine lv_iload_n hx hb dX6_node_67 rfl (lv_at hl 1 rfl) ?_
    refine k_cRO (D := D) (κ := κ) (qc := (RX1, TX1, 10)) (ci := 1) (q0 := 0) ⟨hx, hb, hml, hown, hts⟩ (c_X1_standInOf l D κ q so le gr ne si ou bo n om ob p0 (by omega) (by omega) (by omega)) (cwV 1 hts gX6_node_X1_standInOf rfl rfl rfl (by decide +kernel) ⟨Nat.le_of_ble_eq_true rfl, Nat.le_of_ble_eq_true rfl⟩) hK (k_sub1 (S := wG κ q so le gr ne si ou bo n om ob) hP 1 rfl) rfl rfl (As := [.int p0]) (rest := []) rfl rfl hl.1 (Nat.le_of_ble_eq_true rfl) dX6_node_68 ⟨Nat.le_of_ble_eq_true rfl, Nat.le_of_ble_eq_true rfl⟩ (fun r hr => ?_)
    subst hr
    refine vx_ret ?_
    refine W.widen (k := 24) (n := 2900) (by omega) (by omega) ?_
    exact W.iret (v := k_cat 400 si p0) hx hb hr (fun t ht hW => ⟨⟨k_cat 400 si p0, ((so, le, gr, ne, si, ou, bo, n, om, ob), (cs, gs, made, pl, kp), ro, wo, lv, e0), rfl, ⟨hx_2, rfl, Or.inr (Or.inr (Or.inr (⟨h_3, rfl⟩)))⟩, by rw [ht]; exact hP, hD⟩, hS.F ht⟩) hS.2.2 dX6_node_71
  refine lv_tableOut (tgt := 72) hx hb dX6_node_6 (x_swO (k := 3) (by omega) (fun i hi => ?_)) (by decide) ?_
  · rcases (show i = 0 ∨ i = 1 ∨ i = 2 ∨ i = 3 by omega) with rfl | rfl | rfl | rfl
    · exact h_0
    · exact h_1
    · exact h_2
    · exact h_3
  exact k_throw (D := D) (E := "java/lang/IllegalArgumentException") (text := "of a node there are 0 to 3") (ik := 101) (is := 197) (ic := 105) hx hb hst hown (by decide) (by decide) (hts (.classLink RX6 101 "java/lang/IllegalArgumentException") (by decide +kernel)) (hts (.initialized "java/lang/IllegalArgumentException") (by decide +kernel)) (fun w hw => hts w (List.mem_cons_of_mem _ (List.mem_append_left _ (List.mem_append_right _ hw)))) k_bad_A k_good_A (by decide +kernel) hX hP hD hS (by rw [hml]; exact hl.1) dX6_node_72 dX6_node_75 dX6_node_76 dX6_node_78 dX6_node_81 hnx (Nat.le_of_ble_eq_true rfl) (Nat.le_of_ble_eq_true rfl) (Nat.le_of_ble_eq_true rfl) (Nat.le_of_ble_eq_true rfl) (Nat.le_of_ble_eq_true rfl) hlocks (Or.inr ⟨rfl, hx_2, h_0, h_1, h_2, h_3⟩) (Nat.le_of_ble_eq_true rfl) (Nat.le_of_ble_eq_true rfl)
theorem iwX6_size_6 : ∀ w ∈ wsX60, w ∈ wsX6_size := by decide +kernel
set_option maxHeartbeats 4000000 in
set_option maxRecDepth 100000 in
theorem c_X6_size (l : Launch) (D : va_G) (κ : Nat → ClassId) (sz : Nat) (q0 : Nat) (qh qr ql qe : Nat → Nat) (q : Nat → Nat) (so le gr ne si ou bo : Nat → Int32) (n om ob : Nat) (cs : Nat → Nat → Nat) (gs : Nat → KH) (made pl kp : Nat) (ro : Nat → Int64) (wo : Int32) (lv : Nat → Int32) (e0 : KE) (hn : n ≤ 400) (hom : om ≤ 40) (hob : ob ≤ om) (hgs : ∀ k, k < made → k_bG (gs k)) (hpl : pl < 30) (hpm : pl ≤ made) (hma : made ≤ 30) (hkp : kp ≤ 30) : k_mui (S := XV) l yX6_size wsX6_size 2 44 24 2900 D κ [.ref q0] (List.flatten [wO q0 (q 0) (qh 0) (qr 0) (ql 0) (qe 0), wG κ q so le gr ne si ou bo n om ob, wH κ qh (k_rg cs made) pl kp, wR κ qr ro wo, wL κ ql lv, wE κ qe e0, wK κ cs gs made]) sz (fun r u => r = k_cnt so 2 n ∧ u = ((so, le, gr, ne, si, ou, bo, n, om, ob), (cs, gs, made, pl, kp), ro, wo, lv, e0)) (fun u => wX κ q0 q qh qr ql qe u) := by
  refine Met.ofW (cc := cX6_size) (maxL := 1) (ret := (some .int)) (by decide) rfl ?_
  intro p e s m args below meth c s₁ B hml hv
  obtain ⟨rfl, hsz, hK, hP, hD0⟩ := hv
  have hx := B.exec
  have hb := B.bytes
  have hr := B.returns
  have hts := atoms_spec (ws := wsX6_size) B.pre
  have hown : s.vm.findClass RX6 = some m.cls := findClass_of_methodNamed B.named
  have hlocks := B.notSynchronized
  subst hsz
  have hD := hD0.self (sz := s.heap.size)
  generalize hAe : va_A (List.flatten [wO q0 (q 0) (qh 0) (qr 0) (ql 0) (qe 0), wG κ q so le gr ne si ou bo n om ob, wH κ qh (k_rg cs made) pl kp, wR κ qr ro wo, wL κ ql lv, wE κ qe e0, wK κ cs gs made]) s.heap.size = A at hD ⊢
  have hA : ∀ q : Nat, s.heap.size ≤ q → A q := fun q h => by rw [← hAe]; exact Or.inr h
  have hS : va_S A s.heap s.heap [] := va_S.rf
  have hP : va_P D vwCl (List.flatten [wO q0 (q 0) (qh 0) (qr 0) (ql 0) (qe 0), wG κ q so le gr ne si ou bo n om ob, wH κ qh (k_rg cs made) pl kp, wR κ qr ro wo, wL κ ql lv, wE κ qe e0, wK κ cs gs made]) s.heap := hP
  have hl := lv_entry ([.ref q0]) (n := 1) (Nat.le_of_ble_eq_true rfl)
  rw [lg_entry_eq]
  generalize (lg_sl ([.ref q0]) ++ List.replicate (1 - (lg_sl ([.ref q0])).length) Slot.unset).toArray = ls at hl ⊢
  have hl : lv_has ls 1 [(0, .ref q0)] := hl
  refine lv_aload_n hx hb dX6_size_0 rfl (lv_at hl 0 rfl) ?_
  refine va_get (D := D) (ci := 6) (v := .ref (q 0)) (C := RX6) (T := TX6) (N := 5) hx hb hts (iwX6_size_6) hown hK.1 hP 0 rfl rfl 0 (by decide) (hts (.fieldLink RX6 12 "InverterGraphs" "graph" "LInverterGraphs$Graph;") (by decide +kernel)) (fun _ h9 => h9) rfl dX6_size_1 ?_
  refine lv_iconst (v := 2) hx hb dX6_size_4 (by decide) ?_
  refine k_cRO (D := D) (κ := κ) (qc := (RX1, TX1, 10)) (ci := 1) (q0 := 0) ⟨hx, hb, hml, hown, hts⟩ (c_X1_howMany l D κ q so le gr ne si ou bo n om ob 2 (by omega) (by omega) (by omega)) (cwV 1 hts gX6_size_X1_howMany rfl rfl rfl (by decide +kernel) ⟨Nat.le_of_ble_eq_true rfl, Nat.le_of_ble_eq_true rfl⟩) hK (k_sub1 (S := wG κ q so le gr ne si ou bo n om ob) hP 1 rfl) rfl rfl (As := [.int 2]) (rest := []) rfl rfl hl.1 (Nat.le_of_ble_eq_true rfl) dX6_size_5 ⟨Nat.le_of_ble_eq_true rfl, Nat.le_of_ble_eq_true rfl⟩ (fun r hr => ?_)
  subst hr
  refine W.widen (k := 24) (n := 2900) (by omega) (by omega) ?_
  exact W.iret (v := k_cnt so 2 n) hx hb hr (fun t ht hW => ⟨⟨k_cnt so 2 n, ((so, le, gr, ne, si, ou, bo, n, om, ob), (cs, gs, made, pl, kp), ro, wo, lv, e0), rfl, ⟨rfl, rfl⟩, by rw [ht]; exact hP, hD⟩, hS.F ht⟩) hS.2.2 dX6_size_8
theorem iwX6_count_6 : ∀ w ∈ wsX60, w ∈ wsX6_count := by decide +kernel
set_option maxHeartbeats 4000000 in
set_option maxRecDepth 100000 in
theorem c_X6_count (l : Launch) (hst : l.stackTraces = false) (D : va_G) (κ : Nat → ClassId) (sz : Nat) (q0 : Nat) (qh qr ql qe : Nat → Nat) (q : Nat → Nat) (so le gr ne si ou bo : Nat → Int32) (n om ob : Nat) (cs : Nat → Nat → Nat) (gs : Nat → KH) (made pl kp : Nat) (ro : Nat → Int64) (wo : Int32) (lv : Nat → Int32) (e0 : KE) (p0 : Int32) (hn : n ≤ 400) (hom : om ≤ 40) (hob : ob ≤ om) (hgs : ∀ k, k < made → k_bG (gs k)) (hpl : pl < 30) (hpm : pl ≤ made) (hma : made ≤ 30) (hkp : kp ≤ 30) : k_xui (S := XV) l yX6_count wsX6_count 6 91 24 2900 D κ [.ref q0, .int p0] (List.flatten [wO q0 (q 0) (qh 0) (qr 0) (ql 0) (qe 0), wG κ q so le gr ne si ou bo n om ob, wH κ qh (k_rg cs made) pl kp, wR κ qr ro wo, wL κ ql lv, wE κ qe e0, wK κ cs gs made]) sz (fun r u => (p0 = 0 ∧ r = nI n ∧ u = ((so, le, gr, ne, si, ou, bo, n, om, ob), (cs, gs, made, pl, kp), ro, wo, lv, e0)) ∨ (p0 = 1 ∧ r = k_cnt so 1 n ∧ u = ((so, le, gr, ne, si, ou, bo, n, om, ob), (cs, gs, made, pl, kp), ro, wo, lv, e0)) ∨ (p0 = 2 ∧ r = nI om ∧ u = ((so, le, gr, ne, si, ou, bo, n, om, ob), (cs, gs, made, pl, kp), ro, wo, lv, e0)) ∨ (p0 = 3 ∧ r = k_cnt so 3 n ∧ u = ((so, le, gr, ne, si, ou, bo, n, om, ob), (cs, gs, made, pl, kp), ro, wo, lv, e0)) ∨ (p0 = 4 ∧ r = nI kp ∧ u = ((so, le, gr, ne, si, ou, bo, n, om, ob), (cs, gs, made, pl, kp), ro, wo, lv, e0)) ∨ (p0 = 5 ∧ r = k_gmax (k_lw so le gr n 400 1 (k_fillF lv 0 400)) 400 ∧ u = ((so, le, gr, ne, si, ou, bo, n, om, ob), (cs, gs, made, pl, kp), ro, wo, k_lw so le gr n 400 1 (k_fillF lv 0 400), e0))) (fun u => wX κ q0 q qh qr ql qe u) (fun E => E = "java/lang/IllegalArgumentException" ∧ ¬ p0 = 0 ∧ ¬ p0 = 1 ∧ ¬ p0 = 2 ∧ ¬ p0 = 3 ∧ ¬ p0 = 4 ∧ ¬ p0 = 5) := by
  refine vx_ofW (cc := cX6_count) (maxL := 2) (ret := (some .int)) (by decide) rfl ?_
  intro p e s m args below meth c s₁ B hml hnx hv
  obtain ⟨rfl, ⟨hsz, hK, hP, hD0⟩, hX⟩ := hv
  have hx := B.exec
  have hb := B.bytes
  have hr := B.returns
  have hts := atoms_spec (ws := wsX6_count) B.pre
  have hown : s.vm.findClass RX6 = some m.cls := findClass_of_methodNamed B.named
  have hlocks := B.notSynchronized
  subst hsz
  have hD := hD0.self (sz := s.heap.size)
  generalize hAe : va_A (List.flatten [wO q0 (q 0) (qh 0) (qr 0) (ql 0) (qe 0), wG κ q so le gr ne si ou bo n om ob, wH κ qh (k_rg cs made) pl kp, wR κ qr ro wo, wL κ ql lv, wE κ qe e0, wK κ cs gs made]) s.heap.size = A at hD hX ⊢
  have hA : ∀ q : Nat, s.heap.size ≤ q → A q := fun q h => by rw [← hAe]; exact Or.inr h
  have hS : va_S A s.heap s.heap [] := va_S.rf
  have hP : va_P D vwCl (List.flatten [wO q0 (q 0) (qh 0) (qr 0) (ql 0) (qe 0), wG κ q so le gr ne si ou bo n om ob, wH κ qh (k_rg cs made) pl kp, wR κ qr ro wo, wL κ ql lv, wE κ qe e0, wK κ cs gs made]) s.heap := hP
  have hl := lv_entry ([.ref q0, .int p0]) (n := 2) (Nat.le_of_ble_eq_true rfl)
  rw [lg_entry_eq]
  generalize (lg_sl ([.ref q0, .int p0]) ++ List.replicate (2 - (lg_sl ([.ref q0, .int p0])).length) Slot.unset).toArray = ls at hl ⊢
  have hl : lv_has ls 2 [(0, .ref q0), (1, .int p0)] := hl
  refine lv_iload_n hx hb dX6_count_0 rfl (lv_at hl 1 rfl) ?_
  by_cases h_0 : p0 = 0
  · skip
    refine lv_topi (nm_r (h_0) ?_)
    refine lv_tableIn (off := 39) (tgt := 40) hx hb dX6_count_1 (by decide) (by decide) rfl (by decide) ?_
    refine lv_aload_n hx hb dX6_count_40 rfl (lv_at hl 0 rfl) ?_
    refine va_get (D := D) (ci := 6) (v := .ref (q 0)) (C := RX6) (T := TX6) (N := 5) hx hb hts (iwX6_count_6) hown hK.1 hP 0 rfl rfl 0 (by decide) (hts (.fieldLink RX6 12 "InverterGraphs" "graph" "LInverterGraphs$Graph;") (by decide +kernel)) (fun _ h9 => h9) rfl dX6_count_41 ?_
    refine k_cRO (D := D) (κ := κ) (qc := (RX1, TX1, 10)) (ci := 1) (q0 := 0) ⟨hx, hb, hml, hown, hts⟩ (c_X1_nodesGiven l D κ q so le gr ne si ou bo n om ob  (by omega) (by omega) (by omega)) (cwV 0 hts gX6_count_X1_nodesGiven rfl rfl rfl (by decide +kernel) ⟨Nat.le_of_ble_eq_true rfl, Nat.le_of_ble_eq_true rfl⟩) hK (k_sub1 (S := wG κ q so le gr ne si ou bo n om ob) hP 1 rfl) rfl rfl (As := []) (rest := []) rfl rfl hl.1 (Nat.le_of_ble_eq_true rfl) dX6_count_44 ⟨Nat.le_of_ble_eq_true rfl, Nat.le_of_ble_eq_true rfl⟩ (fun r hr => ?_)
    subst hr
    refine vx_ret ?_
    refine W.widen (k := 24) (n := 2900) (by omega) (by omega) ?_
    exact W.iret (v := nI n) hx hb hr (fun t ht hW => ⟨⟨nI n, ((so, le, gr, ne, si, ou, bo, n, om, ob), (cs, gs, made, pl, kp), ro, wo, lv, e0), rfl, Or.inl ⟨h_0, rfl, rfl⟩, by rw [ht]; exact hP, hD⟩, hS.F ht⟩) hS.2.2 dX6_count_47
  by_cases h_1 : p0 = 1
  · skip
    refine lv_topi (nm_r (h_1) ?_)
    refine lv_tableIn (off := 47) (tgt := 48) hx hb dX6_count_1 (by decide) (by decide) rfl (by decide) ?_
    refine lv_aload_n hx hb dX6_count_48 rfl (lv_at hl 0 rfl) ?_
    refine va_get (D := D) (ci := 6) (v := .ref (q 0)) (C := RX6) (T := TX6) (N := 5) hx hb hts (iwX6_count_6) hown hK.1 hP 0 rfl rfl 0 (by decide) (hts (.fieldLink RX6 12 "InverterGraphs" "graph" "LInverterGraphs$Graph;") (by decide +kernel)) (fun _ h9 => h9) rfl dX6_count_49 ?_
    refine lv_iconst (v := 1) hx hb dX6_count_52 (by decide) ?_
    refine k_cRO (D := D) (κ := κ) (qc := (RX1, TX1, 10)) (ci := 1) (q0 := 0) ⟨hx, hb, hml, hown, hts⟩ (c_X1_howMany l D κ q so le gr ne si ou bo n om ob 1 (by omega) (by omega) (by omega)) (cwV 1 hts gX6_count_X1_howMany rfl rfl rfl (by decide +kernel) ⟨Nat.le_of_ble_eq_true rfl, Nat.le_of_ble_eq_true rfl⟩) hK (k_sub1 (S := wG κ q so le gr ne si ou bo n om ob) hP 1 rfl) rfl rfl (As := [.int 1]) (rest := []) rfl rfl hl.1 (Nat.le_of_ble_eq_true rfl) dX6_count_53 ⟨Nat.le_of_ble_eq_true rfl, Nat.le_of_ble_eq_true rfl⟩ (fun r hr => ?_)
    subst hr
    refine vx_ret ?_
    refine W.widen (k := 24) (n := 2900) (by omega) (by omega) ?_
    exact W.iret (v := k_cnt so 1 n) hx hb hr (fun t ht hW => ⟨⟨k_cnt so 1 n, ((so, le, gr, ne, si, ou, bo, n, om, ob), (cs, gs, made, pl, kp), ro, wo, lv, e0), rfl, Or.inr (Or.inl ⟨h_1, rfl, rfl⟩), by rw [ht]; exact hP, hD⟩, hS.F ht⟩) hS.2.2 dX6_count_56
  by_cases h_2 : p0 = 2
  · skip
    refine lv_topi (nm_r (h_2) ?_)
    refine lv_tableIn (off := 56) (tgt := 57) hx hb dX6_count_1 (by decide) (by decide) rfl (by decide) ?_
    refine lv_aload_n hx hb dX6_count_57 rfl (lv_at hl 0 rfl) ?_
    refine va_get (D := D) (ci := 6) (v := .ref (q 0)) (C := RX6) (T := TX6) (N := 5) hx hb hts (iwX6_count_6) hown hK.1 hP 0 rfl rfl 0 (by decide) (hts (.fieldLink RX6 12 "InverterGraphs" "graph" "LInverterGraphs$Graph;") (by decide +kernel)) (fun _ h9 => h9) rfl dX6_count_58 ?_
    refine k_cRO (D := D) (κ := κ) (qc := (RX1, TX1, 10)) (ci := 1) (q0 := 0) ⟨hx, hb, hml, hown, hts⟩ (c_X1_outputsGiven l D κ q so le gr ne si ou bo n om ob  (by omega) (by omega) (by omega)) (cwV 0 hts gX6_count_X1_outputsGiven rfl rfl rfl (by decide +kernel) ⟨Nat.le_of_ble_eq_true rfl, Nat.le_of_ble_eq_true rfl⟩) hK (k_sub1 (S := wG κ q so le gr ne si ou bo n om ob) hP 1 rfl) rfl rfl (As := []) (rest := []) rfl rfl hl.1 (Nat.le_of_ble_eq_true rfl) dX6_count_61 ⟨Nat.le_of_ble_eq_true rfl, Nat.le_of_ble_eq_true rfl⟩ (fun r hr => ?_)
    subst hr
    refine vx_ret ?_
    refine W.widen (k := 24) (n := 2900) (by omega) (by omega) ?_
    exact W.iret (v := nI om) hx hb hr (fun t ht hW => ⟨⟨nI om, ((so, le, gr, ne, si, ou, bo, n, om, ob), (cs, gs, made, pl, kp), ro, wo, lv, e0), rfl, Or.inr (Or.inr (Or.inl ⟨h_2, rfl, rfl⟩)), by rw [ht]; exact hP, hD⟩, hS.F ht⟩) hS.2.2 dX6_count_64
  by_cases h_3 : p0 = 3
  · skip
    refine lv_topi (nm_r (h_3) ?_)
    refine lv_tableIn (off := 64) (tgt := 65) hx hb dX6_count_1 (by decide) (by decide) rfl (by decide) ?_
    refine lv_aload_n hx hb dX6_count_65 rfl (lv_at hl 0 rfl) ?_
    refine va_get (D := D) (ci := 6) (v := .ref (q 0)) (C := RX6) (T := TX6) (N := 5) hx hb hts (iwX6_count_6) hown hK.1 hP 0 rfl rfl 0 (by decide) (hts (.fieldLink RX6 12 "InverterGraphs" "graph" "LInverterGraphs$Graph;") (by decide +kernel)) (fun _ h9 => h9) rfl dX6_count_66 ?_
    refine lv_iconst (v := 3) hx hb dX6_count_69 (by decide) ?_
    refine k_cRO (D := D) (κ := κ) (qc := (RX1, TX1, 10)) (ci := 1) (q0 := 0) ⟨hx, hb, hml, hown, hts⟩ (c_X1_howMany l D κ q so le gr ne si ou bo n om ob 3 (by omega) (by omega) (by omega)) (cwV 1 hts gX6_count_X1_howMany rfl rfl rfl (by decide +kernel) ⟨Nat.le_of_ble_eq_true rfl, Nat.le_of_ble_eq_true rfl⟩) hK (k_sub1 (S := wG κ q so le gr ne si ou bo n om ob) hP 1 rfl) rfl rfl (As := [.int 3]) (rest := []) rfl rfl hl.1 (Nat.le_of_ble_eq_true rfl) dX6_count_70 ⟨Nat.le_of_ble_eq_true rfl, Nat.le_of_ble_eq_true rfl⟩ (fun r hr => ?_)
    subst hr
    refine vx_ret ?_
    refine W.widen (k := 24) (n := 2900) (by omega) (by omega) ?_
    exact W.iret (v := k_cnt so 3 n) hx hb hr (fun t ht hW => ⟨⟨k_cnt so 3 n, ((so, le, gr, ne, si, ou, bo, n, om, ob), (cs, gs, made, pl, kp), ro, wo, lv, e0), rfl, Or.inr (Or.inr (Or.inr (Or.inl ⟨h_3, rfl, rfl⟩))), by rw [ht]; exact hP, hD⟩, hS.F ht⟩) hS.2.2 dX6_count_73
  by_cases h_4 : p0 = 4
  · skip
    refine lv_topi (nm_r (h_4) ?_)
    refine lv_tableIn (off := 73) (tgt := 74) hx hb dX6_count_1 (by decide) (by decide) rfl (by decide) ?_
    refine lv_aload_n hx hb dX6_count_74 rfl (lv_at hl 0 rfl) ?_
    refine va_get (D := D) (ci := 6) (v := .ref (qh 0)) (C := RX6) (T := TX6) (N := 5) hx hb hts (iwX6_count_6) hown hK.1 hP 0 rfl rfl 1 (by decide) (hts (.fieldLink RX6 19 "InverterGraphs" "history" "LInverterGraphs$History;") (by decide +kernel)) (fun _ h9 => h9) rfl dX6_count_75 ?_
    refine k_cRO (D := D) (κ := κ) (qc := (RX2, TX2, 3)) (ci := 2) (q0 := 0) ⟨hx, hb, hml, hown, hts⟩ (c_X2_changesKept l D κ qh (k_rg cs made) pl kp) (cwV 0 hts gX6_count_X2_changesKept rfl rfl rfl (by decide +kernel) ⟨Nat.le_of_ble_eq_true rfl, Nat.le_of_ble_eq_true rfl⟩) hK (k_sub1 (S := wH κ qh (k_rg cs made) pl kp) hP 2 rfl) rfl rfl (As := []) (rest := []) rfl rfl hl.1 (Nat.le_of_ble_eq_true rfl) dX6_count_78 ⟨Nat.le_of_ble_eq_true rfl, Nat.le_of_ble_eq_true rfl⟩ (fun r hr => ?_)
    subst hr
    refine vx_ret ?_
    refine W.widen (k := 24) (n := 2900) (by omega) (by omega) ?_
    exact W.iret (v := nI kp) hx hb hr (fun t ht hW => ⟨⟨nI kp, ((so, le, gr, ne, si, ou, bo, n, om, ob), (cs, gs, made, pl, kp), ro, wo, lv, e0), rfl, Or.inr (Or.inr (Or.inr (Or.inr (Or.inl ⟨h_4, rfl, rfl⟩)))), by rw [ht]; exact hP, hD⟩, hS.F ht⟩) hS.2.2 dX6_count_81
  by_cases h_5 : p0 = 5
  · skip
    refine lv_topi (nm_r (h_5) ?_)
    refine lv_tableIn (off := 81) (tgt := 82) hx hb dX6_count_1 (by decide) (by decide) rfl (by decide) ?_
    refine lv_aload_n hx hb dX6_count_82 rfl (lv_at hl 0 rfl) ?_
    refine va_get (D := D) (ci := 6) (v := .ref (ql 0)) (C := RX6) (T := TX6) (N := 5) hx hb hts (iwX6_count_6) hown hK.1 hP 0 rfl rfl 3 (by decide) (hts (.fieldLink RX6 33 "InverterGraphs" "levels" "LInverterGraphs$Levels;") (by decide +kernel)) (fun _ h9 => h9) rfl dX6_count_83 ?_
    refine lv_aload_n hx hb dX6_count_86 rfl (lv_at hl 0 rfl) ?_
    refine va_get (D := D) (ci := 6) (v := .ref (q 0)) (C := RX6) (T := TX6) (N := 5) hx hb hts (iwX6_count_6) hown hK.1 hP 0 rfl rfl 0 (by decide) (hts (.fieldLink RX6 12 "InverterGraphs" "graph" "LInverterGraphs$Graph;") (by decide +kernel)) (fun _ h9 => h9) rfl dX6_count_87 ?_
    refine k_cSUv (D := D) (κ := κ) (qc := (RX3, TX3, 1)) (ci := 3) (q0 := 0) (Wc := [wL κ ql lv, wG κ q so le gr ne si ou bo n om ob]) (W' := fun _ => [wL κ ql (k_lw so le gr n 400 1 (k_fillF lv 0 400)), wG κ q so le gr ne si ou bo n om ob]) (Wn := fun _ => [wO q0 (q 0) (qh 0) (qr 0) (ql 0) (qe 0), wG κ q so le gr ne si ou bo n om ob, wH κ qh (k_rg cs made) pl kp, wR κ qr ro wo, wL κ ql (k_lw so le gr n 400 1 (k_fillF lv 0 400)), wE κ qe e0, wK κ cs gs made]) ⟨hx, hb, hml, hown, hts⟩ (c_X3_workOut l D κ _ ql lv q so le gr ne si ou bo n om ob  (by omega) (by omega) (by omega)) (cwV 1 hts gX6_count_X3_workOut rfl rfl rfl (by decide +kernel) ⟨Nat.le_of_ble_eq_true rfl, Nat.le_of_ble_eq_true rfl⟩) hK hP hD hS hA [4, 1] (by decide) rfl rfl (fun _ => rfl) rfl rfl (fun _ => rfl) (fun _ => rfl) (As := [.ref (q 0)]) (rest := []) rfl rfl hl.1 (Nat.le_of_ble_eq_true rfl) dX6_count_90 ⟨Nat.le_of_ble_eq_true rfl, Nat.le_of_ble_eq_true rfl⟩ (fun _ H locs hw9 hP hD hS => ?_)
    have hP : va_P D vwCl (List.flatten [wO q0 (q 0) (qh 0) (qr 0) (ql 0) (qe 0), wG κ q so le gr ne si ou bo n om ob, wH κ qh (k_rg cs made) pl kp, wR κ qr ro wo, wL κ ql (k_lw so le gr n 400 1 (k_fillF lv 0 400)), wE κ qe e0, wK κ cs gs made]) H := hP
    have hD : va_D A (List.flatten [wO q0 (q 0) (qh 0) (qr 0) (ql 0) (qe 0), wG κ q so le gr ne si ou bo n om ob, wH κ qh (k_rg cs made) pl kp, wR κ qr ro wo, wL κ ql (k_lw so le gr n 400 1 (k_fillF lv 0 400)), wE κ qe e0, wK κ cs gs made]) := hD
    refine lv_aload_n hx hb dX6_count_93 rfl (lv_at hl 0 rfl) ?_
    refine va_get (D := D) (ci := 6) (v := .ref (ql 0)) (C := RX6) (T := TX6) (N := 5) hx hb hts (iwX6_count_6) hown hK.1 hP 0 rfl rfl 3 (by decide) (hts (.fieldLink RX6 33 "InverterGraphs" "levels" "LInverterGraphs$Levels;") (by decide +kernel)) (fun _ h9 => h9) rfl dX6_count_94 ?_
    refine k_cRO (D := D) (κ := κ) (qc := (RX3, TX3, 1)) (ci := 3) (q0 := 0) ⟨hx, hb, hml, hown, hts⟩ (c_X3_greatest l D κ ql (k_lw so le gr n 400 1 (k_fillF lv 0 400))  ) (cwV 0 hts gX6_count_X3_greatest rfl rfl rfl (by decide +kernel) ⟨Nat.le_of_ble_eq_true rfl, Nat.le_of_ble_eq_true rfl⟩) hK (k_sub1 (S := wL κ ql (k_lw so le gr n 400 1 (k_fillF lv 0 400))) hP 4 rfl) rfl rfl (As := []) (rest := []) rfl rfl hl.1 (Nat.le_of_ble_eq_true rfl) dX6_count_97 ⟨Nat.le_of_ble_eq_true rfl, Nat.le_of_ble_eq_true rfl⟩ (fun r hr => ?_)
    subst hr
    refine vx_ret ?_
    refine W.widen (k := 24) (n := 2900) (by omega) (by omega) ?_
    exact W.iret (v := k_gmax (k_lw so le gr n 400 1 (k_fillF lv 0 400)) 400) hx hb hr (fun t ht hW => ⟨⟨k_gmax (k_lw so le gr n 400 1 (k_fillF lv 0 400)) 400, ((so, le, gr, ne, si, ou, bo, n, om, ob), (cs, gs, made, pl, kp), ro, wo, k_lw so le gr n 400 1 (k_fillF lv 0 400), e0), rfl, Or.inr (Or.inr (Or.inr (Or.inr (Or.inr (⟨h_5, rfl, rfl⟩))))), by rw [ht]; exact hP, hD⟩, hS.F ht⟩) hS.2.2 dX6_count_100
  refine lv_tableOut (tgt := 101) hx hb dX6_count_1 (x_swO (k := 5) (by omega) (fun i hi => ?_)) (by decide) ?_
  · rcases (show i = 0 ∨ i = 1 ∨ i = 2 ∨ i = 3 ∨ i = 4 ∨ i = 5 by omega) with rfl | rfl | rfl | rfl | rfl | rfl
    · exact h_0
    · exact h_1
    · exact h_2
    · exact h_3
    · exact h_4
    · exact h_5
  exact k_throw (D := D) (E := "java/lang/IllegalArgumentException") (text := "counted are 0 to 5") (ik := 101) (is := 205) (ic := 105) hx hb hst hown (by decide) (by decide) (hts (.classLink RX6 101 "java/lang/IllegalArgumentException") (by decide +kernel)) (hts (.initialized "java/lang/IllegalArgumentException") (by decide +kernel)) (fun w hw => hts w (List.mem_cons_of_mem _ (List.mem_append_right _ hw))) k_bad_A k_good_A (by decide +kernel) hX hP hD hS (by rw [hml]; exact hl.1) dX6_count_101 dX6_count_104 dX6_count_105 dX6_count_107 dX6_count_110 hnx (Nat.le_of_ble_eq_true rfl) (Nat.le_of_ble_eq_true rfl) (Nat.le_of_ble_eq_true rfl) (Nat.le_of_ble_eq_true rfl) (Nat.le_of_ble_eq_true rfl) hlocks (⟨rfl, h_0, h_1, h_2, h_3, h_4, h_5⟩) (Nat.le_of_ble_eq_true rfl) (Nat.le_of_ble_eq_true rfl)
