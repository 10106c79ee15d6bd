/-! THE LAW'S SMALL METHODS -/
set_option maxHeartbeats 4000000 in
set_option maxRecDepth 100000 in
theorem c_L_input (l : Launch) (D : va_G) (κ : Nat → ClassId) (sz : Nat) (q0 : Nat) (qh qr ql qe : Nat → Nat) (q : Nat → Nat) (so le gr ne si ou bo : Nat → Int32) (n om ob : Nat) (cs : Nat → Nat → Nat) (gs : Nat → KH) (made pl kp : Nat) (ro : Nat → Int64) (wo : Int32) (lv : Nat → Int32) (e0 : KE) (qo : Nat) (fo : Nat → Int64) (hst : l.stackTraces = false) (hn : n ≤ 400) (hom : om ≤ 40) (hob : ob ≤ om) (hgs : ∀ k, k < made → k_bG (gs k)) (hpl : pl < 30) (hpm : pl ≤ made) (hma : made ≤ 30) (hkp : kp ≤ 30) : k_yui (S := ((Nat → Int64) × XV)) l yL_input wsL_input 8 144 24 2900 D κ [.ref q0, .ref qo] (List.flatten [wJ κ qo 1 fo, wX κ q0 q qh qr ql qe ((so, le, gr, ne, si, ou, bo, n, om, ob), (cs, gs, made, pl, kp), ro, wo, lv, e0)]) sz (fun k u => x_wrap Int32.toInt64 ["java/lang/UnsupportedOperationException"] (fun (r : Int32) u => n + 1 ≤ 400 ∧ r = k_litOf (nI n) ∧ x_chg ((so, le, gr, ne, si, ou, bo, n, om, ob), (cs, gs, made, pl, kp), ro, wo, lv, e0) (k_cpt 400 so (nI n) 1, k_cpt 400 le (nI n) (-1), k_cpt 400 gr (nI n) (-1), k_cpt 400 ne (nI n) (-1), k_cpt 400 si (nI n) (-1), ou, bo, n + 1, om, ob) e0 u) (fun E => E = "java/lang/UnsupportedOperationException" ∧ 400 < n + 1) ((so, le, gr, ne, si, ou, bo, n, om, ob), (cs, gs, made, pl, kp), ro, wo, lv, e0) k u) (fun u => List.flatten [wJ κ qo 1 u.1, wX κ q0 q qh qr ql qe u.2]) := by
  refine k_ofWH (cc := cL_input) (maxL := 3) (ret := (some .int)) (by decide) rfl ?_
  intro p e s m args below meth c s₁ B hml hv
  obtain ⟨rfl, ⟨hsz, hK, hP, hD0⟩, hX, hN⟩ := hv
  have hx := B.exec
  have hb := B.bytes
  have hr := B.returns
  have hts := atoms_spec (ws := wsL_input) B.pre
  have hown : s.vm.findClass RL = some m.cls := findClass_of_methodNamed B.named
  have hlocks := B.notSynchronized
  subst hsz
  have hD := hD0.self (sz := s.heap.size)
  generalize hAe : va_A (List.flatten [wJ κ qo 1 fo, wX κ q0 q qh qr ql qe ((so, le, gr, ne, si, ou, bo, n, om, ob), (cs, gs, made, pl, kp), ro, wo, lv, e0)]) s.heap.size = A at hD hX ⊢
  have hA : ∀ q : Nat, s.heap.size ≤ q → A q := fun q h => by rw [← hAe]; exact Or.inr h
  have hS : va_S A s.heap s.heap [] := va_S.rf
  have hP : va_P D vwCl (List.flatten [wJ κ qo 1 fo, wX κ q0 q qh qr ql qe ((so, le, gr, ne, si, ou, bo, n, om, ob), (cs, gs, made, pl, kp), ro, wo, lv, e0)]) s.heap := hP
  have hl := lv_entry ([.ref q0, .ref qo]) (n := 3) (Nat.le_of_ble_eq_true rfl)
  rw [lg_entry_eq]
  generalize (lg_sl ([.ref q0, .ref qo]) ++ List.replicate (3 - (lg_sl ([.ref q0, .ref qo])).length) Slot.unset).toArray = ls at hl ⊢
  have hl : lv_has ls 3 [(0, .ref q0), (1, .ref qo)] := hl
  have htab : c.exceptionTable.toList = tableOf [(0, 8, 11, 13)] := vx_table (x := yL_input) B (hts _ List.mem_cons_self)
  refine lv_aload_n hx hb dL_input_0 rfl (lv_at hl 1 rfl) ?_
  refine lv_iconst (v := 0) hx hb dL_input_1 (by decide) ?_
  refine lv_aload_n hx hb dL_input_2 rfl (lv_at hl 0 rfl) ?_
  refine k_ySUi (D := D) (κ := κ) (qc := (RX6, TX6, 5)) (ci := 6) (q0 := 0) (Wl := [wJ κ qo 1 fo, wX κ q0 q qh qr ql qe ((so, le, gr, ne, si, ou, bo, n, om, ob), (cs, gs, made, pl, kp), ro, wo, lv, e0)]) (Wc := [wX κ q0 q qh qr ql qe ((so, le, gr, ne, si, ou, bo, n, om, ob), (cs, gs, made, pl, kp), ro, wo, lv, e0)]) (W' := fun u => [wX κ q0 q qh qr ql qe u]) (Wn := fun u => [wJ κ qo 1 fo, wX κ q0 q qh qr ql qe u]) ⟨hx, hb, hml, hown, hts⟩ (c_X6_input l hst D κ _ q0 qh qr ql qe q so le gr ne si ou bo n om ob cs gs made pl kp ro wo lv e0  hn hom hob hgs hpl hpm hma hkp) (cwV 0 hts gL_input_X6_input rfl rfl rfl (by decide +kernel) ⟨Nat.le_of_ble_eq_true rfl, Nat.le_of_ble_eq_true rfl⟩) hK hX hP hD hS hA [1] (by decide) rfl (List.flatten_singleton) (fun _ => List.flatten_singleton) rfl rfl (fun _ => rfl) (fun _ => rfl) (As := []) (rest := [.int 0, .ref qo]) rfl rfl hl.1 (Nat.le_of_ble_eq_true rfl) dL_input_3 ⟨Nat.le_of_ble_eq_true rfl, Nat.le_of_ble_eq_true rfl⟩ (fun E ce q9 H locs hE hP hD hS hce hcv hcle => ?_) (fun r u H locs hpo hP hD hS => ?_)
  · skip
    have hEs : E = "java/lang/UnsupportedOperationException" := hE.1
    subst hEs
    refine vx_catch (own := RL) (name := "java/lang/UnsupportedOperationException") hown ([] : List ExceptionTableEntry) ⟨0, 8, 11, 13⟩ ([] : List ExceptionTableEntry) (htab.trans rfl) (fun z hz => absurd hz List.not_mem_nil) (by decide) (by decide) (hts (.classLink RL 13 "java/lang/UnsupportedOperationException") (by decide +kernel)) (va_Nw.use rfl (hX.2.1 _ (by decide))) hce hcv hcle ?_
    refine lv_astore_n (lv' := [(2, .ref q9), (0, .ref q0), (1, .ref qo)]) hx hb dL_input_11 rfl hl (by decide) rfl (fun ls hl => ?_)
    refine lv_iconst (v := 1) hx hb dL_input_12 (by decide) ?_
    exact W.iret (v := 1) hx hb hr (fun t ht hW => ⟨⟨1, (fo, ((so, le, gr, ne, si, ou, bo, n, om, ob), (cs, gs, made, pl, kp), ro, wo, lv, e0)), rfl, Or.inr ⟨0, "java/lang/UnsupportedOperationException", rfl, rfl, hE, rfl⟩, by rw [ht]; exact hP, hD⟩, hS.F ht⟩) hS.2.2 dL_input_13
  · skip
    have hP : va_P D vwCl (List.flatten [wJ κ qo 1 fo, wX κ q0 q qh qr ql qe u]) H := hP
    have hD : va_D A (List.flatten [wJ κ qo 1 fo, wX κ q0 q qh qr ql qe u]) := hD
    refine lv_i2l (v := Int32.toInt64 r) hx hb dL_input_6 rfl ?_
    refine k_last (D := D) (j := 0) hx hb hK.1 hP hD hS 0 1 rfl rfl (by omega) (by omega) dL_input_7 (fun H locs hP hD hS => ?_)
    have hP : va_P D vwCl (List.flatten [wJ κ qo 1 (vp_updL fo 0 (Int32.toInt64 r)), wX κ q0 q qh qr ql qe u]) H := hP
    have hD : va_D A (List.flatten [wJ κ qo 1 (vp_updL fo 0 (Int32.toInt64 r)), wX κ q0 q qh qr ql qe u]) := hD
    refine lv_goto (tgt := 14) hx hb dL_input_8 (by decide) ?_
    refine lv_iconst (v := 0) hx hb dL_input_14 (by decide) ?_
    exact W.iret (v := 0) hx hb hr (fun t ht hW => ⟨⟨0, (vp_updL fo 0 (Int32.toInt64 r), u), rfl, Or.inl ⟨rfl, r, by show (vp_updL fo 0 (Int32.toInt64 r)) 0 = Int32.toInt64 r; exact pk_uLs, hpo⟩, by rw [ht]; exact hP, hD⟩, hS.F ht⟩) hS.2.2 dL_input_15
set_option maxHeartbeats 4000000 in
set_option maxRecDepth 100000 in
theorem c_L_and (l : Launch) (D : va_G) (κ : Nat → ClassId) (sz : Nat) (q0 : Nat) (qh qr ql qe : Nat → Nat) (q : Nat → Nat) (so le gr ne si ou bo : Nat → Int32) (n om ob : Nat) (cs : Nat → Nat → Nat) (gs : Nat → KH) (made pl kp : Nat) (ro : Nat → Int64) (wo : Int32) (lv : Nat → Int32) (e0 : KE) (qo : Nat) (fo : Nat → Int64) (p0 p1 : Int32) (hst : l.stackTraces = false) (hn : n ≤ 400) (hom : om ≤ 40) (hob : ob ≤ om) (hgs : ∀ k, k < made → k_bG (gs k)) (hpl : pl < 30) (hpm : pl ≤ made) (hma : made ≤ 30) (hkp : kp ≤ 30) : k_yui (S := ((Nat → Int64) × XV)) l yL_and wsL_and 8 148 24 2900 D κ [.ref q0, .int p0, .int p1, .ref qo] (List.flatten [wJ κ qo 1 fo, wX κ q0 q qh qr ql qe ((so, le, gr, ne, si, ou, bo, n, om, ob), (cs, gs, made, pl, kp), ro, wo, lv, e0)]) sz (fun k u => x_wrap Int32.toInt64 ["java/lang/IndexOutOfBoundsException", "java/lang/IllegalArgumentException", "java/lang/UnsupportedOperationException"] (fun (r : Int32) u => x_yl n p0 ∧ x_yl n p1 ∧ ¬ k_cat 400 so (k_nodeOf p0) = 5 ∧ ¬ k_cat 400 so (k_nodeOf p1) = 5 ∧ ((¬ k_known le gr n p0 p1 (-1) = -1 ∧ r = k_known le gr n p0 p1 (-1) ∧ u = ((so, le, gr, ne, si, ou, bo, n, om, ob), (cs, gs, made, pl, kp), ro, wo, lv, e0)) ∨ (k_known le gr n p0 p1 (-1) = -1 ∧ n + 1 ≤ 400 ∧ r = k_litOf (nI n) ∧ x_chg ((so, le, gr, ne, si, ou, bo, n, om, ob), (cs, gs, made, pl, kp), ro, wo, lv, e0) (k_cpt 400 so (nI n) 2, k_cpt 400 (k_cpt 400 le (nI n) (-1)) (nI n) (k_min p0 p1), k_cpt 400 (k_cpt 400 gr (nI n) (-1)) (nI n) (k_max p0 p1), k_cpt 400 ne (nI n) (-1), k_cpt 400 si (nI n) (-1), ou, bo, n + 1, om, ob) e0 u))) (fun E => (E = "java/lang/IndexOutOfBoundsException" ∧ (x_nl n p0 ∨ x_nl n p1)) ∨ (E = "java/lang/IllegalArgumentException" ∧ x_yl n p0 ∧ x_yl n p1 ∧ (k_cat 400 so (k_nodeOf p0) = 5 ∨ k_cat 400 so (k_nodeOf p1) = 5)) ∨ (E = "java/lang/UnsupportedOperationException" ∧ x_yl n p0 ∧ x_yl n p1 ∧ ¬ k_cat 400 so (k_nodeOf p0) = 5 ∧ ¬ k_cat 400 so (k_nodeOf p1) = 5 ∧ k_known le gr n p0 p1 (-1) = -1 ∧ 400 < n + 1)) ((so, le, gr, ne, si, ou, bo, n, om, ob), (cs, gs, made, pl, kp), ro, wo, lv, e0) k u) (fun u => List.flatten [wJ κ qo 1 u.1, wX κ q0 q qh qr ql qe u.2]) := by
  refine k_ofWH (cc := cL_and) (maxL := 5) (ret := (some .int)) (by decide) rfl ?_
  intro p e s m args below meth c s₁ B hml hv
  obtain ⟨rfl, ⟨hsz, hK, hP, hD0⟩, hX, hN⟩ := hv
  have hx := B.exec
  have hb := B.bytes
  have hr := B.returns
  have hts := atoms_spec (ws := wsL_and) B.pre
  have hown : s.vm.findClass RL = some m.cls := findClass_of_methodNamed B.named
  have hlocks := B.notSynchronized
  subst hsz
  have hD := hD0.self (sz := s.heap.size)
  generalize hAe : va_A (List.flatten [wJ κ qo 1 fo, wX κ q0 q qh qr ql qe ((so, le, gr, ne, si, ou, bo, n, om, ob), (cs, gs, made, pl, kp), ro, wo, lv, e0)]) s.heap.size = A at hD hX ⊢
  have hA : ∀ q : Nat, s.heap.size ≤ q → A q := fun q h => by rw [← hAe]; exact Or.inr h
  have hS : va_S A s.heap s.heap [] := va_S.rf
  have hP : va_P D vwCl (List.flatten [wJ κ qo 1 fo, wX κ q0 q qh qr ql qe ((so, le, gr, ne, si, ou, bo, n, om, ob), (cs, gs, made, pl, kp), ro, wo, lv, e0)]) s.heap := hP
  have hl := lv_entry ([.ref q0, .int p0, .int p1, .ref qo]) (n := 5) (Nat.le_of_ble_eq_true rfl)
  rw [lg_entry_eq]
  generalize (lg_sl ([.ref q0, .int p0, .int p1, .ref qo]) ++ List.replicate (5 - (lg_sl ([.ref q0, .int p0, .int p1, .ref qo])).length) Slot.unset).toArray = ls at hl ⊢
  have hl : lv_has ls 5 [(0, .ref q0), (1, .int p0), (2, .int p1), (3, .ref qo)] := hl
  have htab : c.exceptionTable.toList = tableOf [(0, 10, 13, 19), (0, 10, 17, 21), (0, 10, 21, 13)] := vx_table (x := yL_and) B (hts _ List.mem_cons_self)
  refine lv_aload_n hx hb dL_and_0 rfl (lv_at hl 3 rfl) ?_
  refine lv_iconst (v := 0) hx hb dL_and_1 (by decide) ?_
  refine lv_aload_n hx hb dL_and_2 rfl (lv_at hl 0 rfl) ?_
  refine lv_iload_n hx hb dL_and_3 rfl (lv_at hl 1 rfl) ?_
  refine lv_iload_n hx hb dL_and_4 rfl (lv_at hl 2 rfl) ?_
  refine k_ySUi (D := D) (κ := κ) (qc := (RX6, TX6, 5)) (ci := 6) (q0 := 0) (Wl := [wJ κ qo 1 fo, wX κ q0 q qh qr ql qe ((so, le, gr, ne, si, ou, bo, n, om, ob), (cs, gs, made, pl, kp), ro, wo, lv, e0)]) (Wc := [wX κ q0 q qh qr ql qe ((so, le, gr, ne, si, ou, bo, n, om, ob), (cs, gs, made, pl, kp), ro, wo, lv, e0)]) (W' := fun u => [wX κ q0 q qh qr ql qe u]) (Wn := fun u => [wJ κ qo 1 fo, wX κ q0 q qh qr ql qe u]) ⟨hx, hb, hml, hown, hts⟩ (c_X6_and l hst D κ _ q0 qh qr ql qe q so le gr ne si ou bo n om ob cs gs made pl kp ro wo lv e0 p0 p1 hn hom hob hgs hpl hpm hma hkp) (cwV 2 hts gL_and_X6_and rfl rfl rfl (by decide +kernel) ⟨Nat.le_of_ble_eq_true rfl, Nat.le_of_ble_eq_true rfl⟩) hK hX hP hD hS hA [1] (by decide) rfl (List.flatten_singleton) (fun _ => List.flatten_singleton) rfl rfl (fun _ => rfl) (fun _ => rfl) (As := [.int p0, .int p1]) (rest := [.int 0, .ref qo]) rfl rfl hl.1 (Nat.le_of_ble_eq_true rfl) dL_and_5 ⟨Nat.le_of_ble_eq_true rfl, Nat.le_of_ble_eq_true rfl⟩ (fun E ce q9 H locs hE hP hD hS hce hcv hcle => ?_) (fun r u H locs hpo hP hD hS => ?_)
  · skip
    have hEs : E = "java/lang/IndexOutOfBoundsException" ∨ E = "java/lang/IllegalArgumentException" ∨ E = "java/lang/UnsupportedOperationException" := by rcases hE with ⟨h, _⟩ | ⟨h, _⟩ | ⟨h, _⟩ <;> simp [h]
    rcases hEs with hE0 | hE1 | hE2
    · skip
      subst hE0
      refine vx_catch (own := RL) (name := "java/lang/IndexOutOfBoundsException") hown ([] : List ExceptionTableEntry) ⟨0, 10, 13, 19⟩ ([⟨0, 10, 17, 21⟩, ⟨0, 10, 21, 13⟩] : List ExceptionTableEntry) (htab.trans rfl) (fun z hz => absurd hz List.not_mem_nil) (by decide) (by decide) (hts (.classLink RL 19 "java/lang/IndexOutOfBoundsException") (by decide +kernel)) (va_Nw.use rfl (hX.2.1 _ (by decide))) hce hcv hcle ?_
      refine lv_astore (lv' := [(4, .ref q9), (0, .ref q0), (1, .int p0), (2, .int p1), (3, .ref qo)]) hx hb dL_and_13 hl (by decide) rfl (fun ls hl => ?_)
      refine lv_iconst (v := 1) hx hb dL_and_15 (by decide) ?_
      exact W.iret (v := 1) hx hb hr (fun t ht hW => ⟨⟨1, (fo, ((so, le, gr, ne, si, ou, bo, n, om, ob), (cs, gs, made, pl, kp), ro, wo, lv, e0)), rfl, Or.inr ⟨0, "java/lang/IndexOutOfBoundsException", rfl, rfl, hE, rfl⟩, by rw [ht]; exact hP, hD⟩, hS.F ht⟩) hS.2.2 dL_and_16
    · skip
      subst hE1
      refine vx_catch (own := RL) (name := "java/lang/IllegalArgumentException") hown ([⟨0, 10, 13, 19⟩] : List ExceptionTableEntry) ⟨0, 10, 17, 21⟩ ([⟨0, 10, 21, 13⟩] : List ExceptionTableEntry) (htab.trans rfl) (fun z hz => by rw [List.mem_singleton.mp hz]; exact Or.inr ⟨by decide, "java/lang/IndexOutOfBoundsException", (hts (.classLink RL 19 "java/lang/IndexOutOfBoundsException") (by decide +kernel)), hN _ (by decide) _ (by decide) (by decide)⟩) (by decide) (by decide) (hts (.classLink RL 21 "java/lang/IllegalArgumentException") (by decide +kernel)) (va_Nw.use rfl (hX.2.1 _ (by decide))) hce hcv hcle ?_
      refine lv_astore (lv' := [(4, .ref q9), (0, .ref q0), (1, .int p0), (2, .int p1), (3, .ref qo)]) hx hb dL_and_17 hl (by decide) rfl (fun ls hl => ?_)
      refine lv_iconst (v := 2) hx hb dL_and_19 (by decide) ?_
      exact W.iret (v := 2) hx hb hr (fun t ht hW => ⟨⟨2, (fo, ((so, le, gr, ne, si, ou, bo, n, om, ob), (cs, gs, made, pl, kp), ro, wo, lv, e0)), rfl, Or.inr ⟨1, "java/lang/IllegalArgumentException", rfl, rfl, hE, rfl⟩, by rw [ht]; exact hP, hD⟩, hS.F ht⟩) hS.2.2 dL_and_20
    · skip
      subst hE2
      refine vx_catch (own := RL) (name := "java/lang/UnsupportedOperationException") hown ([⟨0, 10, 13, 19⟩, ⟨0, 10, 17, 21⟩] : List ExceptionTableEntry) ⟨0, 10, 21, 13⟩ ([] : List ExceptionTableEntry) (htab.trans rfl) (fun z hz => by rcases List.mem_cons.mp hz with e9 | hz; (rw [e9]; exact Or.inr ⟨by decide, "java/lang/IndexOutOfBoundsException", (hts (.classLink RL 19 "java/lang/IndexOutOfBoundsException") (by decide +kernel)), hN _ (by decide) _ (by decide) (by decide)⟩); (rw [List.mem_singleton.mp hz]; exact Or.inr ⟨by decide, "java/lang/IllegalArgumentException", (hts (.classLink RL 21 "java/lang/IllegalArgumentException") (by decide +kernel)), hN _ (by decide) _ (by decide) (by decide)⟩)) (by decide) (by decide) (hts (.classLink RL 13 "java/lang/UnsupportedOperationException") (by decide +kernel)) (va_Nw.use rfl (hX.2.1 _ (by decide))) hce hcv hcle ?_
      refine lv_astore (lv' := [(4, .ref q9), (0, .ref q0), (1, .int p0), (2, .int p1), (3, .ref qo)]) hx hb dL_and_21 hl (by decide) rfl (fun ls hl => ?_)
      refine lv_iconst (v := 3) hx hb dL_and_23 (by decide) ?_
      exact W.iret (v := 3) hx hb hr (fun t ht hW => ⟨⟨3, (fo, ((so, le, gr, ne, si, ou, bo, n, om, ob), (cs, gs, made, pl, kp), ro, wo, lv, e0)), rfl, Or.inr ⟨2, "java/lang/UnsupportedOperationException", rfl, rfl, hE, rfl⟩, by rw [ht]; exact hP, hD⟩, hS.F ht⟩) hS.2.2 dL_and_24
  · skip
    have hP : va_P D vwCl (List.flatten [wJ κ qo 1 fo, wX κ q0 q qh qr ql qe u]) H := hP
    have hD : va_D A (List.flatten [wJ κ qo 1 fo, wX κ q0 q qh qr ql qe u]) := hD
    refine lv_i2l (v := Int32.toInt64 r) hx hb dL_and_8 rfl ?_
    refine k_last (D := D) (j := 0) hx hb hK.1 hP hD hS 0 1 rfl rfl (by omega) (by omega) dL_and_9 (fun H locs hP hD hS => ?_)
    have hP : va_P D vwCl (List.flatten [wJ κ qo 1 (vp_updL fo 0 (Int32.toInt64 r)), wX κ q0 q qh qr ql qe u]) H := hP
    have hD : va_D A (List.flatten [wJ κ qo 1 (vp_updL fo 0 (Int32.toInt64 r)), wX κ q0 q qh qr ql qe u]) := hD
    refine lv_goto (tgt := 25) hx hb dL_and_10 (by decide) ?_
    refine lv_iconst (v := 0) hx hb dL_and_25 (by decide) ?_
    exact W.iret (v := 0) hx hb hr (fun t ht hW => ⟨⟨0, (vp_updL fo 0 (Int32.toInt64 r), u), rfl, Or.inl ⟨rfl, r, by show (vp_updL fo 0 (Int32.toInt64 r)) 0 = Int32.toInt64 r; exact pk_uLs, hpo⟩, by rw [ht]; exact hP, hD⟩, hS.F ht⟩) hS.2.2 dL_and_26
set_option maxHeartbeats 4000000 in
set_option maxRecDepth 100000 in
theorem c_L_output (l : Launch) (D : va_G) (κ : Nat → ClassId) (sz : Nat) (q0 : Nat) (qh qr ql qe : Nat → Nat) (q : Nat → Nat) (so le gr ne si ou bo : Nat → Int32) (n om ob : Nat) (cs : Nat → Nat → Nat) (gs : Nat → KH) (made pl kp : Nat) (ro : Nat → Int64) (wo : Int32) (lv : Nat → Int32) (e0 : KE) (qo : Nat) (fo : Nat → Int64) (p0 : Int32) (hst : l.stackTraces = false) (hn : n ≤ 400) (hom : om ≤ 40) (hob : ob ≤ om) (hgs : ∀ k, k < made → k_bG (gs k)) (hpl : pl < 30) (hpm : pl ≤ made) (hma : made ≤ 30) (hkp : kp ≤ 30) : k_yui (S := ((Nat → Int64) × XV)) l yL_output wsL_output 8 145 24 2900 D κ [.ref q0, .int p0, .ref qo] (List.flatten [wJ κ qo 1 fo, wX κ q0 q qh qr ql qe ((so, le, gr, ne, si, ou, bo, n, om, ob), (cs, gs, made, pl, kp), ro, wo, lv, e0)]) sz (fun k u => x_wrap Int32.toInt64 ["java/lang/IndexOutOfBoundsException", "java/lang/IllegalArgumentException", "java/lang/UnsupportedOperationException"] (fun (r : Int32) u => x_yl n p0 ∧ ¬ k_cat 400 so (k_nodeOf p0) = 5 ∧ om < 40 ∧ r = nI om ∧ x_chg ((so, le, gr, ne, si, ou, bo, n, om, ob), (cs, gs, made, pl, kp), ro, wo, lv, e0) (so, le, gr, ne, si, k_cpt 40 ou (nI om) p0, k_cpt 40 bo (nI om) 0, n, om + 1, ob) e0 u) (fun E => (E = "java/lang/IndexOutOfBoundsException" ∧ x_nl n p0) ∨ (E = "java/lang/IllegalArgumentException" ∧ x_yl n p0 ∧ k_cat 400 so (k_nodeOf p0) = 5) ∨ (E = "java/lang/UnsupportedOperationException" ∧ x_yl n p0 ∧ ¬ k_cat 400 so (k_nodeOf p0) = 5 ∧ om = 40)) ((so, le, gr, ne, si, ou, bo, n, om, ob), (cs, gs, made, pl, kp), ro, wo, lv, e0) k u) (fun u => List.flatten [wJ κ qo 1 u.1, wX κ q0 q qh qr ql qe u.2]) := by
  refine k_ofWH (cc := cL_output) (maxL := 4) (ret := (some .int)) (by decide) rfl ?_
  intro p e s m args below meth c s₁ B hml hv
  obtain ⟨rfl, ⟨hsz, hK, hP, hD0⟩, hX, hN⟩ := hv
  have hx := B.exec
  have hb := B.bytes
  have hr := B.returns
  have hts := atoms_spec (ws := wsL_output) B.pre
  have hown : s.vm.findClass RL = some m.cls := findClass_of_methodNamed B.named
  have hlocks := B.notSynchronized
  subst hsz
  have hD := hD0.self (sz := s.heap.size)
  generalize hAe : va_A (List.flatten [wJ κ qo 1 fo, wX κ q0 q qh qr ql qe ((so, le, gr, ne, si, ou, bo, n, om, ob), (cs, gs, made, pl, kp), ro, wo, lv, e0)]) s.heap.size = A at hD hX ⊢
  have hA : ∀ q : Nat, s.heap.size ≤ q → A q := fun q h => by rw [← hAe]; exact Or.inr h
  have hS : va_S A s.heap s.heap [] := va_S.rf
  have hP : va_P D vwCl (List.flatten [wJ κ qo 1 fo, wX κ q0 q qh qr ql qe ((so, le, gr, ne, si, ou, bo, n, om, ob), (cs, gs, made, pl, kp), ro, wo, lv, e0)]) s.heap := hP
  have hl := lv_entry ([.ref q0, .int p0, .ref qo]) (n := 4) (Nat.le_of_ble_eq_true rfl)
  rw [lg_entry_eq]
  generalize (lg_sl ([.ref q0, .int p0, .ref qo]) ++ List.replicate (4 - (lg_sl ([.ref q0, .int p0, .ref qo])).length) Slot.unset).toArray = ls at hl ⊢
  have hl : lv_has ls 4 [(0, .ref q0), (1, .int p0), (2, .ref qo)] := hl
  have htab : c.exceptionTable.toList = tableOf [(0, 9, 12, 19), (0, 9, 15, 21), (0, 9, 18, 13)] := vx_table (x := yL_output) B (hts _ List.mem_cons_self)
  refine lv_aload_n hx hb dL_output_0 rfl (lv_at hl 2 rfl) ?_
  refine lv_iconst (v := 0) hx hb dL_output_1 (by decide) ?_
  refine lv_aload_n hx hb dL_output_2 rfl (lv_at hl 0 rfl) ?_
  refine lv_iload_n hx hb dL_output_3 rfl (lv_at hl 1 rfl) ?_
  refine k_ySUi (D := D) (κ := κ) (qc := (RX6, TX6, 5)) (ci := 6) (q0 := 0) (Wl := [wJ κ qo 1 fo, wX κ q0 q qh qr ql qe ((so, le, gr, ne, si, ou, bo, n, om, ob), (cs, gs, made, pl, kp), ro, wo, lv, e0)]) (Wc := [wX κ q0 q qh qr ql qe ((so, le, gr, ne, si, ou, bo, n, om, ob), (cs, gs, made, pl, kp), ro, wo, lv, e0)]) (W' := fun u => [wX κ q0 q qh qr ql qe u]) (Wn := fun u => [wJ κ qo 1 fo, wX κ q0 q qh qr ql qe u]) ⟨hx, hb, hml, hown, hts⟩ (c_X6_output l hst D κ _ q0 qh qr ql qe q so le gr ne si ou bo n om ob cs gs made pl kp ro wo lv e0 p0 hn hom hob hgs hpl hpm hma hkp) (cwV 1 hts gL_output_X6_output rfl rfl rfl (by decide +kernel) ⟨Nat.le_of_ble_eq_true rfl, Nat.le_of_ble_eq_true rfl⟩) hK hX hP hD hS hA [1] (by decide) rfl (List.flatten_singleton) (fun _ => List.flatten_singleton) rfl rfl (fun _ => rfl) (fun _ => rfl) (As := [.int p0]) (rest := [.int 0, .ref qo]) rfl rfl hl.1 (Nat.le_of_ble_eq_true rfl) dL_output_4 ⟨Nat.le_of_ble_eq_true rfl, Nat.le_of_ble_eq_true rfl⟩ (fun E ce q9 H locs hE hP hD hS hce hcv hcle => ?_) (fun r u H locs hpo hP hD hS => ?_)
  · skip
    have hEs : E = "java/lang/IndexOutOfBoundsException" ∨ E = "java/lang/IllegalArgumentException" ∨ E = "java/lang/UnsupportedOperationException" := by rcases hE with ⟨h, _⟩ | ⟨h, _⟩ | ⟨h, _⟩ <;> simp [h]
    rcases hEs with hE0 | hE1 | hE2
    · skip
      subst hE0
      refine vx_catch (own := RL) (name := "java/lang/IndexOutOfBoundsException") hown ([] : List ExceptionTableEntry) ⟨0, 9, 12, 19⟩ ([⟨0, 9, 15, 21⟩, ⟨0, 9, 18, 13⟩] : List ExceptionTableEntry) (htab.trans rfl) (fun z hz => absurd hz List.not_mem_nil) (by decide) (by decide) (hts (.classLink RL 19 "java/lang/IndexOutOfBoundsException") (by decide +kernel)) (va_Nw.use rfl (hX.2.1 _ (by decide))) hce hcv hcle ?_
      refine lv_astore_n (lv' := [(3, .ref q9), (0, .ref q0), (1, .int p0), (2, .ref qo)]) hx hb dL_output_12 rfl hl (by decide) rfl (fun ls hl => ?_)
      refine lv_iconst (v := 1) hx hb dL_output_13 (by decide) ?_
      exact W.iret (v := 1) hx hb hr (fun t ht hW => ⟨⟨1, (fo, ((so, le, gr, ne, si, ou, bo, n, om, ob), (cs, gs, made, pl, kp), ro, wo, lv, e0)), rfl, Or.inr ⟨0, "java/lang/IndexOutOfBoundsException", rfl, rfl, hE, rfl⟩, by rw [ht]; exact hP, hD⟩, hS.F ht⟩) hS.2.2 dL_output_14
    · skip
      subst hE1
      refine vx_catch (own := RL) (name := "java/lang/IllegalArgumentException") hown ([⟨0, 9, 12, 19⟩] : List ExceptionTableEntry) ⟨0, 9, 15, 21⟩ ([⟨0, 9, 18, 13⟩] : List ExceptionTableEntry) (htab.trans rfl) (fun z hz => by rw [List.mem_singleton.mp hz]; exact Or.inr ⟨by decide, "java/lang/IndexOutOfBoundsException", (hts (.classLink RL 19 "java/lang/IndexOutOfBoundsException") (by decide +kernel)), hN _ (by decide) _ (by decide) (by decide)⟩) (by decide) (by decide) (hts (.classLink RL 21 "java/lang/IllegalArgumentException") (by decide +kernel)) (va_Nw.use rfl (hX.2.1 _ (by decide))) hce hcv hcle ?_
      refine lv_astore_n (lv' := [(3, .ref q9), (0, .ref q0), (1, .int p0), (2, .ref qo)]) hx hb dL_output_15 rfl hl (by decide) rfl (fun ls hl => ?_)
      refine lv_iconst (v := 2) hx hb dL_output_16 (by decide) ?_
      exact W.iret (v := 2) hx hb hr (fun t ht hW => ⟨⟨2, (fo, ((so, le, gr, ne, si, ou, bo, n, om, ob), (cs, gs, made, pl, kp), ro, wo, lv, e0)), rfl, Or.inr ⟨1, "java/lang/IllegalArgumentException", rfl, rfl, hE, rfl⟩, by rw [ht]; exact hP, hD⟩, hS.F ht⟩) hS.2.2 dL_output_17
    · skip
      subst hE2
      refine vx_catch (own := RL) (name := "java/lang/UnsupportedOperationException") hown ([⟨0, 9, 12, 19⟩, ⟨0, 9, 15, 21⟩] : List ExceptionTableEntry) ⟨0, 9, 18, 13⟩ ([] : List ExceptionTableEntry) (htab.trans rfl) (fun z hz => by rcases List.mem_cons.mp hz with e9 | hz; (rw [e9]; exact Or.inr ⟨by decide, "java/lang/IndexOutOfBoundsException", (hts (.classLink RL 19 "java/lang/IndexOutOfBoundsException") (by decide +kernel)), hN _ (by decide) _ (by decide) (by decide)⟩); (rw [List.mem_singleton.mp hz]; exact Or.inr ⟨by decide, "java/lang/IllegalArgumentException", (hts (.classLink RL 21 "java/lang/IllegalArgumentException") (by decide +kernel)), hN _ (by decide) _ (by decide) (by decide)⟩)) (by decide) (by decide) (hts (.classLink RL 13 "java/lang/UnsupportedOperationException") (by decide +kernel)) (va_Nw.use rfl (hX.2.1 _ (by decide))) hce hcv hcle ?_
      refine lv_astore_n (lv' := [(3, .ref q9), (0, .ref q0), (1, .int p0), (2, .ref qo)]) hx hb dL_output_18 rfl hl (by decide) rfl (fun ls hl => ?_)
      refine lv_iconst (v := 3) hx hb dL_output_19 (by decide) ?_
      exact W.iret (v := 3) hx hb hr (fun t ht hW => ⟨⟨3, (fo, ((so, le, gr, ne, si, ou, bo, n, om, ob), (cs, gs, made, pl, kp), ro, wo, lv, e0)), rfl, Or.inr ⟨2, "java/lang/UnsupportedOperationException", rfl, rfl, hE, rfl⟩, by rw [ht]; exact hP, hD⟩, hS.F ht⟩) hS.2.2 dL_output_20
  · skip
    have hP : va_P D vwCl (List.flatten [wJ κ qo 1 fo, wX κ q0 q qh qr ql qe u]) H := hP
    have hD : va_D A (List.flatten [wJ κ qo 1 fo, wX κ q0 q qh qr ql qe u]) := hD
    refine lv_i2l (v := Int32.toInt64 r) hx hb dL_output_7 rfl ?_
    refine k_last (D := D) (j := 0) hx hb hK.1 hP hD hS 0 1 rfl rfl (by omega) (by omega) dL_output_8 (fun H locs hP hD hS => ?_)
    have hP : va_P D vwCl (List.flatten [wJ κ qo 1 (vp_updL fo 0 (Int32.toInt64 r)), wX κ q0 q qh qr ql qe u]) H := hP
    have hD : va_D A (List.flatten [wJ κ qo 1 (vp_updL fo 0 (Int32.toInt64 r)), wX κ q0 q qh qr ql qe u]) := hD
    refine lv_goto (tgt := 21) hx hb dL_output_9 (by decide) ?_
    refine lv_iconst (v := 0) hx hb dL_output_21 (by decide) ?_
    exact W.iret (v := 0) hx hb hr (fun t ht hW => ⟨⟨0, (vp_updL fo 0 (Int32.toInt64 r), u), rfl, Or.inl ⟨rfl, r, by show (vp_updL fo 0 (Int32.toInt64 r)) 0 = Int32.toInt64 r; exact pk_uLs, hpo⟩, by rw [ht]; exact hP, hD⟩, hS.F ht⟩) hS.2.2 dL_output_22
set_option maxHeartbeats 4000000 in
set_option maxRecDepth 100000 in
theorem c_L_outputAt (l : Launch) (D : va_G) (κ : Nat → ClassId) (sz : Nat) (q0 : Nat) (qh qr ql qe : Nat → Nat) (q : Nat → Nat) (so le gr ne si ou bo : Nat → Int32) (n om ob : Nat) (cs : Nat → Nat → Nat) (gs : Nat → KH) (made pl kp : Nat) (ro : Nat → Int64) (wo : Int32) (lv : Nat → Int32) (e0 : KE) (qo : Nat) (fo : Nat → Int64) (p0 : Int32) (hst : l.stackTraces = false) (hn : n ≤ 400) (hom : om ≤ 40) (hob : ob ≤ om) (hgs : ∀ k, k < made → k_bG (gs k)) (hpl : pl < 30) (hpm : pl ≤ made) (hma : made ≤ 30) (hkp : kp ≤ 30) : k_yui (S := ((Nat → Int64) × XV)) l yL_outputAt wsL_outputAt 7 111 24 2900 D κ [.ref q0, .int p0, .ref qo] (List.flatten [wJ κ qo 1 fo, wX κ q0 q qh qr ql qe ((so, le, gr, ne, si, ou, bo, n, om, ob), (cs, gs, made, pl, kp), ro, wo, lv, e0)]) sz (fun k u => x_wrap Int32.toInt64 ["java/lang/IndexOutOfBoundsException"] (fun (r : Int32) u => ¬ p0 < 0 ∧ ¬ nI om ≤ p0 ∧ ((k_cat 40 bo p0 = 1 ∧ r = -1) ∨ (¬ k_cat 40 bo p0 = 1 ∧ r = k_cat 40 ou p0)) ∧ u = ((so, le, gr, ne, si, ou, bo, n, om, ob), (cs, gs, made, pl, kp), ro, wo, lv, e0)) (fun E => E = "java/lang/IndexOutOfBoundsException" ∧ (p0 < 0 ∨ nI om ≤ p0)) ((so, le, gr, ne, si, ou, bo, n, om, ob), (cs, gs, made, pl, kp), ro, wo, lv, e0) k u) (fun u => List.flatten [wJ κ qo 1 u.1, wX κ q0 q qh qr ql qe u.2]) := by
  refine k_ofWH (cc := cL_outputAt) (maxL := 4) (ret := (some .int)) (by decide) rfl ?_
  intro p e s m args below meth c s₁ B hml hv
  obtain ⟨rfl, ⟨hsz, hK, hP, hD0⟩, hX, hN⟩ := hv
  have hx := B.exec
  have hb := B.bytes
  have hr := B.returns
  have hts := atoms_spec (ws := wsL_outputAt) B.pre
  have hown : s.vm.findClass RL = some m.cls := findClass_of_methodNamed B.named
  have hlocks := B.notSynchronized
  subst hsz
  have hD := hD0.self (sz := s.heap.size)
  generalize hAe : va_A (List.flatten [wJ κ qo 1 fo, wX κ q0 q qh qr ql qe ((so, le, gr, ne, si, ou, bo, n, om, ob), (cs, gs, made, pl, kp), ro, wo, lv, e0)]) s.heap.size = A at hD hX ⊢
  have hA : ∀ q : Nat, s.heap.size ≤ q → A q := fun q h => by rw [← hAe]; exact Or.inr h
  have hS : va_S A s.heap s.heap [] := va_S.rf
  have hP : va_P D vwCl (List.flatten [wJ κ qo 1 fo, wX κ q0 q qh qr ql qe ((so, le, gr, ne, si, ou, bo, n, om, ob), (cs, gs, made, pl, kp), ro, wo, lv, e0)]) s.heap := hP
  have hl := lv_entry ([.ref q0, .int p0, .ref qo]) (n := 4) (Nat.le_of_ble_eq_true rfl)
  rw [lg_entry_eq]
  generalize (lg_sl ([.ref q0, .int p0, .ref qo]) ++ List.replicate (4 - (lg_sl ([.ref q0, .int p0, .ref qo])).length) Slot.unset).toArray = ls at hl ⊢
  have hl : lv_has ls 4 [(0, .ref q0), (1, .int p0), (2, .ref qo)] := hl
  have htab : c.exceptionTable.toList = tableOf [(0, 9, 12, 19)] := vx_table (x := yL_outputAt) B (hts _ List.mem_cons_self)
  refine lv_aload_n hx hb dL_outputAt_0 rfl (lv_at hl 2 rfl) ?_
  refine lv_iconst (v := 0) hx hb dL_outputAt_1 (by decide) ?_
  refine lv_aload_n hx hb dL_outputAt_2 rfl (lv_at hl 0 rfl) ?_
  refine lv_iload_n hx hb dL_outputAt_3 rfl (lv_at hl 1 rfl) ?_
  refine k_ySUi (D := D) (κ := κ) (qc := (RX6, TX6, 5)) (ci := 6) (q0 := 0) (Wl := [wJ κ qo 1 fo, wX κ q0 q qh qr ql qe ((so, le, gr, ne, si, ou, bo, n, om, ob), (cs, gs, made, pl, kp), ro, wo, lv, e0)]) (Wc := [wX κ q0 q qh qr ql qe ((so, le, gr, ne, si, ou, bo, n, om, ob), (cs, gs, made, pl, kp), ro, wo, lv, e0)]) (W' := fun u => [wX κ q0 q qh qr ql qe u]) (Wn := fun u => [wJ κ qo 1 fo, wX κ q0 q qh qr ql qe u]) ⟨hx, hb, hml, hown, hts⟩ (c_X6_outputAt l hst D κ _ q0 qh qr ql qe q so le gr ne si ou bo n om ob cs gs made pl kp ro wo lv e0 p0 hn hom hob hgs hpl hpm hma hkp) (cwV 1 hts gL_outputAt_X6_outputAt rfl rfl rfl (by decide +kernel) ⟨Nat.le_of_ble_eq_true rfl, Nat.le_of_ble_eq_true rfl⟩) hK hX hP hD hS hA [1] (by decide) rfl (List.flatten_singleton) (fun _ => List.flatten_singleton) rfl rfl (fun _ => rfl) (fun _ => rfl) (As := [.int p0]) (rest := [.int 0, .ref qo]) rfl rfl hl.1 (Nat.le_of_ble_eq_true rfl) dL_outputAt_4 ⟨Nat.le_of_ble_eq_true rfl, Nat.le_of_ble_eq_true rfl⟩ (fun E ce q9 H locs hE hP hD hS hce hcv hcle => ?_) (fun r u H locs hpo hP hD hS => ?_)
  · skip
    have hEs : E = "java/lang/IndexOutOfBoundsException" := hE.1
    subst hEs
    refine vx_catch (own := RL) (name := "java/lang/IndexOutOfBoundsException") hown ([] : List ExceptionTableEntry) ⟨0, 9, 12, 19⟩ ([] : List ExceptionTableEntry) (htab.trans rfl) (fun z hz => absurd hz List.not_mem_nil) (by decide) (by decide) (hts (.classLink RL 19 "java/lang/IndexOutOfBoundsException") (by decide +kernel)) (va_Nw.use rfl (hX.2.1 _ (by decide))) hce hcv hcle ?_
    refine lv_astore_n (lv' := [(3, .ref q9), (0, .ref q0), (1, .int p0), (2, .ref qo)]) hx hb dL_outputAt_12 rfl hl (by decide) rfl (fun ls hl => ?_)
    refine lv_iconst (v := 1) hx hb dL_outputAt_13 (by decide) ?_
    exact W.iret (v := 1) hx hb hr (fun t ht hW => ⟨⟨1, (fo, ((so, le, gr, ne, si, ou, bo, n, om, ob), (cs, gs, made, pl, kp), ro, wo, lv, e0)), rfl, Or.inr ⟨0, "java/lang/IndexOutOfBoundsException", rfl, rfl, hE, rfl⟩, by rw [ht]; exact hP, hD⟩, hS.F ht⟩) hS.2.2 dL_outputAt_14
  · skip
    have hP : va_P D vwCl (List.flatten [wJ κ qo 1 fo, wX κ q0 q qh qr ql qe u]) H := hP
    have hD : va_D A (List.flatten [wJ κ qo 1 fo, wX κ q0 q qh qr ql qe u]) := hD
    refine lv_i2l (v := Int32.toInt64 r) hx hb dL_outputAt_7 rfl ?_
    refine k_last (D := D) (j := 0) hx hb hK.1 hP hD hS 0 1 rfl rfl (by omega) (by omega) dL_outputAt_8 (fun H locs hP hD hS => ?_)
    have hP : va_P D vwCl (List.flatten [wJ κ qo 1 (vp_updL fo 0 (Int32.toInt64 r)), wX κ q0 q qh qr ql qe u]) H := hP
    have hD : va_D A (List.flatten [wJ κ qo 1 (vp_updL fo 0 (Int32.toInt64 r)), wX κ q0 q qh qr ql qe u]) := hD
    refine lv_goto (tgt := 15) hx hb dL_outputAt_9 (by decide) ?_
    refine lv_iconst (v := 0) hx hb dL_outputAt_15 (by decide) ?_
    exact W.iret (v := 0) hx hb hr (fun t ht hW => ⟨⟨0, (vp_updL fo 0 (Int32.toInt64 r), u), rfl, Or.inl ⟨rfl, r, by show (vp_updL fo 0 (Int32.toInt64 r)) 0 = Int32.toInt64 r; exact pk_uLs, hpo⟩, by rw [ht]; exact hP, hD⟩, hS.F ht⟩) hS.2.2 dL_outputAt_16
set_option maxHeartbeats 4000000 in
set_option maxRecDepth 100000 in
theorem c_L_latch (l : Launch) (D : va_G) (κ : Nat → ClassId) (sz : Nat) (q0 : Nat) (qh qr ql qe : Nat → Nat) (q : Nat → Nat) (so le gr ne si ou bo : Nat → Int32) (n om ob : Nat) (cs : Nat → Nat → Nat) (gs : Nat → KH) (made pl kp : Nat) (ro : Nat → Int64) (wo : Int32) (lv : Nat → Int32) (e0 : KE) (qo : Nat) (fo : Nat → Int64) (p0 : Int32) (hst : l.stackTraces = false) (hn : n ≤ 400) (hom : om ≤ 40) (hob : ob ≤ om) (hgs : ∀ k, k < made → k_bG (gs k)) (hpl : pl < 30) (hpm : pl ≤ made) (hma : made ≤ 30) (hkp : kp ≤ 30) : k_yui (S := ((Nat → Int64) × XV)) l yL_latch wsL_latch 8 146 24 2900 D κ [.ref q0, .int p0, .ref qo] (List.flatten [wJ κ qo 1 fo, wX κ q0 q qh qr ql qe ((so, le, gr, ne, si, ou, bo, n, om, ob), (cs, gs, made, pl, kp), ro, wo, lv, e0)]) sz (fun k u => x_wrap Int32.toInt64 ["java/lang/IllegalArgumentException", "java/lang/UnsupportedOperationException"] (fun (r : Int32) u => (p0 = 0 ∨ p0 = 1) ∧ n + 1 ≤ 400 ∧ r = k_litOf (nI n) ∧ x_chg ((so, le, gr, ne, si, ou, bo, n, om, ob), (cs, gs, made, pl, kp), ro, wo, lv, e0) (k_cpt 400 so (nI n) 3, k_cpt 400 le (nI n) (-1), k_cpt 400 gr (nI n) (-1), k_cpt 400 (k_cpt 400 ne (nI n) (-1)) (nI n) 0, k_cpt 400 si (nI n) (-1), ou, bo, n + 1, om, ob) e0 u) (fun E => (E = "java/lang/IllegalArgumentException" ∧ ¬ p0 = 0 ∧ ¬ p0 = 1) ∨ (E = "java/lang/UnsupportedOperationException" ∧ (p0 = 0 ∨ p0 = 1) ∧ 400 < n + 1)) ((so, le, gr, ne, si, ou, bo, n, om, ob), (cs, gs, made, pl, kp), ro, wo, lv, e0) k u) (fun u => List.flatten [wJ κ qo 1 u.1, wX κ q0 q qh qr ql qe u.2]) := by
  refine k_ofWH (cc := cL_latch) (maxL := 4) (ret := (some .int)) (by decide) rfl ?_
  intro p e s m args below meth c s₁ B hml hv
  obtain ⟨rfl, ⟨hsz, hK, hP, hD0⟩, hX, hN⟩ := hv
  have hx := B.exec
  have hb := B.bytes
  have hr := B.returns
  have hts := atoms_spec (ws := wsL_latch) B.pre
  have hown : s.vm.findClass RL = some m.cls := findClass_of_methodNamed B.named
  have hlocks := B.notSynchronized
  subst hsz
  have hD := hD0.self (sz := s.heap.size)
  generalize hAe : va_A (List.flatten [wJ κ qo 1 fo, wX κ q0 q qh qr ql qe ((so, le, gr, ne, si, ou, bo, n, om, ob), (cs, gs, made, pl, kp), ro, wo, lv, e0)]) s.heap.size = A at hD hX ⊢
  have hA : ∀ q : Nat, s.heap.size ≤ q → A q := fun q h => by rw [← hAe]; exact Or.inr h
  have hS : va_S A s.heap s.heap [] := va_S.rf
  have hP : va_P D vwCl (List.flatten [wJ κ qo 1 fo, wX κ q0 q qh qr ql qe ((so, le, gr, ne, si, ou, bo, n, om, ob), (cs, gs, made, pl, kp), ro, wo, lv, e0)]) s.heap := hP
  have hl := lv_entry ([.ref q0, .int p0, .ref qo]) (n := 4) (Nat.le_of_ble_eq_true rfl)
  rw [lg_entry_eq]
  generalize (lg_sl ([.ref q0, .int p0, .ref qo]) ++ List.replicate (4 - (lg_sl ([.ref q0, .int p0, .ref qo])).length) Slot.unset).toArray = ls at hl ⊢
  have hl : lv_has ls 4 [(0, .ref q0), (1, .int p0), (2, .ref qo)] := hl
  have htab : c.exceptionTable.toList = tableOf [(0, 9, 12, 21), (0, 9, 15, 13)] := vx_table (x := yL_latch) B (hts _ List.mem_cons_self)
  refine lv_aload_n hx hb dL_latch_0 rfl (lv_at hl 2 rfl) ?_
  refine lv_iconst (v := 0) hx hb dL_latch_1 (by decide) ?_
  refine lv_aload_n hx hb dL_latch_2 rfl (lv_at hl 0 rfl) ?_
  refine lv_iload_n hx hb dL_latch_3 rfl (lv_at hl 1 rfl) ?_
  refine k_ySUi (D := D) (κ := κ) (qc := (RX6, TX6, 5)) (ci := 6) (q0 := 0) (Wl := [wJ κ qo 1 fo, wX κ q0 q qh qr ql qe ((so, le, gr, ne, si, ou, bo, n, om, ob), (cs, gs, made, pl, kp), ro, wo, lv, e0)]) (Wc := [wX κ q0 q qh qr ql qe ((so, le, gr, ne, si, ou, bo, n, om, ob), (cs, gs, made, pl, kp), ro, wo, lv, e0)]) (W' := fun u => [wX κ q0 q qh qr ql qe u]) (Wn := fun u => [wJ κ qo 1 fo, wX κ q0 q qh qr ql qe u]) ⟨hx, hb, hml, hown, hts⟩ (c_X6_latch l hst D κ _ q0 qh qr ql qe q so le gr ne si ou bo n om ob cs gs made pl kp ro wo lv e0 p0 hn hom hob hgs hpl hpm hma hkp) (cwV 1 hts gL_latch_X6_latch rfl rfl rfl (by decide +kernel) ⟨Nat.le_of_ble_eq_true rfl, Nat.le_of_ble_eq_true rfl⟩) hK hX hP hD hS hA [1] (by decide) rfl (List.flatten_singleton) (fun _ => List.flatten_singleton) rfl rfl (fun _ => rfl) (fun _ => rfl) (As := [.int p0]) (rest := [.int 0, .ref qo]) rfl rfl hl.1 (Nat.le_of_ble_eq_true rfl) dL_latch_4 ⟨Nat.le_of_ble_eq_true rfl, Nat.le_of_ble_eq_true rfl⟩ (fun E ce q9 H locs hE hP hD hS hce hcv hcle => ?_) (fun r u H locs hpo hP hD hS => ?_)
  · skip
    have hEs : E = "java/lang/IllegalArgumentException" ∨ E = "java/lang/UnsupportedOperationException" := by rcases hE with ⟨h, _⟩ | ⟨h, _⟩ <;> simp [h]
    rcases hEs with hE0 | hE1
    · skip
      subst hE0
      refine vx_catch (own := RL) (name := "java/lang/IllegalArgumentException") hown ([] : List ExceptionTableEntry) ⟨0, 9, 12, 21⟩ ([⟨0, 9, 15, 13⟩] : List ExceptionTableEntry) (htab.trans rfl) (fun z hz => absurd hz List.not_mem_nil) (by decide) (by decide) (hts (.classLink RL 21 "java/lang/IllegalArgumentException") (by decide +kernel)) (va_Nw.use rfl (hX.2.1 _ (by decide))) hce hcv hcle ?_
      refine lv_astore_n (lv' := [(3, .ref q9), (0, .ref q0), (1, .int p0), (2, .ref qo)]) hx hb dL_latch_12 rfl hl (by decide) rfl (fun ls hl => ?_)
      refine lv_iconst (v := 1) hx hb dL_latch_13 (by decide) ?_
      exact W.iret (v := 1) hx hb hr (fun t ht hW => ⟨⟨1, (fo, ((so, le, gr, ne, si, ou, bo, n, om, ob), (cs, gs, made, pl, kp), ro, wo, lv, e0)), rfl, Or.inr ⟨0, "java/lang/IllegalArgumentException", rfl, rfl, hE, rfl⟩, by rw [ht]; exact hP, hD⟩, hS.F ht⟩) hS.2.2 dL_latch_14
    · skip
      subst hE1
      refine vx_catch (own := RL) (name := "java/lang/UnsupportedOperationException") hown ([⟨0, 9, 12, 21⟩] : List ExceptionTableEntry) ⟨0, 9, 15, 13⟩ ([] : List ExceptionTableEntry) (htab.trans rfl) (fun z hz => by rw [List.mem_singleton.mp hz]; exact Or.inr ⟨by decide, "java/lang/IllegalArgumentException", (hts (.classLink RL 21 "java/lang/IllegalArgumentException") (by decide +kernel)), hN _ (by decide) _ (by decide) (by decide)⟩) (by decide) (by decide) (hts (.classLink RL 13 "java/lang/UnsupportedOperationException") (by decide +kernel)) (va_Nw.use rfl (hX.2.1 _ (by decide))) hce hcv hcle ?_
      refine lv_astore_n (lv' := [(3, .ref q9), (0, .ref q0), (1, .int p0), (2, .ref qo)]) hx hb dL_latch_15 rfl hl (by decide) rfl (fun ls hl => ?_)
      refine lv_iconst (v := 2) hx hb dL_latch_16 (by decide) ?_
      exact W.iret (v := 2) hx hb hr (fun t ht hW => ⟨⟨2, (fo, ((so, le, gr, ne, si, ou, bo, n, om, ob), (cs, gs, made, pl, kp), ro, wo, lv, e0)), rfl, Or.inr ⟨1, "java/lang/UnsupportedOperationException", rfl, rfl, hE, rfl⟩, by rw [ht]; exact hP, hD⟩, hS.F ht⟩) hS.2.2 dL_latch_17
  · skip
    have hP : va_P D vwCl (List.flatten [wJ κ qo 1 fo, wX κ q0 q qh qr ql qe u]) H := hP
    have hD : va_D A (List.flatten [wJ κ qo 1 fo, wX κ q0 q qh qr ql qe u]) := hD
    refine lv_i2l (v := Int32.toInt64 r) hx hb dL_latch_7 rfl ?_
    refine k_last (D := D) (j := 0) hx hb hK.1 hP hD hS 0 1 rfl rfl (by omega) (by omega) dL_latch_8 (fun H locs hP hD hS => ?_)
    have hP : va_P D vwCl (List.flatten [wJ κ qo 1 (vp_updL fo 0 (Int32.toInt64 r)), wX κ q0 q qh qr ql qe u]) H := hP
    have hD : va_D A (List.flatten [wJ κ qo 1 (vp_updL fo 0 (Int32.toInt64 r)), wX κ q0 q qh qr ql qe u]) := hD
    refine lv_goto (tgt := 18) hx hb dL_latch_9 (by decide) ?_
    refine lv_iconst (v := 0) hx hb dL_latch_18 (by decide) ?_
    exact W.iret (v := 0) hx hb hr (fun t ht hW => ⟨⟨0, (vp_updL fo 0 (Int32.toInt64 r), u), rfl, Or.inl ⟨rfl, r, by show (vp_updL fo 0 (Int32.toInt64 r)) 0 = Int32.toInt64 r; exact pk_uLs, hpo⟩, by rw [ht]; exact hP, hD⟩, hS.F ht⟩) hS.2.2 dL_latch_19
set_option maxHeartbeats 4000000 in
set_option maxRecDepth 100000 in
theorem c_L_next (l : Launch) (D : va_G) (κ : Nat → ClassId) (sz : Nat) (q0 : Nat) (qh qr ql qe : Nat → Nat) (q : Nat → Nat) (so le gr ne si ou bo : Nat → Int32) (n om ob : Nat) (cs : Nat → Nat → Nat) (gs : Nat → KH) (made pl kp : Nat) (ro : Nat → Int64) (wo : Int32) (lv : Nat → Int32) (e0 : KE) (qo : Nat) (fo : Nat → Int64) (p0 p1 : Int32) (hst : l.stackTraces = false) (hn : n ≤ 400) (hom : om ≤ 40) (hob : ob ≤ om) (hgs : ∀ k, k < made → k_bG (gs k)) (hpl : pl < 30) (hpm : pl ≤ made) (hma : made ≤ 30) (hkp : kp ≤ 30) : k_yui (S := ((Nat → Int64) × XV)) l yL_next wsL_next 8 146 24 2900 D κ [.ref q0, .int p0, .int p1, .ref qo] (List.flatten [wJ κ qo 1 fo, wX κ q0 q qh qr ql qe ((so, le, gr, ne, si, ou, bo, n, om, ob), (cs, gs, made, pl, kp), ro, wo, lv, e0)]) sz (fun k u => x_wrap (fun r : Int32 => if r = 0 then 0 else 1) ["java/lang/IndexOutOfBoundsException", "java/lang/IllegalArgumentException"] (fun (r : Int32) u => x_yl n p0 ∧ x_yl n p1 ∧ k_cat 400 so (k_nodeOf p0) = 3 ∧ ¬ k_cat 400 so (k_nodeOf p1) = 5 ∧ ((k_cat 400 ne (k_nodeOf p0) = p1 ∧ r = 0 ∧ u = ((so, le, gr, ne, si, ou, bo, n, om, ob), (cs, gs, made, pl, kp), ro, wo, lv, e0)) ∨ (¬ k_cat 400 ne (k_nodeOf p0) = p1 ∧ r = 1 ∧ x_chg ((so, le, gr, ne, si, ou, bo, n, om, ob), (cs, gs, made, pl, kp), ro, wo, lv, e0) (so, le, gr, k_cpt 400 ne (k_nodeOf p0) p1, si, ou, bo, n, om, ob) e0 u))) (fun E => (E = "java/lang/IndexOutOfBoundsException" ∧ (x_nl n p0 ∨ x_nl n p1)) ∨ (E = "java/lang/IllegalArgumentException" ∧ x_yl n p0 ∧ x_yl n p1 ∧ (¬ k_cat 400 so (k_nodeOf p0) = 3 ∨ k_cat 400 so (k_nodeOf p1) = 5))) ((so, le, gr, ne, si, ou, bo, n, om, ob), (cs, gs, made, pl, kp), ro, wo, lv, e0) k u) (fun u => List.flatten [wJ κ qo 1 u.1, wX κ q0 q qh qr ql qe u.2]) := by
  refine k_ofWH (cc := cL_next) (maxL := 5) (ret := (some .int)) (by decide) rfl ?_
  intro p e s m args below meth c s₁ B hml hv
  obtain ⟨rfl, ⟨hsz, hK, hP, hD0⟩, hX, hN⟩ := hv
  have hx := B.exec
  have hb := B.bytes
  have hr := B.returns
  have hts := atoms_spec (ws := wsL_next) B.pre
  have hown : s.vm.findClass RL = some m.cls := findClass_of_methodNamed B.named
  have hlocks := B.notSynchronized
  subst hsz
  have hD := hD0.self (sz := s.heap.size)
  generalize hAe : va_A (List.flatten [wJ κ qo 1 fo, wX κ q0 q qh qr ql qe ((so, le, gr, ne, si, ou, bo, n, om, ob), (cs, gs, made, pl, kp), ro, wo, lv, e0)]) s.heap.size = A at hD hX ⊢
  have hA : ∀ q : Nat, s.heap.size ≤ q → A q := fun q h => by rw [← hAe]; exact Or.inr h
  have hS : va_S A s.heap s.heap [] := va_S.rf
  have hP : va_P D vwCl (List.flatten [wJ κ qo 1 fo, wX κ q0 q qh qr ql qe ((so, le, gr, ne, si, ou, bo, n, om, ob), (cs, gs, made, pl, kp), ro, wo, lv, e0)]) s.heap := hP
  have hl := lv_entry ([.ref q0, .int p0, .int p1, .ref qo]) (n := 5) (Nat.le_of_ble_eq_true rfl)
  rw [lg_entry_eq]
  generalize (lg_sl ([.ref q0, .int p0, .int p1, .ref qo]) ++ List.replicate (5 - (lg_sl ([.ref q0, .int p0, .int p1, .ref qo])).length) Slot.unset).toArray = ls at hl ⊢
  have hl : lv_has ls 5 [(0, .ref q0), (1, .int p0), (2, .int p1), (3, .ref qo)] := hl
  have htab : c.exceptionTable.toList = tableOf [(0, 17, 20, 19), (0, 17, 24, 21)] := vx_table (x := yL_next) B (hts _ List.mem_cons_self)
  refine lv_aload_n hx hb dL_next_0 rfl (lv_at hl 3 rfl) ?_
  refine lv_iconst (v := 0) hx hb dL_next_1 (by decide) ?_
  refine lv_aload_n hx hb dL_next_2 rfl (lv_at hl 0 rfl) ?_
  refine lv_iload_n hx hb dL_next_3 rfl (lv_at hl 1 rfl) ?_
  refine lv_iload_n hx hb dL_next_4 rfl (lv_at hl 2 rfl) ?_
  refine k_ySUi (D := D) (κ := κ) (qc := (RX6, TX6, 5)) (ci := 6) (q0 := 0) (Wl := [wJ κ qo 1 fo, wX κ q0 q qh qr ql qe ((so, le, gr, ne, si, ou, bo, n, om, ob), (cs, gs, made, pl, kp), ro, wo, lv, e0)]) (Wc := [wX κ q0 q qh qr ql qe ((so, le, gr, ne, si, ou, bo, n, om, ob), (cs, gs, made, pl, kp), ro, wo, lv, e0)]) (W' := fun u => [wX κ q0 q qh qr ql qe u]) (Wn := fun u => [wJ κ qo 1 fo, wX κ q0 q qh qr ql qe u]) ⟨hx, hb, hml, hown, hts⟩ (c_X6_next l hst D κ _ q0 qh qr ql qe q so le gr ne si ou bo n om ob cs gs made pl kp ro wo lv e0 p0 p1 hn hom hob hgs hpl hpm hma hkp) (cwV 2 hts gL_next_X6_next rfl rfl rfl (by decide +kernel) ⟨Nat.le_of_ble_eq_true rfl, Nat.le_of_ble_eq_true rfl⟩) hK hX hP hD hS hA [1] (by decide) rfl (List.flatten_singleton) (fun _ => List.flatten_singleton) rfl rfl (fun _ => rfl) (fun _ => rfl) (As := [.int p0, .int p1]) (rest := [.int 0, .ref qo]) rfl rfl hl.1 (Nat.le_of_ble_eq_true rfl) dL_next_5 ⟨Nat.le_of_ble_eq_true rfl, Nat.le_of_ble_eq_true rfl⟩ (fun E ce q9 H locs hE hP hD hS hce hcv hcle => ?_) (fun r u H locs hpo hP hD hS => ?_)
  · skip
    have hEs : E = "java/lang/IndexOutOfBoundsException" ∨ E = "java/lang/IllegalArgumentException" := by rcases hE with ⟨h, _⟩ | ⟨h, _⟩ <;> simp [h]
    rcases hEs with hE0 | hE1
    · skip
      subst hE0
      refine vx_catch (own := RL) (name := "java/lang/IndexOutOfBoundsException") hown ([] : List ExceptionTableEntry) ⟨0, 17, 20, 19⟩ ([⟨0, 17, 24, 21⟩] : List ExceptionTableEntry) (htab.trans rfl) (fun z hz => absurd hz List.not_mem_nil) (by decide) (by decide) (hts (.classLink RL 19 "java/lang/IndexOutOfBoundsException") (by decide +kernel)) (va_Nw.use rfl (hX.2.1 _ (by decide))) hce hcv hcle ?_
      refine lv_astore (lv' := [(4, .ref q9), (0, .ref q0), (1, .int p0), (2, .int p1), (3, .ref qo)]) hx hb dL_next_20 hl (by decide) rfl (fun ls hl => ?_)
      refine lv_iconst (v := 1) hx hb dL_next_22 (by decide) ?_
      exact W.iret (v := 1) hx hb hr (fun t ht hW => ⟨⟨1, (fo, ((so, le, gr, ne, si, ou, bo, n, om, ob), (cs, gs, made, pl, kp), ro, wo, lv, e0)), rfl, Or.inr ⟨0, "java/lang/IndexOutOfBoundsException", rfl, rfl, hE, rfl⟩, by rw [ht]; exact hP, hD⟩, hS.F ht⟩) hS.2.2 dL_next_23
    · skip
      subst hE1
      refine vx_catch (own := RL) (name := "java/lang/IllegalArgumentException") hown ([⟨0, 17, 20, 19⟩] : List ExceptionTableEntry) ⟨0, 17, 24, 21⟩ ([] : List ExceptionTableEntry) (htab.trans rfl) (fun z hz => by rw [List.mem_singleton.mp hz]; exact Or.inr ⟨by decide, "java/lang/IndexOutOfBoundsException", (hts (.classLink RL 19 "java/lang/IndexOutOfBoundsException") (by decide +kernel)), hN _ (by decide) _ (by decide) (by decide)⟩) (by decide) (by decide) (hts (.classLink RL 21 "java/lang/IllegalArgumentException") (by decide +kernel)) (va_Nw.use rfl (hX.2.1 _ (by decide))) hce hcv hcle ?_
      refine lv_astore (lv' := [(4, .ref q9), (0, .ref q0), (1, .int p0), (2, .int p1), (3, .ref qo)]) hx hb dL_next_24 hl (by decide) rfl (fun ls hl => ?_)
      refine lv_iconst (v := 2) hx hb dL_next_26 (by decide) ?_
      exact W.iret (v := 2) hx hb hr (fun t ht hW => ⟨⟨2, (fo, ((so, le, gr, ne, si, ou, bo, n, om, ob), (cs, gs, made, pl, kp), ro, wo, lv, e0)), rfl, Or.inr ⟨1, "java/lang/IllegalArgumentException", rfl, rfl, hE, rfl⟩, by rw [ht]; exact hP, hD⟩, hS.F ht⟩) hS.2.2 dL_next_27
  · skip
    have hP : va_P D vwCl (List.flatten [wJ κ qo 1 fo, wX κ q0 q qh qr ql qe u]) H := hP
    have hD : va_D A (List.flatten [wJ κ qo 1 fo, wX κ q0 q qh qr ql qe u]) := hD
    refine lv_if_eq (tgt := 15) hx hb dL_next_8 (by decide) (fun c_8 => ?_) (fun c_8 => ?_)
    · skip
      refine lv_lconst (v := 0) hx hb dL_next_15 (by decide) ?_
      refine k_last (D := D) (j := 0) hx hb hK.1 hP hD hS 0 1 rfl rfl (by omega) (by omega) dL_next_16 (fun H locs hP hD hS => ?_)
      have hP : va_P D vwCl (List.flatten [wJ κ qo 1 (vp_updL fo 0 0), wX κ q0 q qh qr ql qe u]) H := hP
      have hD : va_D A (List.flatten [wJ κ qo 1 (vp_updL fo 0 0), wX κ q0 q qh qr ql qe u]) := hD
      refine lv_goto (tgt := 28) hx hb dL_next_17 (by decide) ?_
      refine lv_iconst (v := 0) hx hb dL_next_28 (by decide) ?_
      exact W.iret (v := 0) hx hb hr (fun t ht hW => ⟨⟨0, (vp_updL fo 0 0, u), rfl, Or.inl ⟨rfl, r, by show (vp_updL fo 0 0) 0 = (if r = 0 then 0 else 1); rw [pk_uLs, if_pos c_8], hpo⟩, by rw [ht]; exact hP, hD⟩, hS.F ht⟩) hS.2.2 dL_next_29
    · skip
      refine lv_lconst (v := 1) hx hb dL_next_11 (by decide) ?_
      refine lv_goto (tgt := 16) hx hb dL_next_12 (by decide) ?_
      refine k_last (D := D) (j := 0) hx hb hK.1 hP hD hS 0 1 rfl rfl (by omega) (by omega) dL_next_16 (fun H locs hP hD hS => ?_)
      have hP : va_P D vwCl (List.flatten [wJ κ qo 1 (vp_updL fo 0 1), wX κ q0 q qh qr ql qe u]) H := hP
      have hD : va_D A (List.flatten [wJ κ qo 1 (vp_updL fo 0 1), wX κ q0 q qh qr ql qe u]) := hD
      refine lv_goto (tgt := 28) hx hb dL_next_17 (by decide) ?_
      refine lv_iconst (v := 0) hx hb dL_next_28 (by decide) ?_
      exact W.iret (v := 0) hx hb hr (fun t ht hW => ⟨⟨0, (vp_updL fo 0 1, u), rfl, Or.inl ⟨rfl, r, by show (vp_updL fo 0 1) 0 = (if r = 0 then 0 else 1); rw [pk_uLs, if_neg c_8], hpo⟩, by rw [ht]; exact hP, hD⟩, hS.F ht⟩) hS.2.2 dL_next_29
set_option maxHeartbeats 4000000 in
set_option maxRecDepth 100000 in
theorem c_L_nextOf (l : Launch) (D : va_G) (κ : Nat → ClassId) (sz : Nat) (q0 : Nat) (qh qr ql qe : Nat → Nat) (q : Nat → Nat) (so le gr ne si ou bo : Nat → Int32) (n om ob : Nat) (cs : Nat → Nat → Nat) (gs : Nat → KH) (made pl kp : Nat) (ro : Nat → Int64) (wo : Int32) (lv : Nat → Int32) (e0 : KE) (qo : Nat) (fo : Nat → Int64) (p0 : Int32) (hst : l.stackTraces = false) (hn : n ≤ 400) (hom : om ≤ 40) (hob : ob ≤ om) (hgs : ∀ k, k < made → k_bG (gs k)) (hpl : pl < 30) (hpm : pl ≤ made) (hma : made ≤ 30) (hkp : kp ≤ 30) : k_yui (S := ((Nat → Int64) × XV)) l yL_nextOf wsL_nextOf 8 132 24 2900 D κ [.ref q0, .int p0, .ref qo] (List.flatten [wJ κ qo 1 fo, wX κ q0 q qh qr ql qe ((so, le, gr, ne, si, ou, bo, n, om, ob), (cs, gs, made, pl, kp), ro, wo, lv, e0)]) sz (fun k u => x_wrap Int32.toInt64 ["java/lang/IndexOutOfBoundsException", "java/lang/IllegalArgumentException"] (fun (r : Int32) u => x_yl n p0 ∧ k_cat 400 so (k_nodeOf p0) = 3 ∧ r = k_cat 400 ne (k_nodeOf p0) ∧ u = ((so, le, gr, ne, si, ou, bo, n, om, ob), (cs, gs, made, pl, kp), ro, wo, lv, e0)) (fun E => (E = "java/lang/IndexOutOfBoundsException" ∧ x_nl n p0) ∨ (E = "java/lang/IllegalArgumentException" ∧ x_yl n p0 ∧ ¬ k_cat 400 so (k_nodeOf p0) = 3)) ((so, le, gr, ne, si, ou, bo, n, om, ob), (cs, gs, made, pl, kp), ro, wo, lv, e0) k u) (fun u => List.flatten [wJ κ qo 1 u.1, wX κ q0 q qh qr ql qe u.2]) := by
  refine k_ofWH (cc := cL_nextOf) (maxL := 4) (ret := (some .int)) (by decide) rfl ?_
  intro p e s m args below meth c s₁ B hml hv
  obtain ⟨rfl, ⟨hsz, hK, hP, hD0⟩, hX, hN⟩ := hv
  have hx := B.exec
  have hb := B.bytes
  have hr := B.returns
  have hts := atoms_spec (ws := wsL_nextOf) B.pre
  have hown : s.vm.findClass RL = some m.cls := findClass_of_methodNamed B.named
  have hlocks := B.notSynchronized
  subst hsz
  have hD := hD0.self (sz := s.heap.size)
  generalize hAe : va_A (List.flatten [wJ κ qo 1 fo, wX κ q0 q qh qr ql qe ((so, le, gr, ne, si, ou, bo, n, om, ob), (cs, gs, made, pl, kp), ro, wo, lv, e0)]) s.heap.size = A at hD hX ⊢
  have hA : ∀ q : Nat, s.heap.size ≤ q → A q := fun q h => by rw [← hAe]; exact Or.inr h
  have hS : va_S A s.heap s.heap [] := va_S.rf
  have hP : va_P D vwCl (List.flatten [wJ κ qo 1 fo, wX κ q0 q qh qr ql qe ((so, le, gr, ne, si, ou, bo, n, om, ob), (cs, gs, made, pl, kp), ro, wo, lv, e0)]) s.heap := hP
  have hl := lv_entry ([.ref q0, .int p0, .ref qo]) (n := 4) (Nat.le_of_ble_eq_true rfl)
  rw [lg_entry_eq]
  generalize (lg_sl ([.ref q0, .int p0, .ref qo]) ++ List.replicate (4 - (lg_sl ([.ref q0, .int p0, .ref qo])).length) Slot.unset).toArray = ls at hl ⊢
  have hl : lv_has ls 4 [(0, .ref q0), (1, .int p0), (2, .ref qo)] := hl
  have htab : c.exceptionTable.toList = tableOf [(0, 9, 12, 19), (0, 9, 15, 21)] := vx_table (x := yL_nextOf) B (hts _ List.mem_cons_self)
  refine lv_aload_n hx hb dL_nextOf_0 rfl (lv_at hl 2 rfl) ?_
  refine lv_iconst (v := 0) hx hb dL_nextOf_1 (by decide) ?_
  refine lv_aload_n hx hb dL_nextOf_2 rfl (lv_at hl 0 rfl) ?_
  refine lv_iload_n hx hb dL_nextOf_3 rfl (lv_at hl 1 rfl) ?_
  refine k_ySUi (D := D) (κ := κ) (qc := (RX6, TX6, 5)) (ci := 6) (q0 := 0) (Wl := [wJ κ qo 1 fo, wX κ q0 q qh qr ql qe ((so, le, gr, ne, si, ou, bo, n, om, ob), (cs, gs, made, pl, kp), ro, wo, lv, e0)]) (Wc := [wX κ q0 q qh qr ql qe ((so, le, gr, ne, si, ou, bo, n, om, ob), (cs, gs, made, pl, kp), ro, wo, lv, e0)]) (W' := fun u => [wX κ q0 q qh qr ql qe u]) (Wn := fun u => [wJ κ qo 1 fo, wX κ q0 q qh qr ql qe u]) ⟨hx, hb, hml, hown, hts⟩ (c_X6_nextOf l hst D κ _ q0 qh qr ql qe q so le gr ne si ou bo n om ob cs gs made pl kp ro wo lv e0 p0 hn hom hob hgs hpl hpm hma hkp) (cwV 1 hts gL_nextOf_X6_nextOf rfl rfl rfl (by decide +kernel) ⟨Nat.le_of_ble_eq_true rfl, Nat.le_of_ble_eq_true rfl⟩) hK hX hP hD hS hA [1] (by decide) rfl (List.flatten_singleton) (fun _ => List.flatten_singleton) rfl rfl (fun _ => rfl) (fun _ => rfl) (As := [.int p0]) (rest := [.int 0, .ref qo]) rfl rfl hl.1 (Nat.le_of_ble_eq_true rfl) dL_nextOf_4 ⟨Nat.le_of_ble_eq_true rfl, Nat.le_of_ble_eq_true rfl⟩ (fun E ce q9 H locs hE hP hD hS hce hcv hcle => ?_) (fun r u H locs hpo hP hD hS => ?_)
  · skip
    have hEs : E = "java/lang/IndexOutOfBoundsException" ∨ E = "java/lang/IllegalArgumentException" := by rcases hE with ⟨h, _⟩ | ⟨h, _⟩ <;> simp [h]
    rcases hEs with hE0 | hE1
    · skip
      subst hE0
      refine vx_catch (own := RL) (name := "java/lang/IndexOutOfBoundsException") hown ([] : List ExceptionTableEntry) ⟨0, 9, 12, 19⟩ ([⟨0, 9, 15, 21⟩] : List ExceptionTableEntry) (htab.trans rfl) (fun z hz => absurd hz List.not_mem_nil) (by decide) (by decide) (hts (.classLink RL 19 "java/lang/IndexOutOfBoundsException") (by decide +kernel)) (va_Nw.use rfl (hX.2.1 _ (by decide))) hce hcv hcle ?_
      refine lv_astore_n (lv' := [(3, .ref q9), (0, .ref q0), (1, .int p0), (2, .ref qo)]) hx hb dL_nextOf_12 rfl hl (by decide) rfl (fun ls hl => ?_)
      refine lv_iconst (v := 1) hx hb dL_nextOf_13 (by decide) ?_
      exact W.iret (v := 1) hx hb hr (fun t ht hW => ⟨⟨1, (fo, ((so, le, gr, ne, si, ou, bo, n, om, ob), (cs, gs, made, pl, kp), ro, wo, lv, e0)), rfl, Or.inr ⟨0, "java/lang/IndexOutOfBoundsException", rfl, rfl, hE, rfl⟩, by rw [ht]; exact hP, hD⟩, hS.F ht⟩) hS.2.2 dL_nextOf_14
    · skip
      subst hE1
      refine vx_catch (own := RL) (name := "java/lang/IllegalArgumentException") hown ([⟨0, 9, 12, 19⟩] : List ExceptionTableEntry) ⟨0, 9, 15, 21⟩ ([] : List ExceptionTableEntry) (htab.trans rfl) (fun z hz => by rw [List.mem_singleton.mp hz]; exact Or.inr ⟨by decide, "java/lang/IndexOutOfBoundsException", (hts (.classLink RL 19 "java/lang/IndexOutOfBoundsException") (by decide +kernel)), hN _ (by decide) _ (by decide) (by decide)⟩) (by decide) (by decide) (hts (.classLink RL 21 "java/lang/IllegalArgumentException") (by decide +kernel)) (va_Nw.use rfl (hX.2.1 _ (by decide))) hce hcv hcle ?_
      refine lv_astore_n (lv' := [(3, .ref q9), (0, .ref q0), (1, .int p0), (2, .ref qo)]) hx hb dL_nextOf_15 rfl hl (by decide) rfl (fun ls hl => ?_)
      refine lv_iconst (v := 2) hx hb dL_nextOf_16 (by decide) ?_
      exact W.iret (v := 2) hx hb hr (fun t ht hW => ⟨⟨2, (fo, ((so, le, gr, ne, si, ou, bo, n, om, ob), (cs, gs, made, pl, kp), ro, wo, lv, e0)), rfl, Or.inr ⟨1, "java/lang/IllegalArgumentException", rfl, rfl, hE, rfl⟩, by rw [ht]; exact hP, hD⟩, hS.F ht⟩) hS.2.2 dL_nextOf_17
  · skip
    have hP : va_P D vwCl (List.flatten [wJ κ qo 1 fo, wX κ q0 q qh qr ql qe u]) H := hP
    have hD : va_D A (List.flatten [wJ κ qo 1 fo, wX κ q0 q qh qr ql qe u]) := hD
    refine lv_i2l (v := Int32.toInt64 r) hx hb dL_nextOf_7 rfl ?_
    refine k_last (D := D) (j := 0) hx hb hK.1 hP hD hS 0 1 rfl rfl (by omega) (by omega) dL_nextOf_8 (fun H locs hP hD hS => ?_)
    have hP : va_P D vwCl (List.flatten [wJ κ qo 1 (vp_updL fo 0 (Int32.toInt64 r)), wX κ q0 q qh qr ql qe u]) H := hP
    have hD : va_D A (List.flatten [wJ κ qo 1 (vp_updL fo 0 (Int32.toInt64 r)), wX κ q0 q qh qr ql qe u]) := hD
    refine lv_goto (tgt := 18) hx hb dL_nextOf_9 (by decide) ?_
    refine lv_iconst (v := 0) hx hb dL_nextOf_18 (by decide) ?_
    exact W.iret (v := 0) hx hb hr (fun t ht hW => ⟨⟨0, (vp_updL fo 0 (Int32.toInt64 r), u), rfl, Or.inl ⟨rfl, r, by show (vp_updL fo 0 (Int32.toInt64 r)) 0 = Int32.toInt64 r; exact pk_uLs, hpo⟩, by rw [ht]; exact hP, hD⟩, hS.F ht⟩) hS.2.2 dL_nextOf_19
set_option maxHeartbeats 4000000 in
set_option maxRecDepth 100000 in
theorem c_L_box (l : Launch) (D : va_G) (κ : Nat → ClassId) (sz : Nat) (q0 : Nat) (qh qr ql qe : Nat → Nat) (q : Nat → Nat) (so le gr ne si ou bo : Nat → Int32) (n om ob : Nat) (cs : Nat → Nat → Nat) (gs : Nat → KH) (made pl kp : Nat) (ro : Nat → Int64) (wo : Int32) (lv : Nat → Int32) (e0 : KE) (qo : Nat) (fo : Nat → Int64) (p0 p1 : Int32) (hst : l.stackTraces = false) (hn : n ≤ 400) (hom : om ≤ 40) (hob : ob ≤ om) (hgs : ∀ k, k < made → k_bG (gs k)) (hpl : pl < 30) (hpm : pl ≤ made) (hma : made ≤ 30) (hkp : kp ≤ 30) : k_yui (S := ((Nat → Int64) × XV)) l yL_box wsL_box 8 148 24 2900 D κ [.ref q0, .int p0, .int p1, .ref qo] (List.flatten [wJ κ qo 1 fo, wX κ q0 q qh qr ql qe ((so, le, gr, ne, si, ou, bo, n, om, ob), (cs, gs, made, pl, kp), ro, wo, lv, e0)]) sz (fun k u => x_wrap Int32.toInt64 ["java/lang/IllegalArgumentException", "java/lang/UnsupportedOperationException"] (fun (r : Int32) u => ∃ aa bb : Nat, p0 = nI aa ∧ p1 = nI bb ∧ aa ≤ om - ob ∧ 1 ≤ bb ∧ bb ≤ 20 ∧ n + bb ≤ 400 ∧ r = k_litOf (nI n) ∧ x_chg ((so, le, gr, ne, si, ou, bo, n, om, ob), (cs, gs, made, pl, kp), ro, wo, lv, e0) (x_adf so 4 n bb, x_adf le (-1) n bb, x_adf gr (-1) n bb, x_adf ne (-1) n bb, x_adf si (-1) n bb, ou, k_bx bo (om - aa) om, n + bb, om, if 0 < aa then om else ob) e0 u) (fun E => (E = "java/lang/IllegalArgumentException" ∧ ((p0 < 0 ∨ ¬ p0 ≤ nI (om - ob)) ∨ (p1 < 1 ∨ ¬ p1 ≤ 20))) ∨ (E = "java/lang/UnsupportedOperationException" ∧ ∃ aa bb : Nat, p0 = nI aa ∧ p1 = nI bb ∧ aa ≤ om - ob ∧ 1 ≤ bb ∧ bb ≤ 20 ∧ 400 < n + bb)) ((so, le, gr, ne, si, ou, bo, n, om, ob), (cs, gs, made, pl, kp), ro, wo, lv, e0) k u) (fun u => List.flatten [wJ κ qo 1 u.1, wX κ q0 q qh qr ql qe u.2]) := by
  refine k_ofWH (cc := cL_box) (maxL := 5) (ret := (some .int)) (by decide) rfl ?_
  intro p e s m args below meth c s₁ B hml hv
  obtain ⟨rfl, ⟨hsz, hK, hP, hD0⟩, hX, hN⟩ := hv
  have hx := B.exec
  have hb := B.bytes
  have hr := B.returns
  have hts := atoms_spec (ws := wsL_box) B.pre
  have hown : s.vm.findClass RL = some m.cls := findClass_of_methodNamed B.named
  have hlocks := B.notSynchronized
  subst hsz
  have hD := hD0.self (sz := s.heap.size)
  generalize hAe : va_A (List.flatten [wJ κ qo 1 fo, wX κ q0 q qh qr ql qe ((so, le, gr, ne, si, ou, bo, n, om, ob), (cs, gs, made, pl, kp), ro, wo, lv, e0)]) s.heap.size = A at hD hX ⊢
  have hA : ∀ q : Nat, s.heap.size ≤ q → A q := fun q h => by rw [← hAe]; exact Or.inr h
  have hS : va_S A s.heap s.heap [] := va_S.rf
  have hP : va_P D vwCl (List.flatten [wJ κ qo 1 fo, wX κ q0 q qh qr ql qe ((so, le, gr, ne, si, ou, bo, n, om, ob), (cs, gs, made, pl, kp), ro, wo, lv, e0)]) s.heap := hP
  have hl := lv_entry ([.ref q0, .int p0, .int p1, .ref qo]) (n := 5) (Nat.le_of_ble_eq_true rfl)
  rw [lg_entry_eq]
  generalize (lg_sl ([.ref q0, .int p0, .int p1, .ref qo]) ++ List.replicate (5 - (lg_sl ([.ref q0, .int p0, .int p1, .ref qo])).length) Slot.unset).toArray = ls at hl ⊢
  have hl : lv_has ls 5 [(0, .ref q0), (1, .int p0), (2, .int p1), (3, .ref qo)] := hl
  have htab : c.exceptionTable.toList = tableOf [(0, 10, 13, 21), (0, 10, 17, 13)] := vx_table (x := yL_box) B (hts _ List.mem_cons_self)
  refine lv_aload_n hx hb dL_box_0 rfl (lv_at hl 3 rfl) ?_
  refine lv_iconst (v := 0) hx hb dL_box_1 (by decide) ?_
  refine lv_aload_n hx hb dL_box_2 rfl (lv_at hl 0 rfl) ?_
  refine lv_iload_n hx hb dL_box_3 rfl (lv_at hl 1 rfl) ?_
  refine lv_iload_n hx hb dL_box_4 rfl (lv_at hl 2 rfl) ?_
  refine k_ySUi (D := D) (κ := κ) (qc := (RX6, TX6, 5)) (ci := 6) (q0 := 0) (Wl := [wJ κ qo 1 fo, wX κ q0 q qh qr ql qe ((so, le, gr, ne, si, ou, bo, n, om, ob), (cs, gs, made, pl, kp), ro, wo, lv, e0)]) (Wc := [wX κ q0 q qh qr ql qe ((so, le, gr, ne, si, ou, bo, n, om, ob), (cs, gs, made, pl, kp), ro, wo, lv, e0)]) (W' := fun u => [wX κ q0 q qh qr ql qe u]) (Wn := fun u => [wJ κ qo 1 fo, wX κ q0 q qh qr ql qe u]) ⟨hx, hb, hml, hown, hts⟩ (c_X6_box l hst D κ _ q0 qh qr ql qe q so le gr ne si ou bo n om ob cs gs made pl kp ro wo lv e0 p0 p1 hn hom hob hgs hpl hpm hma hkp) (cwV 2 hts gL_box_X6_box rfl rfl rfl (by decide +kernel) ⟨Nat.le_of_ble_eq_true rfl, Nat.le_of_ble_eq_true rfl⟩) hK hX hP hD hS hA [1] (by decide) rfl (List.flatten_singleton) (fun _ => List.flatten_singleton) rfl rfl (fun _ => rfl) (fun _ => rfl) (As := [.int p0, .int p1]) (rest := [.int 0, .ref qo]) rfl rfl hl.1 (Nat.le_of_ble_eq_true rfl) dL_box_5 ⟨Nat.le_of_ble_eq_true rfl, Nat.le_of_ble_eq_true rfl⟩ (fun E ce q9 H locs hE hP hD hS hce hcv hcle => ?_) (fun r u H locs hpo hP hD hS => ?_)
  · skip
    have hEs : E = "java/lang/IllegalArgumentException" ∨ E = "java/lang/UnsupportedOperationException" := by rcases hE with ⟨h, _⟩ | ⟨h, _⟩ <;> simp [h]
    rcases hEs with hE0 | hE1
    · skip
      subst hE0
      refine vx_catch (own := RL) (name := "java/lang/IllegalArgumentException") hown ([] : List ExceptionTableEntry) ⟨0, 10, 13, 21⟩ ([⟨0, 10, 17, 13⟩] : List ExceptionTableEntry) (htab.trans rfl) (fun z hz => absurd hz List.not_mem_nil) (by decide) (by decide) (hts (.classLink RL 21 "java/lang/IllegalArgumentException") (by decide +kernel)) (va_Nw.use rfl (hX.2.1 _ (by decide))) hce hcv hcle ?_
      refine lv_astore (lv' := [(4, .ref q9), (0, .ref q0), (1, .int p0), (2, .int p1), (3, .ref qo)]) hx hb dL_box_13 hl (by decide) rfl (fun ls hl => ?_)
      refine lv_iconst (v := 1) hx hb dL_box_15 (by decide) ?_
      exact W.iret (v := 1) hx hb hr (fun t ht hW => ⟨⟨1, (fo, ((so, le, gr, ne, si, ou, bo, n, om, ob), (cs, gs, made, pl, kp), ro, wo, lv, e0)), rfl, Or.inr ⟨0, "java/lang/IllegalArgumentException", rfl, rfl, hE, rfl⟩, by rw [ht]; exact hP, hD⟩, hS.F ht⟩) hS.2.2 dL_box_16
    · skip
      subst hE1
      refine vx_catch (own := RL) (name := "java/lang/UnsupportedOperationException") hown ([⟨0, 10, 13, 21⟩] : List ExceptionTableEntry) ⟨0, 10, 17, 13⟩ ([] : List ExceptionTableEntry) (htab.trans rfl) (fun z hz => by rw [List.mem_singleton.mp hz]; exact Or.inr ⟨by decide, "java/lang/IllegalArgumentException", (hts (.classLink RL 21 "java/lang/IllegalArgumentException") (by decide +kernel)), hN _ (by decide) _ (by decide) (by decide)⟩) (by decide) (by decide) (hts (.classLink RL 13 "java/lang/UnsupportedOperationException") (by decide +kernel)) (va_Nw.use rfl (hX.2.1 _ (by decide))) hce hcv hcle ?_
      refine lv_astore (lv' := [(4, .ref q9), (0, .ref q0), (1, .int p0), (2, .int p1), (3, .ref qo)]) hx hb dL_box_17 hl (by decide) rfl (fun ls hl => ?_)
      refine lv_iconst (v := 2) hx hb dL_box_19 (by decide) ?_
      exact W.iret (v := 2) hx hb hr (fun t ht hW => ⟨⟨2, (fo, ((so, le, gr, ne, si, ou, bo, n, om, ob), (cs, gs, made, pl, kp), ro, wo, lv, e0)), rfl, Or.inr ⟨1, "java/lang/UnsupportedOperationException", rfl, rfl, hE, rfl⟩, by rw [ht]; exact hP, hD⟩, hS.F ht⟩) hS.2.2 dL_box_20
  · skip
    have hP : va_P D vwCl (List.flatten [wJ κ qo 1 fo, wX κ q0 q qh qr ql qe u]) H := hP
    have hD : va_D A (List.flatten [wJ κ qo 1 fo, wX κ q0 q qh qr ql qe u]) := hD
    refine lv_i2l (v := Int32.toInt64 r) hx hb dL_box_8 rfl ?_
    refine k_last (D := D) (j := 0) hx hb hK.1 hP hD hS 0 1 rfl rfl (by omega) (by omega) dL_box_9 (fun H locs hP hD hS => ?_)
    have hP : va_P D vwCl (List.flatten [wJ κ qo 1 (vp_updL fo 0 (Int32.toInt64 r)), wX κ q0 q qh qr ql qe u]) H := hP
    have hD : va_D A (List.flatten [wJ κ qo 1 (vp_updL fo 0 (Int32.toInt64 r)), wX κ q0 q qh qr ql qe u]) := hD
    refine lv_goto (tgt := 21) hx hb dL_box_10 (by decide) ?_
    refine lv_iconst (v := 0) hx hb dL_box_21 (by decide) ?_
    exact W.iret (v := 0) hx hb hr (fun t ht hW => ⟨⟨0, (vp_updL fo 0 (Int32.toInt64 r), u), rfl, Or.inl ⟨rfl, r, by show (vp_updL fo 0 (Int32.toInt64 r)) 0 = Int32.toInt64 r; exact pk_uLs, hpo⟩, by rw [ht]; exact hP, hD⟩, hS.F ht⟩) hS.2.2 dL_box_22
set_option maxHeartbeats 4000000 in
set_option maxRecDepth 100000 in
theorem c_L_replace (l : Launch) (D : va_G) (κ : Nat → ClassId) (sz : Nat) (q0 : Nat) (qh qr ql qe : Nat → Nat) (q : Nat → Nat) (so le gr ne si ou bo : Nat → Int32) (n om ob : Nat) (cs : Nat → Nat → Nat) (gs : Nat → KH) (made pl kp : Nat) (ro : Nat → Int64) (wo : Int32) (lv : Nat → Int32) (e0 : KE) (qo : Nat) (fo : Nat → Int64) (p0 p1 : Int32) (hst : l.stackTraces = false) (hn : n ≤ 400) (hom : om ≤ 40) (hob : ob ≤ om) (hgs : ∀ k, k < made → k_bG (gs k)) (hpl : pl < 30) (hpm : pl ≤ made) (hma : made ≤ 30) (hkp : kp ≤ 30) : k_yui (S := ((Nat → Int64) × XV)) l yL_replace wsL_replace 8 146 24 2900 D κ [.ref q0, .int p0, .int p1, .ref qo] (List.flatten [wJ κ qo 1 fo, wX κ q0 q qh qr ql qe ((so, le, gr, ne, si, ou, bo, n, om, ob), (cs, gs, made, pl, kp), ro, wo, lv, e0)]) sz (fun k u => x_wrap Int32.toInt64 ["java/lang/IndexOutOfBoundsException", "java/lang/IllegalArgumentException"] (fun (r : Int32) u => x_yn n p0 ∧ x_yl n p1 ∧ (k_cat 400 so p0 = 1 ∨ k_cat 400 so p0 = 2) ∧ ¬ k_cat 400 so (k_nodeOf p1) = 5 ∧ ∃ e9 : KE, e9 = k_spr le gr 400 (k_mark (k_nodeOf p1) (k_clr e0)) ∧ ((k_cat 400 (k_spr le gr 400 (k_mark (k_nodeOf p1) (k_clr e0))).1 p0 = 1 ∧ r = 1 ∧ u = ((so, le, gr, ne, si, ou, bo, n, om, ob), (cs, gs, made, pl, kp), ro, wo, lv, e9)) ∨ (¬ k_cat 400 (k_spr le gr 400 (k_mark (k_nodeOf p1) (k_clr e0))).1 p0 = 1 ∧ r = 0 ∧ ∃ w : KG, w = k_reL n 160000 (k_lo (k_gone p0 p1 (so, le, gr, si)).2.1 (k_gone p0 p1 (so, le, gr, si)).2.2.1 (k_gone p0 p1 (so, le, gr, si)).2.2.2 n 0) (k_gone p0 p1 (so, le, gr, si)) ∧ x_chg ((so, le, gr, ne, si, ou, bo, n, om, ob), (cs, gs, made, pl, kp), ro, wo, lv, e0) (w.1, w.2.1, w.2.2.1, k_stR 400 w.2.2.2 ne n, w.2.2.2, k_stR 40 w.2.2.2 ou om, bo, n, om, ob) e9 u))) (fun E => (E = "java/lang/IndexOutOfBoundsException" ∧ (x_nn n p0 ∨ x_nl n p1)) ∨ (E = "java/lang/IllegalArgumentException" ∧ x_yn n p0 ∧ x_yl n p1 ∧ ((¬ k_cat 400 so p0 = 1 ∧ ¬ k_cat 400 so p0 = 2) ∨ k_cat 400 so (k_nodeOf p1) = 5))) ((so, le, gr, ne, si, ou, bo, n, om, ob), (cs, gs, made, pl, kp), ro, wo, lv, e0) k u) (fun u => List.flatten [wJ κ qo 1 u.1, wX κ q0 q qh qr ql qe u.2]) := by
  refine k_ofWH (cc := cL_replace) (maxL := 5) (ret := (some .int)) (by decide) rfl ?_
  intro p e s m args below meth c s₁ B hml hv
  obtain ⟨rfl, ⟨hsz, hK, hP, hD0⟩, hX, hN⟩ := hv
  have hx := B.exec
  have hb := B.bytes
  have hr := B.returns
  have hts := atoms_spec (ws := wsL_replace) B.pre
  have hown : s.vm.findClass RL = some m.cls := findClass_of_methodNamed B.named
  have hlocks := B.notSynchronized
  subst hsz
  have hD := hD0.self (sz := s.heap.size)
  generalize hAe : va_A (List.flatten [wJ κ qo 1 fo, wX κ q0 q qh qr ql qe ((so, le, gr, ne, si, ou, bo, n, om, ob), (cs, gs, made, pl, kp), ro, wo, lv, e0)]) s.heap.size = A at hD hX ⊢
  have hA : ∀ q : Nat, s.heap.size ≤ q → A q := fun q h => by rw [← hAe]; exact Or.inr h
  have hS : va_S A s.heap s.heap [] := va_S.rf
  have hP : va_P D vwCl (List.flatten [wJ κ qo 1 fo, wX κ q0 q qh qr ql qe ((so, le, gr, ne, si, ou, bo, n, om, ob), (cs, gs, made, pl, kp), ro, wo, lv, e0)]) s.heap := hP
  have hl := lv_entry ([.ref q0, .int p0, .int p1, .ref qo]) (n := 5) (Nat.le_of_ble_eq_true rfl)
  rw [lg_entry_eq]
  generalize (lg_sl ([.ref q0, .int p0, .int p1, .ref qo]) ++ List.replicate (5 - (lg_sl ([.ref q0, .int p0, .int p1, .ref qo])).length) Slot.unset).toArray = ls at hl ⊢
  have hl : lv_has ls 5 [(0, .ref q0), (1, .int p0), (2, .int p1), (3, .ref qo)] := hl
  have htab : c.exceptionTable.toList = tableOf [(0, 10, 13, 19), (0, 10, 17, 21)] := vx_table (x := yL_replace) B (hts _ List.mem_cons_self)
  refine lv_aload_n hx hb dL_replace_0 rfl (lv_at hl 3 rfl) ?_
  refine lv_iconst (v := 0) hx hb dL_replace_1 (by decide) ?_
  refine lv_aload_n hx hb dL_replace_2 rfl (lv_at hl 0 rfl) ?_
  refine lv_iload_n hx hb dL_replace_3 rfl (lv_at hl 1 rfl) ?_
  refine lv_iload_n hx hb dL_replace_4 rfl (lv_at hl 2 rfl) ?_
  refine k_ySUi (D := D) (κ := κ) (qc := (RX6, TX6, 5)) (ci := 6) (q0 := 0) (Wl := [wJ κ qo 1 fo, wX κ q0 q qh qr ql qe ((so, le, gr, ne, si, ou, bo, n, om, ob), (cs, gs, made, pl, kp), ro, wo, lv, e0)]) (Wc := [wX κ q0 q qh qr ql qe ((so, le, gr, ne, si, ou, bo, n, om, ob), (cs, gs, made, pl, kp), ro, wo, lv, e0)]) (W' := fun u => [wX κ q0 q qh qr ql qe u]) (Wn := fun u => [wJ κ qo 1 fo, wX κ q0 q qh qr ql qe u]) ⟨hx, hb, hml, hown, hts⟩ (c_X6_replace l hst D κ _ q0 qh qr ql qe q so le gr ne si ou bo n om ob cs gs made pl kp ro wo lv e0 p0 p1 hn hom hob hgs hpl hpm hma hkp) (cwV 2 hts gL_replace_X6_replace rfl rfl rfl (by decide +kernel) ⟨Nat.le_of_ble_eq_true rfl, Nat.le_of_ble_eq_true rfl⟩) hK hX hP hD hS hA [1] (by decide) rfl (List.flatten_singleton) (fun _ => List.flatten_singleton) rfl rfl (fun _ => rfl) (fun _ => rfl) (As := [.int p0, .int p1]) (rest := [.int 0, .ref qo]) rfl rfl hl.1 (Nat.le_of_ble_eq_true rfl) dL_replace_5 ⟨Nat.le_of_ble_eq_true rfl, Nat.le_of_ble_eq_true rfl⟩ (fun E ce q9 H locs hE hP hD hS hce hcv hcle => ?_) (fun r u H locs hpo hP hD hS => ?_)
  · skip
    have hEs : E = "java/lang/IndexOutOfBoundsException" ∨ E = "java/lang/IllegalArgumentException" := by rcases hE with ⟨h, _⟩ | ⟨h, _⟩ <;> simp [h]
    rcases hEs with hE0 | hE1
    · skip
      subst hE0
      refine vx_catch (own := RL) (name := "java/lang/IndexOutOfBoundsException") hown ([] : List ExceptionTableEntry) ⟨0, 10, 13, 19⟩ ([⟨0, 10, 17, 21⟩] : List ExceptionTableEntry) (htab.trans rfl) (fun z hz => absurd hz List.not_mem_nil) (by decide) (by decide) (hts (.classLink RL 19 "java/lang/IndexOutOfBoundsException") (by decide +kernel)) (va_Nw.use rfl (hX.2.1 _ (by decide))) hce hcv hcle ?_
      refine lv_astore (lv' := [(4, .ref q9), (0, .ref q0), (1, .int p0), (2, .int p1), (3, .ref qo)]) hx hb dL_replace_13 hl (by decide) rfl (fun ls hl => ?_)
      refine lv_iconst (v := 1) hx hb dL_replace_15 (by decide) ?_
      exact W.iret (v := 1) hx hb hr (fun t ht hW => ⟨⟨1, (fo, ((so, le, gr, ne, si, ou, bo, n, om, ob), (cs, gs, made, pl, kp), ro, wo, lv, e0)), rfl, Or.inr ⟨0, "java/lang/IndexOutOfBoundsException", rfl, rfl, hE, rfl⟩, by rw [ht]; exact hP, hD⟩, hS.F ht⟩) hS.2.2 dL_replace_16
    · skip
      subst hE1
      refine vx_catch (own := RL) (name := "java/lang/IllegalArgumentException") hown ([⟨0, 10, 13, 19⟩] : List ExceptionTableEntry) ⟨0, 10, 17, 21⟩ ([] : List ExceptionTableEntry) (htab.trans rfl) (fun z hz => by rw [List.mem_singleton.mp hz]; exact Or.inr ⟨by decide, "java/lang/IndexOutOfBoundsException", (hts (.classLink RL 19 "java/lang/IndexOutOfBoundsException") (by decide +kernel)), hN _ (by decide) _ (by decide) (by decide)⟩) (by decide) (by decide) (hts (.classLink RL 21 "java/lang/IllegalArgumentException") (by decide +kernel)) (va_Nw.use rfl (hX.2.1 _ (by decide))) hce hcv hcle ?_
      refine lv_astore (lv' := [(4, .ref q9), (0, .ref q0), (1, .int p0), (2, .int p1), (3, .ref qo)]) hx hb dL_replace_17 hl (by decide) rfl (fun ls hl => ?_)
      refine lv_iconst (v := 2) hx hb dL_replace_19 (by decide) ?_
      exact W.iret (v := 2) hx hb hr (fun t ht hW => ⟨⟨2, (fo, ((so, le, gr, ne, si, ou, bo, n, om, ob), (cs, gs, made, pl, kp), ro, wo, lv, e0)), rfl, Or.inr ⟨1, "java/lang/IllegalArgumentException", rfl, rfl, hE, rfl⟩, by rw [ht]; exact hP, hD⟩, hS.F ht⟩) hS.2.2 dL_replace_20
  · skip
    have hP : va_P D vwCl (List.flatten [wJ κ qo 1 fo, wX κ q0 q qh qr ql qe u]) H := hP
    have hD : va_D A (List.flatten [wJ κ qo 1 fo, wX κ q0 q qh qr ql qe u]) := hD
    refine lv_i2l (v := Int32.toInt64 r) hx hb dL_replace_8 rfl ?_
    refine k_last (D := D) (j := 0) hx hb hK.1 hP hD hS 0 1 rfl rfl (by omega) (by omega) dL_replace_9 (fun H locs hP hD hS => ?_)
    have hP : va_P D vwCl (List.flatten [wJ κ qo 1 (vp_updL fo 0 (Int32.toInt64 r)), wX κ q0 q qh qr ql qe u]) H := hP
    have hD : va_D A (List.flatten [wJ κ qo 1 (vp_updL fo 0 (Int32.toInt64 r)), wX κ q0 q qh qr ql qe u]) := hD
    refine lv_goto (tgt := 21) hx hb dL_replace_10 (by decide) ?_
    refine lv_iconst (v := 0) hx hb dL_replace_21 (by decide) ?_
    exact W.iret (v := 0) hx hb hr (fun t ht hW => ⟨⟨0, (vp_updL fo 0 (Int32.toInt64 r), u), rfl, Or.inl ⟨rfl, r, by show (vp_updL fo 0 (Int32.toInt64 r)) 0 = Int32.toInt64 r; exact pk_uLs, hpo⟩, by rw [ht]; exact hP, hD⟩, hS.F ht⟩) hS.2.2 dL_replace_22
set_option maxHeartbeats 4000000 in
set_option maxRecDepth 100000 in
theorem c_L_row (l : Launch) (D : va_G) (κ : Nat → ClassId) (sz : Nat) (q0 : Nat) (qh qr ql qe : Nat → Nat) (q : Nat → Nat) (so le gr ne si ou bo : Nat → Int32) (n om ob : Nat) (cs : Nat → Nat → Nat) (gs : Nat → KH) (made pl kp : Nat) (ro : Nat → Int64) (wo : Int32) (lv : Nat → Int32) (e0 : KE) (qo : Nat) (fo : Nat → Int64) (p0 : Int32) (hst : l.stackTraces = false) (hn : n ≤ 400) (hom : om ≤ 40) (hob : ob ≤ om) (hgs : ∀ k, k < made → k_bG (gs k)) (hpl : pl < 30) (hpm : pl ≤ made) (hma : made ≤ 30) (hkp : kp ≤ 30) (hwo : wo = 0 ∨ wo = 1) : k_yui (S := ((Nat → Int64) × XV)) l yL_row wsL_row 8 132 24 2900 D κ [.ref q0, .int p0, .ref qo] (List.flatten [wJ κ qo 1 fo, wX κ q0 q qh qr ql qe ((so, le, gr, ne, si, ou, bo, n, om, ob), (cs, gs, made, pl, kp), ro, wo, lv, e0)]) sz (fun k u => x_wrap id ["java/lang/IndexOutOfBoundsException", "java/lang/IllegalStateException", "java/lang/IllegalArgumentException"] (fun (r : Int64) u => x_yn n p0 ∧ ¬ wo = 0 ∧ ¬ k_cat 400 so p0 = 5 ∧ r = k_catJ 400 ro p0 ∧ u = ((so, le, gr, ne, si, ou, bo, n, om, ob), (cs, gs, made, pl, kp), ro, wo, lv, e0)) (fun E => (E = "java/lang/IndexOutOfBoundsException" ∧ x_nn n p0) ∨ (E = "java/lang/IllegalStateException" ∧ x_yn n p0 ∧ wo = 0) ∨ (E = "java/lang/IllegalArgumentException" ∧ x_yn n p0 ∧ ¬ wo = 0 ∧ k_cat 400 so p0 = 5)) ((so, le, gr, ne, si, ou, bo, n, om, ob), (cs, gs, made, pl, kp), ro, wo, lv, e0) k u) (fun u => List.flatten [wJ κ qo 1 u.1, wX κ q0 q qh qr ql qe u.2]) := by
  refine k_ofWH (cc := cL_row) (maxL := 4) (ret := (some .int)) (by decide) rfl ?_
  intro p e s m args below meth c s₁ B hml hv
  obtain ⟨rfl, ⟨hsz, hK, hP, hD0⟩, hX, hN⟩ := hv
  have hx := B.exec
  have hb := B.bytes
  have hr := B.returns
  have hts := atoms_spec (ws := wsL_row) B.pre
  have hown : s.vm.findClass RL = some m.cls := findClass_of_methodNamed B.named
  have hlocks := B.notSynchronized
  subst hsz
  have hD := hD0.self (sz := s.heap.size)
  generalize hAe : va_A (List.flatten [wJ κ qo 1 fo, wX κ q0 q qh qr ql qe ((so, le, gr, ne, si, ou, bo, n, om, ob), (cs, gs, made, pl, kp), ro, wo, lv, e0)]) s.heap.size = A at hD hX ⊢
  have hA : ∀ q : Nat, s.heap.size ≤ q → A q := fun q h => by rw [← hAe]; exact Or.inr h
  have hS : va_S A s.heap s.heap [] := va_S.rf
  have hP : va_P D vwCl (List.flatten [wJ κ qo 1 fo, wX κ q0 q qh qr ql qe ((so, le, gr, ne, si, ou, bo, n, om, ob), (cs, gs, made, pl, kp), ro, wo, lv, e0)]) s.heap := hP
  have hl := lv_entry ([.ref q0, .int p0, .ref qo]) (n := 4) (Nat.le_of_ble_eq_true rfl)
  rw [lg_entry_eq]
  generalize (lg_sl ([.ref q0, .int p0, .ref qo]) ++ List.replicate (4 - (lg_sl ([.ref q0, .int p0, .ref qo])).length) Slot.unset).toArray = ls at hl ⊢
  have hl : lv_has ls 4 [(0, .ref q0), (1, .int p0), (2, .ref qo)] := hl
  have htab : c.exceptionTable.toList = tableOf [(0, 8, 11, 19), (0, 8, 14, 50), (0, 8, 17, 21)] := vx_table (x := yL_row) B (hts _ List.mem_cons_self)
  refine lv_aload_n hx hb dL_row_0 rfl (lv_at hl 2 rfl) ?_
  refine lv_iconst (v := 0) hx hb dL_row_1 (by decide) ?_
  refine lv_aload_n hx hb dL_row_2 rfl (lv_at hl 0 rfl) ?_
  refine lv_iload_n hx hb dL_row_3 rfl (lv_at hl 1 rfl) ?_
  refine k_ySUl (D := D) (κ := κ) (qc := (RX6, TX6, 5)) (ci := 6) (q0 := 0) (Wl := [wJ κ qo 1 fo, wX κ q0 q qh qr ql qe ((so, le, gr, ne, si, ou, bo, n, om, ob), (cs, gs, made, pl, kp), ro, wo, lv, e0)]) (Wc := [wX κ q0 q qh qr ql qe ((so, le, gr, ne, si, ou, bo, n, om, ob), (cs, gs, made, pl, kp), ro, wo, lv, e0)]) (W' := fun u => [wX κ q0 q qh qr ql qe u]) (Wn := fun u => [wJ κ qo 1 fo, wX κ q0 q qh qr ql qe u]) ⟨hx, hb, hml, hown, hts⟩ (c_X6_row l hst D κ _ q0 qh qr ql qe q so le gr ne si ou bo n om ob cs gs made pl kp ro wo lv e0 p0 hn hom hob hgs hpl hpm hma hkp hwo) (cwV 1 hts gL_row_X6_row rfl rfl rfl (by decide +kernel) ⟨Nat.le_of_ble_eq_true rfl, Nat.le_of_ble_eq_true rfl⟩) hK hX hP hD hS hA [1] (by decide) rfl (List.flatten_singleton) (fun _ => List.flatten_singleton) rfl rfl (fun _ => rfl) (fun _ => rfl) (As := [.int p0]) (rest := [.int 0, .ref qo]) rfl rfl hl.1 (Nat.le_of_ble_eq_true rfl) dL_row_4 ⟨Nat.le_of_ble_eq_true rfl, Nat.le_of_ble_eq_true rfl⟩ (fun E ce q9 H locs hE hP hD hS hce hcv hcle => ?_) (fun r u H locs hpo hP hD hS => ?_)
  · skip
    have hEs : E = "java/lang/IndexOutOfBoundsException" ∨ E = "java/lang/IllegalStateException" ∨ E = "java/lang/IllegalArgumentException" := by rcases hE with ⟨h, _⟩ | ⟨h, _⟩ | ⟨h, _⟩ <;> simp [h]
    rcases hEs with hE0 | hE1 | hE2
    · skip
      subst hE0
      refine vx_catch (own := RL) (name := "java/lang/IndexOutOfBoundsException") hown ([] : List ExceptionTableEntry) ⟨0, 8, 11, 19⟩ ([⟨0, 8, 14, 50⟩, ⟨0, 8, 17, 21⟩] : List ExceptionTableEntry) (htab.trans rfl) (fun z hz => absurd hz List.not_mem_nil) (by decide) (by decide) (hts (.classLink RL 19 "java/lang/IndexOutOfBoundsException") (by decide +kernel)) (va_Nw.use rfl (hX.2.1 _ (by decide))) hce hcv hcle ?_
      refine lv_astore_n (lv' := [(3, .ref q9), (0, .ref q0), (1, .int p0), (2, .ref qo)]) hx hb dL_row_11 rfl hl (by decide) rfl (fun ls hl => ?_)
      refine lv_iconst (v := 1) hx hb dL_row_12 (by decide) ?_
      exact W.iret (v := 1) hx hb hr (fun t ht hW => ⟨⟨1, (fo, ((so, le, gr, ne, si, ou, bo, n, om, ob), (cs, gs, made, pl, kp), ro, wo, lv, e0)), rfl, Or.inr ⟨0, "java/lang/IndexOutOfBoundsException", rfl, rfl, hE, rfl⟩, by rw [ht]; exact hP, hD⟩, hS.F ht⟩) hS.2.2 dL_row_13
    · skip
      subst hE1
      refine vx_catch (own := RL) (name := "java/lang/IllegalStateException") hown ([⟨0, 8, 11, 19⟩] : List ExceptionTableEntry) ⟨0, 8, 14, 50⟩ ([⟨0, 8, 17, 21⟩] : List ExceptionTableEntry) (htab.trans rfl) (fun z hz => by rw [List.mem_singleton.mp hz]; exact Or.inr ⟨by decide, "java/lang/IndexOutOfBoundsException", (hts (.classLink RL 19 "java/lang/IndexOutOfBoundsException") (by decide +kernel)), hN _ (by decide) _ (by decide) (by decide)⟩) (by decide) (by decide) (hts (.classLink RL 50 "java/lang/IllegalStateException") (by decide +kernel)) (va_Nw.use rfl (hX.2.1 _ (by decide))) hce hcv hcle ?_
      refine lv_astore_n (lv' := [(3, .ref q9), (0, .ref q0), (1, .int p0), (2, .ref qo)]) hx hb dL_row_14 rfl hl (by decide) rfl (fun ls hl => ?_)
      refine lv_iconst (v := 2) hx hb dL_row_15 (by decide) ?_
      exact W.iret (v := 2) hx hb hr (fun t ht hW => ⟨⟨2, (fo, ((so, le, gr, ne, si, ou, bo, n, om, ob), (cs, gs, made, pl, kp), ro, wo, lv, e0)), rfl, Or.inr ⟨1, "java/lang/IllegalStateException", rfl, rfl, hE, rfl⟩, by rw [ht]; exact hP, hD⟩, hS.F ht⟩) hS.2.2 dL_row_16
    · skip
      subst hE2
      refine vx_catch (own := RL) (name := "java/lang/IllegalArgumentException") hown ([⟨0, 8, 11, 19⟩, ⟨0, 8, 14, 50⟩] : List ExceptionTableEntry) ⟨0, 8, 17, 21⟩ ([] : List ExceptionTableEntry) (htab.trans rfl) (fun z hz => by rcases List.mem_cons.mp hz with e9 | hz; (rw [e9]; exact Or.inr ⟨by decide, "java/lang/IndexOutOfBoundsException", (hts (.classLink RL 19 "java/lang/IndexOutOfBoundsException") (by decide +kernel)), hN _ (by decide) _ (by decide) (by decide)⟩); (rw [List.mem_singleton.mp hz]; exact Or.inr ⟨by decide, "java/lang/IllegalStateException", (hts (.classLink RL 50 "java/lang/IllegalStateException") (by decide +kernel)), hN _ (by decide) _ (by decide) (by decide)⟩)) (by decide) (by decide) (hts (.classLink RL 21 "java/lang/IllegalArgumentException") (by decide +kernel)) (va_Nw.use rfl (hX.2.1 _ (by decide))) hce hcv hcle ?_
      refine lv_astore_n (lv' := [(3, .ref q9), (0, .ref q0), (1, .int p0), (2, .ref qo)]) hx hb dL_row_17 rfl hl (by decide) rfl (fun ls hl => ?_)
      refine lv_iconst (v := 3) hx hb dL_row_18 (by decide) ?_
      exact W.iret (v := 3) hx hb hr (fun t ht hW => ⟨⟨3, (fo, ((so, le, gr, ne, si, ou, bo, n, om, ob), (cs, gs, made, pl, kp), ro, wo, lv, e0)), rfl, Or.inr ⟨2, "java/lang/IllegalArgumentException", rfl, rfl, hE, rfl⟩, by rw [ht]; exact hP, hD⟩, hS.F ht⟩) hS.2.2 dL_row_19
  · skip
    have hP : va_P D vwCl (List.flatten [wJ κ qo 1 fo, wX κ q0 q qh qr ql qe u]) H := hP
    have hD : va_D A (List.flatten [wJ κ qo 1 fo, wX κ q0 q qh qr ql qe u]) := hD
    refine k_last (D := D) (j := 0) hx hb hK.1 hP hD hS 0 1 rfl rfl (by omega) (by omega) dL_row_7 (fun H locs hP hD hS => ?_)
    have hP : va_P D vwCl (List.flatten [wJ κ qo 1 (vp_updL fo 0 r), wX κ q0 q qh qr ql qe u]) H := hP
    have hD : va_D A (List.flatten [wJ κ qo 1 (vp_updL fo 0 r), wX κ q0 q qh qr ql qe u]) := hD
    refine lv_goto (tgt := 20) hx hb dL_row_8 (by decide) ?_
    refine lv_iconst (v := 0) hx hb dL_row_20 (by decide) ?_
    exact W.iret (v := 0) hx hb hr (fun t ht hW => ⟨⟨0, (vp_updL fo 0 r, u), rfl, Or.inl ⟨rfl, r, by show (vp_updL fo 0 r) 0 = r; exact pk_uLs, hpo⟩, by rw [ht]; exact hP, hD⟩, hS.F ht⟩) hS.2.2 dL_row_21
set_option maxHeartbeats 4000000 in
set_option maxRecDepth 100000 in
theorem c_L_level (l : Launch) (D : va_G) (κ : Nat → ClassId) (sz : Nat) (q0 : Nat) (qh qr ql qe : Nat → Nat) (q : Nat → Nat) (so le gr ne si ou bo : Nat → Int32) (n om ob : Nat) (cs : Nat → Nat → Nat) (gs : Nat → KH) (made pl kp : Nat) (ro : Nat → Int64) (wo : Int32) (lv : Nat → Int32) (e0 : KE) (qo : Nat) (fo : Nat → Int64) (p0 : Int32) (hst : l.stackTraces = false) (hn : n ≤ 400) (hom : om ≤ 40) (hob : ob ≤ om) (hgs : ∀ k, k < made → k_bG (gs k)) (hpl : pl < 30) (hpm : pl ≤ made) (hma : made ≤ 30) (hkp : kp ≤ 30) : k_yui (S := ((Nat → Int64) × XV)) l yL_level wsL_level 8 132 24 2900 D κ [.ref q0, .int p0, .ref qo] (List.flatten [wJ κ qo 1 fo, wX κ q0 q qh qr ql qe ((so, le, gr, ne, si, ou, bo, n, om, ob), (cs, gs, made, pl, kp), ro, wo, lv, e0)]) sz (fun k u => x_wrap Int32.toInt64 ["java/lang/IndexOutOfBoundsException", "java/lang/IllegalArgumentException"] (fun (r : Int32) u => x_yn n p0 ∧ ¬ k_cat 400 so p0 = 5 ∧ r = k_cat 400 (k_lw so le gr n 400 1 (k_fillF lv 0 400)) p0 ∧ u = ((so, le, gr, ne, si, ou, bo, n, om, ob), (cs, gs, made, pl, kp), ro, wo, k_lw so le gr n 400 1 (k_fillF lv 0 400), e0)) (fun E => (E = "java/lang/IndexOutOfBoundsException" ∧ x_nn n p0) ∨ (E = "java/lang/IllegalArgumentException" ∧ x_yn n p0 ∧ k_cat 400 so p0 = 5)) ((so, le, gr, ne, si, ou, bo, n, om, ob), (cs, gs, made, pl, kp), ro, wo, lv, e0) k u) (fun u => List.flatten [wJ κ qo 1 u.1, wX κ q0 q qh qr ql qe u.2]) := by
  refine k_ofWH (cc := cL_level) (maxL := 4) (ret := (some .int)) (by decide) rfl ?_
  intro p e s m args below meth c s₁ B hml hv
  obtain ⟨rfl, ⟨hsz, hK, hP, hD0⟩, hX, hN⟩ := hv
  have hx := B.exec
  have hb := B.bytes
  have hr := B.returns
  have hts := atoms_spec (ws := wsL_level) B.pre
  have hown : s.vm.findClass RL = some m.cls := findClass_of_methodNamed B.named
  have hlocks := B.notSynchronized
  subst hsz
  have hD := hD0.self (sz := s.heap.size)
  generalize hAe : va_A (List.flatten [wJ κ qo 1 fo, wX κ q0 q qh qr ql qe ((so, le, gr, ne, si, ou, bo, n, om, ob), (cs, gs, made, pl, kp), ro, wo, lv, e0)]) s.heap.size = A at hD hX ⊢
  have hA : ∀ q : Nat, s.heap.size ≤ q → A q := fun q h => by rw [← hAe]; exact Or.inr h
  have hS : va_S A s.heap s.heap [] := va_S.rf
  have hP : va_P D vwCl (List.flatten [wJ κ qo 1 fo, wX κ q0 q qh qr ql qe ((so, le, gr, ne, si, ou, bo, n, om, ob), (cs, gs, made, pl, kp), ro, wo, lv, e0)]) s.heap := hP
  have hl := lv_entry ([.ref q0, .int p0, .ref qo]) (n := 4) (Nat.le_of_ble_eq_true rfl)
  rw [lg_entry_eq]
  generalize (lg_sl ([.ref q0, .int p0, .ref qo]) ++ List.replicate (4 - (lg_sl ([.ref q0, .int p0, .ref qo])).length) Slot.unset).toArray = ls at hl ⊢
  have hl : lv_has ls 4 [(0, .ref q0), (1, .int p0), (2, .ref qo)] := hl
  have htab : c.exceptionTable.toList = tableOf [(0, 9, 12, 19), (0, 9, 15, 21)] := vx_table (x := yL_level) B (hts _ List.mem_cons_self)
  refine lv_aload_n hx hb dL_level_0 rfl (lv_at hl 2 rfl) ?_
  refine lv_iconst (v := 0) hx hb dL_level_1 (by decide) ?_
  refine lv_aload_n hx hb dL_level_2 rfl (lv_at hl 0 rfl) ?_
  refine lv_iload_n hx hb dL_level_3 rfl (lv_at hl 1 rfl) ?_
  refine k_ySUi (D := D) (κ := κ) (qc := (RX6, TX6, 5)) (ci := 6) (q0 := 0) (Wl := [wJ κ qo 1 fo, wX κ q0 q qh qr ql qe ((so, le, gr, ne, si, ou, bo, n, om, ob), (cs, gs, made, pl, kp), ro, wo, lv, e0)]) (Wc := [wX κ q0 q qh qr ql qe ((so, le, gr, ne, si, ou, bo, n, om, ob), (cs, gs, made, pl, kp), ro, wo, lv, e0)]) (W' := fun u => [wX κ q0 q qh qr ql qe u]) (Wn := fun u => [wJ κ qo 1 fo, wX κ q0 q qh qr ql qe u]) ⟨hx, hb, hml, hown, hts⟩ (c_X6_level l hst D κ _ q0 qh qr ql qe q so le gr ne si ou bo n om ob cs gs made pl kp ro wo lv e0 p0 hn hom hob hgs hpl hpm hma hkp) (cwV 1 hts gL_level_X6_level rfl rfl rfl (by decide +kernel) ⟨Nat.le_of_ble_eq_true rfl, Nat.le_of_ble_eq_true rfl⟩) hK hX hP hD hS hA [1] (by decide) rfl (List.flatten_singleton) (fun _ => List.flatten_singleton) rfl rfl (fun _ => rfl) (fun _ => rfl) (As := [.int p0]) (rest := [.int 0, .ref qo]) rfl rfl hl.1 (Nat.le_of_ble_eq_true rfl) dL_level_4 ⟨Nat.le_of_ble_eq_true rfl, Nat.le_of_ble_eq_true rfl⟩ (fun E ce q9 H locs hE hP hD hS hce hcv hcle => ?_) (fun r u H locs hpo hP hD hS => ?_)
  · skip
    have hEs : E = "java/lang/IndexOutOfBoundsException" ∨ E = "java/lang/IllegalArgumentException" := by rcases hE with ⟨h, _⟩ | ⟨h, _⟩ <;> simp [h]
    rcases hEs with hE0 | hE1
    · skip
      subst hE0
      refine vx_catch (own := RL) (name := "java/lang/IndexOutOfBoundsException") hown ([] : List ExceptionTableEntry) ⟨0, 9, 12, 19⟩ ([⟨0, 9, 15, 21⟩] : List ExceptionTableEntry) (htab.trans rfl) (fun z hz => absurd hz List.not_mem_nil) (by decide) (by decide) (hts (.classLink RL 19 "java/lang/IndexOutOfBoundsException") (by decide +kernel)) (va_Nw.use rfl (hX.2.1 _ (by decide))) hce hcv hcle ?_
      refine lv_astore_n (lv' := [(3, .ref q9), (0, .ref q0), (1, .int p0), (2, .ref qo)]) hx hb dL_level_12 rfl hl (by decide) rfl (fun ls hl => ?_)
      refine lv_iconst (v := 1) hx hb dL_level_13 (by decide) ?_
      exact W.iret (v := 1) hx hb hr (fun t ht hW => ⟨⟨1, (fo, ((so, le, gr, ne, si, ou, bo, n, om, ob), (cs, gs, made, pl, kp), ro, wo, lv, e0)), rfl, Or.inr ⟨0, "java/lang/IndexOutOfBoundsException", rfl, rfl, hE, rfl⟩, by rw [ht]; exact hP, hD⟩, hS.F ht⟩) hS.2.2 dL_level_14
    · skip
      subst hE1
      refine vx_catch (own := RL) (name := "java/lang/IllegalArgumentException") hown ([⟨0, 9, 12, 19⟩] : List ExceptionTableEntry) ⟨0, 9, 15, 21⟩ ([] : List ExceptionTableEntry) (htab.trans rfl) (fun z hz => by rw [List.mem_singleton.mp hz]; exact Or.inr ⟨by decide, "java/lang/IndexOutOfBoundsException", (hts (.classLink RL 19 "java/lang/IndexOutOfBoundsException") (by decide +kernel)), hN _ (by decide) _ (by decide) (by decide)⟩) (by decide) (by decide) (hts (.classLink RL 21 "java/lang/IllegalArgumentException") (by decide +kernel)) (va_Nw.use rfl (hX.2.1 _ (by decide))) hce hcv hcle ?_
      refine lv_astore_n (lv' := [(3, .ref q9), (0, .ref q0), (1, .int p0), (2, .ref qo)]) hx hb dL_level_15 rfl hl (by decide) rfl (fun ls hl => ?_)
      refine lv_iconst (v := 2) hx hb dL_level_16 (by decide) ?_
      exact W.iret (v := 2) hx hb hr (fun t ht hW => ⟨⟨2, (fo, ((so, le, gr, ne, si, ou, bo, n, om, ob), (cs, gs, made, pl, kp), ro, wo, lv, e0)), rfl, Or.inr ⟨1, "java/lang/IllegalArgumentException", rfl, rfl, hE, rfl⟩, by rw [ht]; exact hP, hD⟩, hS.F ht⟩) hS.2.2 dL_level_17
  · skip
    have hP : va_P D vwCl (List.flatten [wJ κ qo 1 fo, wX κ q0 q qh qr ql qe u]) H := hP
    have hD : va_D A (List.flatten [wJ κ qo 1 fo, wX κ q0 q qh qr ql qe u]) := hD
    refine lv_i2l (v := Int32.toInt64 r) hx hb dL_level_7 rfl ?_
    refine k_last (D := D) (j := 0) hx hb hK.1 hP hD hS 0 1 rfl rfl (by omega) (by omega) dL_level_8 (fun H locs hP hD hS => ?_)
    have hP : va_P D vwCl (List.flatten [wJ κ qo 1 (vp_updL fo 0 (Int32.toInt64 r)), wX κ q0 q qh qr ql qe u]) H := hP
    have hD : va_D A (List.flatten [wJ κ qo 1 (vp_updL fo 0 (Int32.toInt64 r)), wX κ q0 q qh qr ql qe u]) := hD
    refine lv_goto (tgt := 18) hx hb dL_level_9 (by decide) ?_
    refine lv_iconst (v := 0) hx hb dL_level_18 (by decide) ?_
    exact W.iret (v := 0) hx hb hr (fun t ht hW => ⟨⟨0, (vp_updL fo 0 (Int32.toInt64 r), u), rfl, Or.inl ⟨rfl, r, by show (vp_updL fo 0 (Int32.toInt64 r)) 0 = Int32.toInt64 r; exact pk_uLs, hpo⟩, by rw [ht]; exact hP, hD⟩, hS.F ht⟩) hS.2.2 dL_level_19
set_option maxHeartbeats 4000000 in
set_option maxRecDepth 100000 in
theorem c_L_fan (l : Launch) (D : va_G) (κ : Nat → ClassId) (sz : Nat) (q0 : Nat) (qh qr ql qe : Nat → Nat) (q : Nat → Nat) (so le gr ne si ou bo : Nat → Int32) (n om ob : Nat) (cs : Nat → Nat → Nat) (gs : Nat → KH) (made pl kp : Nat) (ro : Nat → Int64) (wo : Int32) (lv : Nat → Int32) (e0 : KE) (qo : Nat) (fo : Nat → Int64) (p0 : Int32) (hst : l.stackTraces = false) (hn : n ≤ 400) (hom : om ≤ 40) (hob : ob ≤ om) (hgs : ∀ k, k < made → k_bG (gs k)) (hpl : pl < 30) (hpm : pl ≤ made) (hma : made ≤ 30) (hkp : kp ≤ 30) : k_yui (S := ((Nat → Int64) × XV)) l yL_fan wsL_fan 8 132 24 2900 D κ [.ref q0, .int p0, .ref qo] (List.flatten [wJ κ qo 1 fo, wX κ q0 q qh qr ql qe ((so, le, gr, ne, si, ou, bo, n, om, ob), (cs, gs, made, pl, kp), ro, wo, lv, e0)]) sz (fun k u => x_wrap Int32.toInt64 ["java/lang/IndexOutOfBoundsException", "java/lang/IllegalArgumentException"] (fun (r : Int32) u => x_yn n p0 ∧ ¬ k_cat 400 so p0 = 5 ∧ r = k_useO ou p0 (k_use3 le gr ne p0 n) om ∧ u = ((so, le, gr, ne, si, ou, bo, n, om, ob), (cs, gs, made, pl, kp), ro, wo, lv, e0)) (fun E => (E = "java/lang/IndexOutOfBoundsException" ∧ x_nn n p0) ∨ (E = "java/lang/IllegalArgumentException" ∧ x_yn n p0 ∧ k_cat 400 so p0 = 5)) ((so, le, gr, ne, si, ou, bo, n, om, ob), (cs, gs, made, pl, kp), ro, wo, lv, e0) k u) (fun u => List.flatten [wJ κ qo 1 u.1, wX κ q0 q qh qr ql qe u.2]) := by
  refine k_ofWH (cc := cL_fan) (maxL := 4) (ret := (some .int)) (by decide) rfl ?_
  intro p e s m args below meth c s₁ B hml hv
  obtain ⟨rfl, ⟨hsz, hK, hP, hD0⟩, hX, hN⟩ := hv
  have hx := B.exec
  have hb := B.bytes
  have hr := B.returns
  have hts := atoms_spec (ws := wsL_fan) B.pre
  have hown : s.vm.findClass RL = some m.cls := findClass_of_methodNamed B.named
  have hlocks := B.notSynchronized
  subst hsz
  have hD := hD0.self (sz := s.heap.size)
  generalize hAe : va_A (List.flatten [wJ κ qo 1 fo, wX κ q0 q qh qr ql qe ((so, le, gr, ne, si, ou, bo, n, om, ob), (cs, gs, made, pl, kp), ro, wo, lv, e0)]) s.heap.size = A at hD hX ⊢
  have hA : ∀ q : Nat, s.heap.size ≤ q → A q := fun q h => by rw [← hAe]; exact Or.inr h
  have hS : va_S A s.heap s.heap [] := va_S.rf
  have hP : va_P D vwCl (List.flatten [wJ κ qo 1 fo, wX κ q0 q qh qr ql qe ((so, le, gr, ne, si, ou, bo, n, om, ob), (cs, gs, made, pl, kp), ro, wo, lv, e0)]) s.heap := hP
  have hl := lv_entry ([.ref q0, .int p0, .ref qo]) (n := 4) (Nat.le_of_ble_eq_true rfl)
  rw [lg_entry_eq]
  generalize (lg_sl ([.ref q0, .int p0, .ref qo]) ++ List.replicate (4 - (lg_sl ([.ref q0, .int p0, .ref qo])).length) Slot.unset).toArray = ls at hl ⊢
  have hl : lv_has ls 4 [(0, .ref q0), (1, .int p0), (2, .ref qo)] := hl
  have htab : c.exceptionTable.toList = tableOf [(0, 9, 12, 19), (0, 9, 15, 21)] := vx_table (x := yL_fan) B (hts _ List.mem_cons_self)
  refine lv_aload_n hx hb dL_fan_0 rfl (lv_at hl 2 rfl) ?_
  refine lv_iconst (v := 0) hx hb dL_fan_1 (by decide) ?_
  refine lv_aload_n hx hb dL_fan_2 rfl (lv_at hl 0 rfl) ?_
  refine lv_iload_n hx hb dL_fan_3 rfl (lv_at hl 1 rfl) ?_
  refine k_ySUi (D := D) (κ := κ) (qc := (RX6, TX6, 5)) (ci := 6) (q0 := 0) (Wl := [wJ κ qo 1 fo, wX κ q0 q qh qr ql qe ((so, le, gr, ne, si, ou, bo, n, om, ob), (cs, gs, made, pl, kp), ro, wo, lv, e0)]) (Wc := [wX κ q0 q qh qr ql qe ((so, le, gr, ne, si, ou, bo, n, om, ob), (cs, gs, made, pl, kp), ro, wo, lv, e0)]) (W' := fun u => [wX κ q0 q qh qr ql qe u]) (Wn := fun u => [wJ κ qo 1 fo, wX κ q0 q qh qr ql qe u]) ⟨hx, hb, hml, hown, hts⟩ (c_X6_fan l hst D κ _ q0 qh qr ql qe q so le gr ne si ou bo n om ob cs gs made pl kp ro wo lv e0 p0 hn hom hob hgs hpl hpm hma hkp) (cwV 1 hts gL_fan_X6_fan rfl rfl rfl (by decide +kernel) ⟨Nat.le_of_ble_eq_true rfl, Nat.le_of_ble_eq_true rfl⟩) hK hX hP hD hS hA [1] (by decide) rfl (List.flatten_singleton) (fun _ => List.flatten_singleton) rfl rfl (fun _ => rfl) (fun _ => rfl) (As := [.int p0]) (rest := [.int 0, .ref qo]) rfl rfl hl.1 (Nat.le_of_ble_eq_true rfl) dL_fan_4 ⟨Nat.le_of_ble_eq_true rfl, Nat.le_of_ble_eq_true rfl⟩ (fun E ce q9 H locs hE hP hD hS hce hcv hcle => ?_) (fun r u H locs hpo hP hD hS => ?_)
  · skip
    have hEs : E = "java/lang/IndexOutOfBoundsException" ∨ E = "java/lang/IllegalArgumentException" := by rcases hE with ⟨h, _⟩ | ⟨h, _⟩ <;> simp [h]
    rcases hEs with hE0 | hE1
    · skip
      subst hE0
      refine vx_catch (own := RL) (name := "java/lang/IndexOutOfBoundsException") hown ([] : List ExceptionTableEntry) ⟨0, 9, 12, 19⟩ ([⟨0, 9, 15, 21⟩] : List ExceptionTableEntry) (htab.trans rfl) (fun z hz => absurd hz List.not_mem_nil) (by decide) (by decide) (hts (.classLink RL 19 "java/lang/IndexOutOfBoundsException") (by decide +kernel)) (va_Nw.use rfl (hX.2.1 _ (by decide))) hce hcv hcle ?_
      refine lv_astore_n (lv' := [(3, .ref q9), (0, .ref q0), (1, .int p0), (2, .ref qo)]) hx hb dL_fan_12 rfl hl (by decide) rfl (fun ls hl => ?_)
      refine lv_iconst (v := 1) hx hb dL_fan_13 (by decide) ?_
      exact W.iret (v := 1) hx hb hr (fun t ht hW => ⟨⟨1, (fo, ((so, le, gr, ne, si, ou, bo, n, om, ob), (cs, gs, made, pl, kp), ro, wo, lv, e0)), rfl, Or.inr ⟨0, "java/lang/IndexOutOfBoundsException", rfl, rfl, hE, rfl⟩, by rw [ht]; exact hP, hD⟩, hS.F ht⟩) hS.2.2 dL_fan_14
    · skip
      subst hE1
      refine vx_catch (own := RL) (name := "java/lang/IllegalArgumentException") hown ([⟨0, 9, 12, 19⟩] : List ExceptionTableEntry) ⟨0, 9, 15, 21⟩ ([] : List ExceptionTableEntry) (htab.trans rfl) (fun z hz => by rw [List.mem_singleton.mp hz]; exact Or.inr ⟨by decide, "java/lang/IndexOutOfBoundsException", (hts (.classLink RL 19 "java/lang/IndexOutOfBoundsException") (by decide +kernel)), hN _ (by decide) _ (by decide) (by decide)⟩) (by decide) (by decide) (hts (.classLink RL 21 "java/lang/IllegalArgumentException") (by decide +kernel)) (va_Nw.use rfl (hX.2.1 _ (by decide))) hce hcv hcle ?_
      refine lv_astore_n (lv' := [(3, .ref q9), (0, .ref q0), (1, .int p0), (2, .ref qo)]) hx hb dL_fan_15 rfl hl (by decide) rfl (fun ls hl => ?_)
      refine lv_iconst (v := 2) hx hb dL_fan_16 (by decide) ?_
      exact W.iret (v := 2) hx hb hr (fun t ht hW => ⟨⟨2, (fo, ((so, le, gr, ne, si, ou, bo, n, om, ob), (cs, gs, made, pl, kp), ro, wo, lv, e0)), rfl, Or.inr ⟨1, "java/lang/IllegalArgumentException", rfl, rfl, hE, rfl⟩, by rw [ht]; exact hP, hD⟩, hS.F ht⟩) hS.2.2 dL_fan_17
  · skip
    have hP : va_P D vwCl (List.flatten [wJ κ qo 1 fo, wX κ q0 q qh qr ql qe u]) H := hP
    have hD : va_D A (List.flatten [wJ κ qo 1 fo, wX κ q0 q qh qr ql qe u]) := hD
    refine lv_i2l (v := Int32.toInt64 r) hx hb dL_fan_7 rfl ?_
    refine k_last (D := D) (j := 0) hx hb hK.1 hP hD hS 0 1 rfl rfl (by omega) (by omega) dL_fan_8 (fun H locs hP hD hS => ?_)
    have hP : va_P D vwCl (List.flatten [wJ κ qo 1 (vp_updL fo 0 (Int32.toInt64 r)), wX κ q0 q qh qr ql qe u]) H := hP
    have hD : va_D A (List.flatten [wJ κ qo 1 (vp_updL fo 0 (Int32.toInt64 r)), wX κ q0 q qh qr ql qe u]) := hD
    refine lv_goto (tgt := 18) hx hb dL_fan_9 (by decide) ?_
    refine lv_iconst (v := 0) hx hb dL_fan_18 (by decide) ?_
    exact W.iret (v := 0) hx hb hr (fun t ht hW => ⟨⟨0, (vp_updL fo 0 (Int32.toInt64 r), u), rfl, Or.inl ⟨rfl, r, by show (vp_updL fo 0 (Int32.toInt64 r)) 0 = Int32.toInt64 r; exact pk_uLs, hpo⟩, by rw [ht]; exact hP, hD⟩, hS.F ht⟩) hS.2.2 dL_fan_19
set_option maxHeartbeats 4000000 in
set_option maxRecDepth 100000 in
theorem c_L_node (l : Launch) (D : va_G) (κ : Nat → ClassId) (sz : Nat) (q0 : Nat) (qh qr ql qe : Nat → Nat) (q : Nat → Nat) (so le gr ne si ou bo : Nat → Int32) (n om ob : Nat) (cs : Nat → Nat → Nat) (gs : Nat → KH) (made pl kp : Nat) (ro : Nat → Int64) (wo : Int32) (lv : Nat → Int32) (e0 : KE) (qo : Nat) (fo : Nat → Int64) (p0 p1 : Int32) (hst : l.stackTraces = false) (hn : n ≤ 400) (hom : om ≤ 40) (hob : ob ≤ om) (hgs : ∀ k, k < made → k_bG (gs k)) (hpl : pl < 30) (hpm : pl ≤ made) (hma : made ≤ 30) (hkp : kp ≤ 30) : k_yui (S := ((Nat → Int64) × XV)) l yL_node wsL_node 8 133 24 2900 D κ [.ref q0, .int p0, .int p1, .ref qo] (List.flatten [wJ κ qo 1 fo, wX κ q0 q qh qr ql qe ((so, le, gr, ne, si, ou, bo, n, om, ob), (cs, gs, made, pl, kp), ro, wo, lv, e0)]) sz (fun k u => x_wrap Int32.toInt64 ["java/lang/IndexOutOfBoundsException", "java/lang/IllegalArgumentException"] (fun (r : Int32) u => x_yn n p0 ∧ u = ((so, le, gr, ne, si, ou, bo, n, om, ob), (cs, gs, made, pl, kp), ro, wo, lv, e0) ∧ ((p1 = 0 ∧ r = k_cat 400 so p0) ∨ (p1 = 1 ∧ r = k_cat 400 le p0) ∨ (p1 = 2 ∧ r = k_cat 400 gr p0) ∨ (p1 = 3 ∧ r = k_cat 400 si p0))) (fun E => (E = "java/lang/IndexOutOfBoundsException" ∧ x_nn n p0) ∨ (E = "java/lang/IllegalArgumentException" ∧ x_yn n p0 ∧ ¬ p1 = 0 ∧ ¬ p1 = 1 ∧ ¬ p1 = 2 ∧ ¬ p1 = 3)) ((so, le, gr, ne, si, ou, bo, n, om, ob), (cs, gs, made, pl, kp), ro, wo, lv, e0) k u) (fun u => List.flatten [wJ κ qo 1 u.1, wX κ q0 q qh qr ql qe u.2]) := by
  refine k_ofWH (cc := cL_node) (maxL := 5) (ret := (some .int)) (by decide) rfl ?_
  intro p e s m args below meth c s₁ B hml hv
  obtain ⟨rfl, ⟨hsz, hK, hP, hD0⟩, hX, hN⟩ := hv
  have hx := B.exec
  have hb := B.bytes
  have hr := B.returns
  have hts := atoms_spec (ws := wsL_node) B.pre
  have hown : s.vm.findClass RL = some m.cls := findClass_of_methodNamed B.named
  have hlocks := B.notSynchronized
  subst hsz
  have hD := hD0.self (sz := s.heap.size)
  generalize hAe : va_A (List.flatten [wJ κ qo 1 fo, wX κ q0 q qh qr ql qe ((so, le, gr, ne, si, ou, bo, n, om, ob), (cs, gs, made, pl, kp), ro, wo, lv, e0)]) s.heap.size = A at hD hX ⊢
  have hA : ∀ q : Nat, s.heap.size ≤ q → A q := fun q h => by rw [← hAe]; exact Or.inr h
  have hS : va_S A s.heap s.heap [] := va_S.rf
  have hP : va_P D vwCl (List.flatten [wJ κ qo 1 fo, wX κ q0 q qh qr ql qe ((so, le, gr, ne, si, ou, bo, n, om, ob), (cs, gs, made, pl, kp), ro, wo, lv, e0)]) s.heap := hP
  have hl := lv_entry ([.ref q0, .int p0, .int p1, .ref qo]) (n := 5) (Nat.le_of_ble_eq_true rfl)
  rw [lg_entry_eq]
  generalize (lg_sl ([.ref q0, .int p0, .int p1, .ref qo]) ++ List.replicate (5 - (lg_sl ([.ref q0, .int p0, .int p1, .ref qo])).length) Slot.unset).toArray = ls at hl ⊢
  have hl : lv_has ls 5 [(0, .ref q0), (1, .int p0), (2, .int p1), (3, .ref qo)] := hl
  have htab : c.exceptionTable.toList = tableOf [(0, 10, 13, 19), (0, 10, 17, 21)] := vx_table (x := yL_node) B (hts _ List.mem_cons_self)
  refine lv_aload_n hx hb dL_node_0 rfl (lv_at hl 3 rfl) ?_
  refine lv_iconst (v := 0) hx hb dL_node_1 (by decide) ?_
  refine lv_aload_n hx hb dL_node_2 rfl (lv_at hl 0 rfl) ?_
  refine lv_iload_n hx hb dL_node_3 rfl (lv_at hl 1 rfl) ?_
  refine lv_iload_n hx hb dL_node_4 rfl (lv_at hl 2 rfl) ?_
  refine k_ySUi (D := D) (κ := κ) (qc := (RX6, TX6, 5)) (ci := 6) (q0 := 0) (Wl := [wJ κ qo 1 fo, wX κ q0 q qh qr ql qe ((so, le, gr, ne, si, ou, bo, n, om, ob), (cs, gs, made, pl, kp), ro, wo, lv, e0)]) (Wc := [wX κ q0 q qh qr ql qe ((so, le, gr, ne, si, ou, bo, n, om, ob), (cs, gs, made, pl, kp), ro, wo, lv, e0)]) (W' := fun u => [wX κ q0 q qh qr ql qe u]) (Wn := fun u => [wJ κ qo 1 fo, wX κ q0 q qh qr ql qe u]) ⟨hx, hb, hml, hown, hts⟩ (c_X6_node l hst D κ _ q0 qh qr ql qe q so le gr ne si ou bo n om ob cs gs made pl kp ro wo lv e0 p0 p1 hn hom hob hgs hpl hpm hma hkp) (cwV 2 hts gL_node_X6_node rfl rfl rfl (by decide +kernel) ⟨Nat.le_of_ble_eq_true rfl, Nat.le_of_ble_eq_true rfl⟩) hK hX hP hD hS hA [1] (by decide) rfl (List.flatten_singleton) (fun _ => List.flatten_singleton) rfl rfl (fun _ => rfl) (fun _ => rfl) (As := [.int p0, .int p1]) (rest := [.int 0, .ref qo]) rfl rfl hl.1 (Nat.le_of_ble_eq_true rfl) dL_node_5 ⟨Nat.le_of_ble_eq_true rfl, Nat.le_of_ble_eq_true rfl⟩ (fun E ce q9 H locs hE hP hD hS hce hcv hcle => ?_) (fun r u H locs hpo hP hD hS => ?_)
  · skip
    have hEs : E = "java/lang/IndexOutOfBoundsException" ∨ E = "java/lang/IllegalArgumentException" := by rcases hE with ⟨h, _⟩ | ⟨h, _⟩ <;> simp [h]
    rcases hEs with hE0 | hE1
    · skip
      subst hE0
      refine vx_catch (own := RL) (name := "java/lang/IndexOutOfBoundsException") hown ([] : List ExceptionTableEntry) ⟨0, 10, 13, 19⟩ ([⟨0, 10, 17, 21⟩] : List ExceptionTableEntry) (htab.trans rfl) (fun z hz => absurd hz List.not_mem_nil) (by decide) (by decide) (hts (.classLink RL 19 "java/lang/IndexOutOfBoundsException") (by decide +kernel)) (va_Nw.use rfl (hX.2.1 _ (by decide))) hce hcv hcle ?_
      refine lv_astore (lv' := [(4, .ref q9), (0, .ref q0), (1, .int p0), (2, .int p1), (3, .ref qo)]) hx hb dL_node_13 hl (by decide) rfl (fun ls hl => ?_)
      refine lv_iconst (v := 1) hx hb dL_node_15 (by decide) ?_
      exact W.iret (v := 1) hx hb hr (fun t ht hW => ⟨⟨1, (fo, ((so, le, gr, ne, si, ou, bo, n, om, ob), (cs, gs, made, pl, kp), ro, wo, lv, e0)), rfl, Or.inr ⟨0, "java/lang/IndexOutOfBoundsException", rfl, rfl, hE, rfl⟩, by rw [ht]; exact hP, hD⟩, hS.F ht⟩) hS.2.2 dL_node_16
    · skip
      subst hE1
      refine vx_catch (own := RL) (name := "java/lang/IllegalArgumentException") hown ([⟨0, 10, 13, 19⟩] : List ExceptionTableEntry) ⟨0, 10, 17, 21⟩ ([] : List ExceptionTableEntry) (htab.trans rfl) (fun z hz => by rw [List.mem_singleton.mp hz]; exact Or.inr ⟨by decide, "java/lang/IndexOutOfBoundsException", (hts (.classLink RL 19 "java/lang/IndexOutOfBoundsException") (by decide +kernel)), hN _ (by decide) _ (by decide) (by decide)⟩) (by decide) (by decide) (hts (.classLink RL 21 "java/lang/IllegalArgumentException") (by decide +kernel)) (va_Nw.use rfl (hX.2.1 _ (by decide))) hce hcv hcle ?_
      refine lv_astore (lv' := [(4, .ref q9), (0, .ref q0), (1, .int p0), (2, .int p1), (3, .ref qo)]) hx hb dL_node_17 hl (by decide) rfl (fun ls hl => ?_)
      refine lv_iconst (v := 2) hx hb dL_node_19 (by decide) ?_
      exact W.iret (v := 2) hx hb hr (fun t ht hW => ⟨⟨2, (fo, ((so, le, gr, ne, si, ou, bo, n, om, ob), (cs, gs, made, pl, kp), ro, wo, lv, e0)), rfl, Or.inr ⟨1, "java/lang/IllegalArgumentException", rfl, rfl, hE, rfl⟩, by rw [ht]; exact hP, hD⟩, hS.F ht⟩) hS.2.2 dL_node_20
  · skip
    have hP : va_P D vwCl (List.flatten [wJ κ qo 1 fo, wX κ q0 q qh qr ql qe u]) H := hP
    have hD : va_D A (List.flatten [wJ κ qo 1 fo, wX κ q0 q qh qr ql qe u]) := hD
    refine lv_i2l (v := Int32.toInt64 r) hx hb dL_node_8 rfl ?_
    refine k_last (D := D) (j := 0) hx hb hK.1 hP hD hS 0 1 rfl rfl (by omega) (by omega) dL_node_9 (fun H locs hP hD hS => ?_)
    have hP : va_P D vwCl (List.flatten [wJ κ qo 1 (vp_updL fo 0 (Int32.toInt64 r)), wX κ q0 q qh qr ql qe u]) H := hP
    have hD : va_D A (List.flatten [wJ κ qo 1 (vp_updL fo 0 (Int32.toInt64 r)), wX κ q0 q qh qr ql qe u]) := hD
    refine lv_goto (tgt := 21) hx hb dL_node_10 (by decide) ?_
    refine lv_iconst (v := 0) hx hb dL_node_21 (by decide) ?_
    exact W.iret (v := 0) hx hb hr (fun t ht hW => ⟨⟨0, (vp_updL fo 0 (Int32.toInt64 r), u), rfl, Or.inl ⟨rfl, r, by show (vp_updL fo 0 (Int32.toInt64 r)) 0 = Int32.toInt64 r; exact pk_uLs, hpo⟩, by rw [ht]; exact hP, hD⟩, hS.F ht⟩) hS.2.2 dL_node_22
set_option maxHeartbeats 4000000 in
set_option maxRecDepth 100000 in
theorem c_L_count (l : Launch) (D : va_G) (κ : Nat → ClassId) (sz : Nat) (q0 : Nat) (qh qr ql qe : Nat → Nat) (q : Nat → Nat) (so le gr ne si ou bo : Nat → Int32) (n om ob : Nat) (cs : Nat → Nat → Nat) (gs : Nat → KH) (made pl kp : Nat) (ro : Nat → Int64) (wo : Int32) (lv : Nat → Int32) (e0 : KE) (qo : Nat) (fo : Nat → Int64) (p0 : Int32) (hst : l.stackTraces = false) (hn : n ≤ 400) (hom : om ≤ 40) (hob : ob ≤ om) (hgs : ∀ k, k < made → k_bG (gs k)) (hpl : pl < 30) (hpm : pl ≤ made) (hma : made ≤ 30) (hkp : kp ≤ 30) : k_yui (S := ((Nat → Int64) × XV)) l yL_count wsL_count 7 112 24 2900 D κ [.ref q0, .int p0, .ref qo] (List.flatten [wJ κ qo 1 fo, wX κ q0 q qh qr ql qe ((so, le, gr, ne, si, ou, bo, n, om, ob), (cs, gs, made, pl, kp), ro, wo, lv, e0)]) sz (fun k u => x_wrap Int32.toInt64 ["java/lang/IllegalArgumentException"] (fun (r : Int32) u => (p0 = 0 ∧ r = nI n ∧ u = ((so, le, gr, ne, si, ou, bo, n, om, ob), (cs, gs, made, pl, kp), ro, wo, lv, e0)) ∨ (p0 = 1 ∧ r = k_cnt so 1 n ∧ u = ((so, le, gr, ne, si, ou, bo, n, om, ob), (cs, gs, made, pl, kp), ro, wo, lv, e0)) ∨ (p0 = 2 ∧ r = nI om ∧ u = ((so, le, gr, ne, si, ou, bo, n, om, ob), (cs, gs, made, pl, kp), ro, wo, lv, e0)) ∨ (p0 = 3 ∧ r = k_cnt so 3 n ∧ u = ((so, le, gr, ne, si, ou, bo, n, om, ob), (cs, gs, made, pl, kp), ro, wo, lv, e0)) ∨ (p0 = 4 ∧ r = nI kp ∧ u = ((so, le, gr, ne, si, ou, bo, n, om, ob), (cs, gs, made, pl, kp), ro, wo, lv, e0)) ∨ (p0 = 5 ∧ r = k_gmax (k_lw so le gr n 400 1 (k_fillF lv 0 400)) 400 ∧ u = ((so, le, gr, ne, si, ou, bo, n, om, ob), (cs, gs, made, pl, kp), ro, wo, k_lw so le gr n 400 1 (k_fillF lv 0 400), e0))) (fun E => E = "java/lang/IllegalArgumentException" ∧ ¬ p0 = 0 ∧ ¬ p0 = 1 ∧ ¬ p0 = 2 ∧ ¬ p0 = 3 ∧ ¬ p0 = 4 ∧ ¬ p0 = 5) ((so, le, gr, ne, si, ou, bo, n, om, ob), (cs, gs, made, pl, kp), ro, wo, lv, e0) k u) (fun u => List.flatten [wJ κ qo 1 u.1, wX κ q0 q qh qr ql qe u.2]) := by
  refine k_ofWH (cc := cL_count) (maxL := 4) (ret := (some .int)) (by decide) rfl ?_
  intro p e s m args below meth c s₁ B hml hv
  obtain ⟨rfl, ⟨hsz, hK, hP, hD0⟩, hX, hN⟩ := hv
  have hx := B.exec
  have hb := B.bytes
  have hr := B.returns
  have hts := atoms_spec (ws := wsL_count) B.pre
  have hown : s.vm.findClass RL = some m.cls := findClass_of_methodNamed B.named
  have hlocks := B.notSynchronized
  subst hsz
  have hD := hD0.self (sz := s.heap.size)
  generalize hAe : va_A (List.flatten [wJ κ qo 1 fo, wX κ q0 q qh qr ql qe ((so, le, gr, ne, si, ou, bo, n, om, ob), (cs, gs, made, pl, kp), ro, wo, lv, e0)]) s.heap.size = A at hD hX ⊢
  have hA : ∀ q : Nat, s.heap.size ≤ q → A q := fun q h => by rw [← hAe]; exact Or.inr h
  have hS : va_S A s.heap s.heap [] := va_S.rf
  have hP : va_P D vwCl (List.flatten [wJ κ qo 1 fo, wX κ q0 q qh qr ql qe ((so, le, gr, ne, si, ou, bo, n, om, ob), (cs, gs, made, pl, kp), ro, wo, lv, e0)]) s.heap := hP
  have hl := lv_entry ([.ref q0, .int p0, .ref qo]) (n := 4) (Nat.le_of_ble_eq_true rfl)
  rw [lg_entry_eq]
  generalize (lg_sl ([.ref q0, .int p0, .ref qo]) ++ List.replicate (4 - (lg_sl ([.ref q0, .int p0, .ref qo])).length) Slot.unset).toArray = ls at hl ⊢
  have hl : lv_has ls 4 [(0, .ref q0), (1, .int p0), (2, .ref qo)] := hl
  have htab : c.exceptionTable.toList = tableOf [(0, 9, 12, 21)] := vx_table (x := yL_count) B (hts _ List.mem_cons_self)
  refine lv_aload_n hx hb dL_count_0 rfl (lv_at hl 2 rfl) ?_
  refine lv_iconst (v := 0) hx hb dL_count_1 (by decide) ?_
  refine lv_aload_n hx hb dL_count_2 rfl (lv_at hl 0 rfl) ?_
  refine lv_iload_n hx hb dL_count_3 rfl (lv_at hl 1 rfl) ?_
  refine k_ySUi (D := D) (κ := κ) (qc := (RX6, TX6, 5)) (ci := 6) (q0 := 0) (Wl := [wJ κ qo 1 fo, wX κ q0 q qh qr ql qe ((so, le, gr, ne, si, ou, bo, n, om, ob), (cs, gs, made, pl, kp), ro, wo, lv, e0)]) (Wc := [wX κ q0 q qh qr ql qe ((so, le, gr, ne, si, ou, bo, n, om, ob), (cs, gs, made, pl, kp), ro, wo, lv, e0)]) (W' := fun u => [wX κ q0 q qh qr ql qe u]) (Wn := fun u => [wJ κ qo 1 fo, wX κ q0 q qh qr ql qe u]) ⟨hx, hb, hml, hown, hts⟩ (c_X6_count l hst D κ _ q0 qh qr ql qe q so le gr ne si ou bo n om ob cs gs made pl kp ro wo lv e0 p0 hn hom hob hgs hpl hpm hma hkp) (cwV 1 hts gL_count_X6_count rfl rfl rfl (by decide +kernel) ⟨Nat.le_of_ble_eq_true rfl, Nat.le_of_ble_eq_true rfl⟩) hK hX hP hD hS hA [1] (by decide) rfl (List.flatten_singleton) (fun _ => List.flatten_singleton) rfl rfl (fun _ => rfl) (fun _ => rfl) (As := [.int p0]) (rest := [.int 0, .ref qo]) rfl rfl hl.1 (Nat.le_of_ble_eq_true rfl) dL_count_4 ⟨Nat.le_of_ble_eq_true rfl, Nat.le_of_ble_eq_true rfl⟩ (fun E ce q9 H locs hE hP hD hS hce hcv hcle => ?_) (fun r u H locs hpo hP hD hS => ?_)
  · skip
    have hEs : E = "java/lang/IllegalArgumentException" := hE.1
    subst hEs
    refine vx_catch (own := RL) (name := "java/lang/IllegalArgumentException") hown ([] : List ExceptionTableEntry) ⟨0, 9, 12, 21⟩ ([] : List ExceptionTableEntry) (htab.trans rfl) (fun z hz => absurd hz List.not_mem_nil) (by decide) (by decide) (hts (.classLink RL 21 "java/lang/IllegalArgumentException") (by decide +kernel)) (va_Nw.use rfl (hX.2.1 _ (by decide))) hce hcv hcle ?_
    refine lv_astore_n (lv' := [(3, .ref q9), (0, .ref q0), (1, .int p0), (2, .ref qo)]) hx hb dL_count_12 rfl hl (by decide) rfl (fun ls hl => ?_)
    refine lv_iconst (v := 1) hx hb dL_count_13 (by decide) ?_
    exact W.iret (v := 1) hx hb hr (fun t ht hW => ⟨⟨1, (fo, ((so, le, gr, ne, si, ou, bo, n, om, ob), (cs, gs, made, pl, kp), ro, wo, lv, e0)), rfl, Or.inr ⟨0, "java/lang/IllegalArgumentException", rfl, rfl, hE, rfl⟩, by rw [ht]; exact hP, hD⟩, hS.F ht⟩) hS.2.2 dL_count_14
  · skip
    have hP : va_P D vwCl (List.flatten [wJ κ qo 1 fo, wX κ q0 q qh qr ql qe u]) H := hP
    have hD : va_D A (List.flatten [wJ κ qo 1 fo, wX κ q0 q qh qr ql qe u]) := hD
    refine lv_i2l (v := Int32.toInt64 r) hx hb dL_count_7 rfl ?_
    refine k_last (D := D) (j := 0) hx hb hK.1 hP hD hS 0 1 rfl rfl (by omega) (by omega) dL_count_8 (fun H locs hP hD hS => ?_)
    have hP : va_P D vwCl (List.flatten [wJ κ qo 1 (vp_updL fo 0 (Int32.toInt64 r)), wX κ q0 q qh qr ql qe u]) H := hP
    have hD : va_D A (List.flatten [wJ κ qo 1 (vp_updL fo 0 (Int32.toInt64 r)), wX κ q0 q qh qr ql qe u]) := hD
    refine lv_goto (tgt := 15) hx hb dL_count_9 (by decide) ?_
    refine lv_iconst (v := 0) hx hb dL_count_15 (by decide) ?_
    exact W.iret (v := 0) hx hb hr (fun t ht hW => ⟨⟨0, (vp_updL fo 0 (Int32.toInt64 r), u), rfl, Or.inl ⟨rfl, r, by show (vp_updL fo 0 (Int32.toInt64 r)) 0 = Int32.toInt64 r; exact pk_uLs, hpo⟩, by rw [ht]; exact hP, hD⟩, hS.F ht⟩) hS.2.2 dL_count_16
