/-! THE LAW, cases 0 to 8 -/
set_option maxHeartbeats 4000000 in
set_option maxRecDepth 100000 in
theorem law_c_input {p : Program} {l : Launch} {e : Env} {s : State} {m : MethodId} {below : List Frame} {meth : Method} {c : Code} {b L : Nat} {xs : Nat → Int32} {D : va_G} {κ : Nat → ClassId} (hst : l.stackTraces = false) (C0 : lw_At p s m meth c b L xs) (hK : k_K D κ s) (hX : k_X (fun q : Nat => s.heap.size ≤ q) s) (hN : k_NC s) (hL : L ≤ 1536) {t : Nat} (ht : 3 * t + 3 ≤ L) {q0 qo : Nat} {q qh qr ql qe qm : Nat → Nat} {so le gr ne si ou bo : Nat → Int32} {n om ob : Nat} {cs : Nat → Nat → Nat} {gs : Nat → KH} {made pl kp : Nat} {ro : Nat → Int64} {wo : Int32} {lv : Nat → Int32} {e0 : KE} {kc : KC} {cp : Nat → Int32} {cn : Nat} {rm : Nat → Int64} {kn th : Int32} {lvm be : Nat → Int32} {fo : Nat → Int64} (hZ : p_Z ((so, le, gr, ne, si, ou, bo, n, om, ob), (cs, gs, made, pl, kp), ro, wo, lv, e0) kc cp cn rm kn) {H : Heap} {locs : List Loc} (hP : va_P D vwCl (List.flatten [wJ κ qo 1 fo, wN κ qm th kc cp cn rm kn lvm be, wX κ q0 q qh qr ql qe ((so, le, gr, ne, si, ou, bo, n, om, ob), (cs, gs, made, pl, kp), ro, wo, lv, e0)]) H) (hD : va_D (fun q : Nat => s.heap.size ≤ q) (List.flatten [wJ κ qo 1 fo, wN κ qm th kc cp cn rm kn lvm be, wX κ q0 q qh qr ql qe ((so, le, gr, ne, si, ou, bo, n, om, ob), (cs, gs, made, pl, kp), ro, wo, lv, e0)])) (hS : va_S (fun q : Nat => s.heap.size ≤ q) s.heap H locs) {ls : Array Slot} (hl : lv_has ls 8 [(0, .ref b), (1, .ref q0), (2, .ref (qm 0)), (3, .ref qo), (4, .int (nI (3 * t)))]) (kk : w_go p l e s m below meth c b D κ t q0 qo q qh qr ql qe qm (200 + 24 * t + 24) (80000 + 2900 * t + 2900) 1058) : W p l e room_1 s m #[Value.ref b] below meth c H locs (200 + 24 * t) (80000 + 2900 * t) (lw_Z below #[Value.ref b] s) (F0 m 124 ls []) := by
  obtain ⟨hx, hb, hr, hml, hown, hts0, hXs, hbl, hlocks, hgv⟩ := C0
  have hts : ∀ w ∈ wsL_law, w.before #[Value.ref b] s = true := fun w hw => hts0 w (wsL_law_in w hw)
  have hA : ∀ q : Nat, s.heap.size ≤ q → (fun q : Nat => s.heap.size ≤ q) q := fun _ h => h
  have hbA : ¬ (fun q : Nat => s.heap.size ≤ q) b := Nat.not_le.mpr hbl
  obtain ⟨en, eo, hN9, hO9, hI⟩ := p_Zo hZ
  obtain ⟨ek, hcn, hpl, hpm, hma, hgs, hH9⟩ : kp = cn ∧ cn ≤ 30 ∧ pl < 30 ∧ pl ≤ made ∧ made ≤ 30 ∧ (∀ k, k < made → k_bG (gs k)) ∧ True := ⟨hZ.2.2.1.1, hZ.2.2.1.2.1, hZ.2.2.1.2.2.1, hZ.2.2.1.2.2.2.1, hZ.2.2.1.2.2.2.2.1, hZ.2.2.1.2.2.2.2.2.1, trivial⟩
  have hnd := hI.1.2.1
  have hoc := hI.1.2.2.1
  have hob := hO9.2.2.2
  have hwo : wo = 0 ∨ wo = 1 := by have e1 : wo = kn := hZ.2.2.2.1; rw [e1]; exact hZ.2.2.2.2.1
  have hown : s.vm.findClass RL = some m.cls := hown
  refine lv_aload_n hx hb dL_law_124 rfl (lv_at hl 1 rfl) ?_
  refine lv_aload_n hx hb dL_law_125 rfl (lv_at hl 3 rfl) ?_
  refine k_cYW (D := D) (κ := κ) (Wl := [wJ κ qo 1 fo, wN κ qm th kc cp cn rm kn lvm be, wX κ q0 q qh qr ql qe ((so, le, gr, ne, si, ou, bo, n, om, ob), (cs, gs, made, pl, kp), ro, wo, lv, e0)]) (Wc := [wJ κ qo 1 fo, wX κ q0 q qh qr ql qe ((so, le, gr, ne, si, ou, bo, n, om, ob), (cs, gs, made, pl, kp), ro, wo, lv, e0)]) (W' := fun u_126 => [wJ κ qo 1 u_126.1, wX κ q0 q qh qr ql qe u_126.2]) (Wn := fun u_126 => [wJ κ qo 1 u_126.1, wN κ qm th kc cp cn rm kn lvm be, wX κ q0 q qh qr ql qe u_126.2]) ⟨hx, hb, hml, hown, hts⟩ (c_L_input l D κ _ q0 qh qr ql qe q so le gr ne si ou bo n om ob cs gs made pl kp ro wo lv e0 qo fo  hst (by omega) (by omega) (by omega) hgs hpl hpm hma (by omega)) (vx_cwSW 2 hts gL_law_L_input rfl rfl rfl (by decide +kernel) ⟨Nat.le_of_ble_eq_true rfl, Nat.le_of_ble_eq_true rfl⟩) hK hX hN hP hD hS hA [0, 2] (by decide) rfl rfl (fun _ => rfl) (fun _ => rfl) (fun _ => rfl) (As := [.ref q0, .ref qo]) (rest := []) rfl rfl hl.1 (Nat.le_of_ble_eq_true rfl) dL_law_126 ⟨(by show 200 + 24 * t + 24 ≤ 601024; omega), (by show 80000 + 2900 * t + 2900 ≤ 7293034; omega)⟩ (fun r_126 u_126 H locs hw_126 hP hD hS => ?_)
  have hP : va_P D vwCl (List.flatten [wJ κ qo 1 u_126.1, wN κ qm th kc cp cn rm kn lvm be, wX κ q0 q qh qr ql qe u_126.2]) H := hP
  have hD : va_D (fun q : Nat => s.heap.size ≤ q) (List.flatten [wJ κ qo 1 u_126.1, wN κ qm th kc cp cn rm kn lvm be, wX κ q0 q qh qr ql qe u_126.2]) := hD
  refine lv_istore (lv' := [(5, .int r_126), (0, .ref b), (1, .ref q0), (2, .ref (qm 0)), (3, .ref qo), (4, .int (nI (3 * t)))]) hx hb dL_law_129 hl (by decide) rfl (fun ls hl => ?_)
  refine lv_aload_n hx hb dL_law_131 rfl (lv_at hl 3 rfl) ?_
  refine k_cSNi (D := D) (κ := κ) (qc := (RX7, TX7, 15)) (ci := 7) (q0 := 0) (Wl := [wJ κ qo 1 u_126.1, wN κ qm th kc cp cn rm kn lvm be, wX κ q0 q qh qr ql qe u_126.2]) (Wc := [wN κ qm th kc cp cn rm kn lvm be]) (W' := fun u_132 => [wN κ qm u_132.1 u_132.2.1 u_132.2.2.1 u_132.2.2.2.1 rm u_132.2.2.2.2 lvm be]) (Wn := fun u_132 => [wJ κ qo 1 u_126.1, wN κ qm u_132.1 u_132.2.1 u_132.2.2.1 u_132.2.2.2.1 rm u_132.2.2.2.2 lvm be, wX κ q0 q qh qr ql qe u_126.2]) ⟨hx, hb, hml, hown, hts⟩ (c_X7_input l D κ _ qm th kc cp cn rm kn lvm be   (by omega) (by omega) (by omega)) (cwV 0 hts gL_law_X7_input rfl rfl rfl (by decide +kernel) ⟨Nat.le_of_ble_eq_true rfl, Nat.le_of_ble_eq_true rfl⟩) hK hP hD hS hA [1] (by decide) rfl (List.flatten_singleton) (fun _ => List.flatten_singleton) rfl rfl (fun _ => rfl) (fun _ => rfl) (As := []) (rest := []) rfl rfl hl.1 (Nat.le_of_ble_eq_true rfl) dL_law_132 ⟨(by show 200 + 24 * t + 24 + 0 ≤ 601024; omega), (by show 80000 + 2900 * t + 2900 + 0 ≤ 7293034; omega)⟩ (fun r_132 u_132 H locs hw_132 hP hD hS => ?_)
  have hP : va_P D vwCl (List.flatten [wJ κ qo 1 u_126.1, wN κ qm u_132.1 u_132.2.1 u_132.2.2.1 u_132.2.2.2.1 rm u_132.2.2.2.2 lvm be, wX κ q0 q qh qr ql qe u_126.2]) H := hP
  have hD : va_D (fun q : Nat => s.heap.size ≤ q) (List.flatten [wJ κ qo 1 u_126.1, wN κ qm u_132.1 u_132.2.1 u_132.2.2.1 u_132.2.2.2.1 rm u_132.2.2.2.2 lvm be, wX κ q0 q qh qr ql qe u_126.2]) := hD
  have hres := p_o_input  hZ hw_126
  rw [← hw_132] at hres
  obtain ⟨g1, g2, g3⟩ := hres
  have hI2 := g3.2.1
  have hc2 := g3.2.2.1.2.1
  have hn2 := hI2.1.2.1
  have ho2 := hI2.1.2.2.1
  refine lv_istore (lv' := [(6, .int r_132), (5, .int r_126), (0, .ref b), (1, .ref q0), (2, .ref (qm 0)), (3, .ref qo), (4, .int (nI (3 * t)))]) hx hb dL_law_135 hl (by decide) rfl (fun ls hl => ?_)
  refine lv_aload_n hx hb dL_law_137 rfl (lv_at hl 4 rfl) ?_
  refine k_cRO (D := D) (κ := κ) (qc := (RX7, TX7, 15)) (ci := 7) (q0 := 0) ⟨hx, hb, hml, hown, hts⟩ (c_X7_thrown l D κ qm u_132.1 u_132.2.1 u_132.2.2.1 u_132.2.2.2.1 rm u_132.2.2.2.2 lvm be (by omega) (by omega) (by omega)) (cwV 0 hts gL_law_X7_thrown rfl rfl rfl (by decide +kernel) ⟨Nat.le_of_ble_eq_true rfl, Nat.le_of_ble_eq_true rfl⟩) hK (k_sub1 (S := wN κ qm u_132.1 u_132.2.1 u_132.2.2.1 u_132.2.2.2.1 rm u_132.2.2.2.2 lvm be) hP 1 rfl) rfl rfl (As := []) (rest := []) rfl rfl hl.1 (Nat.le_of_ble_eq_true rfl) dL_law_138 ⟨(by show 200 + 24 * t + 24 ≤ 601024; omega), (by show 80000 + 2900 * t + 2900 ≤ 7293034; omega)⟩ (fun r9 hr9 => ?_)
  refine lv_topi (nm_r hr9 ?_)
  refine lv_iload hx hb dL_law_141 (lv_at hl 1 rfl) ?_
  refine lv_icmp_eq (tgt := 148) hx hb dL_law_143 (by decide) (fun c_143 => ?_) (fun c_143 => ?_)
  · skip
    refine lv_iload hx hb dL_law_148 (lv_at hl 1 rfl) ?_
    refine lv_if_ne (tgt := 165) hx hb dL_law_150 (by decide) (fun c_150 => ?_) (fun c_150 => ?_)
    · skip
      refine lv_goto (tgt := 1058) hx hb dL_law_165 (by decide) ?_
      exact kk u_126.2 u_132.2.1 u_132.2.2.1 u_132.2.2.2.1 rm u_132.2.2.2.2 u_132.1 lvm be u_126.1 H locs ls g3 hP hD hS (lv_sub hl [2, 3, 4, 5, 6] rfl)
    · skip
      refine lv_aload_n hx hb dL_law_153 rfl (lv_at hl 5 rfl) ?_
      refine lv_iconst (v := 0) hx hb dL_law_154 (by decide) ?_
      refine k_lald (D := D) (j := 0) hx hb hK.1 hP 0 1 rfl rfl (by omega) (by omega) dL_law_155 ?_
      refine lv_iload hx hb dL_law_156 (lv_at hl 0 rfl) ?_
      refine lv_i2l (v := Int32.toInt64 r_132) hx hb dL_law_158 rfl ?_
      refine W.lcmp hx hb dL_law_159 ?_
      refine lv_if_eq (tgt := 165) hx hb dL_law_160 (by decide) (fun c_160 => ?_) (fun c_160 => ?_)
      · skip
        refine lv_goto (tgt := 1058) hx hb dL_law_165 (by decide) ?_
        exact kk u_126.2 u_132.2.1 u_132.2.2.1 u_132.2.2.2.1 rm u_132.2.2.2.2 u_132.1 lvm be u_126.1 H locs ls g3 hP hD hS (lv_sub hl [2, 3, 4, 5, 6] rfl)
      · skip
        exact absurd ((lg_cmp_eq _ _).mpr (g2 c_150)) c_160
  · skip
    exact absurd g1 c_143
set_option maxHeartbeats 4000000 in
set_option maxRecDepth 100000 in
theorem law_c_and {p : Program} {l : Launch} {e : Env} {s : State} {m : MethodId} {below : List Frame} {meth : Method} {c : Code} {b L : Nat} {xs : Nat → Int32} {D : va_G} {κ : Nat → ClassId} (hst : l.stackTraces = false) (C0 : lw_At p s m meth c b L xs) (hK : k_K D κ s) (hX : k_X (fun q : Nat => s.heap.size ≤ q) s) (hN : k_NC s) (hL : L ≤ 1536) {t : Nat} (ht : 3 * t + 3 ≤ L) {q0 qo : Nat} {q qh qr ql qe qm : Nat → Nat} {so le gr ne si ou bo : Nat → Int32} {n om ob : Nat} {cs : Nat → Nat → Nat} {gs : Nat → KH} {made pl kp : Nat} {ro : Nat → Int64} {wo : Int32} {lv : Nat → Int32} {e0 : KE} {kc : KC} {cp : Nat → Int32} {cn : Nat} {rm : Nat → Int64} {kn th : Int32} {lvm be : Nat → Int32} {fo : Nat → Int64} (hZ : p_Z ((so, le, gr, ne, si, ou, bo, n, om, ob), (cs, gs, made, pl, kp), ro, wo, lv, e0) kc cp cn rm kn) {H : Heap} {locs : List Loc} (hP : va_P D vwCl (List.flatten [wJ κ qo 1 fo, wN κ qm th kc cp cn rm kn lvm be, wX κ q0 q qh qr ql qe ((so, le, gr, ne, si, ou, bo, n, om, ob), (cs, gs, made, pl, kp), ro, wo, lv, e0)]) H) (hD : va_D (fun q : Nat => s.heap.size ≤ q) (List.flatten [wJ κ qo 1 fo, wN κ qm th kc cp cn rm kn lvm be, wX κ q0 q qh qr ql qe ((so, le, gr, ne, si, ou, bo, n, om, ob), (cs, gs, made, pl, kp), ro, wo, lv, e0)])) (hS : va_S (fun q : Nat => s.heap.size ≤ q) s.heap H locs) {ls : Array Slot} (hl : lv_has ls 8 [(0, .ref b), (1, .ref q0), (2, .ref (qm 0)), (3, .ref qo), (4, .int (nI (3 * t)))]) (kk : w_go p l e s m below meth c b D κ t q0 qo q qh qr ql qe qm (200 + 24 * t + 24) (80000 + 2900 * t + 2900) 1058) : W p l e room_1 s m #[Value.ref b] below meth c H locs (200 + 24 * t) (80000 + 2900 * t) (lw_Z below #[Value.ref b] s) (F0 m 168 ls []) := by
  obtain ⟨hx, hb, hr, hml, hown, hts0, hXs, hbl, hlocks, hgv⟩ := C0
  have hts : ∀ w ∈ wsL_law, w.before #[Value.ref b] s = true := fun w hw => hts0 w (wsL_law_in w hw)
  have hA : ∀ q : Nat, s.heap.size ≤ q → (fun q : Nat => s.heap.size ≤ q) q := fun _ h => h
  have hbA : ¬ (fun q : Nat => s.heap.size ≤ q) b := Nat.not_le.mpr hbl
  obtain ⟨en, eo, hN9, hO9, hI⟩ := p_Zo hZ
  obtain ⟨ek, hcn, hpl, hpm, hma, hgs, hH9⟩ : kp = cn ∧ cn ≤ 30 ∧ pl < 30 ∧ pl ≤ made ∧ made ≤ 30 ∧ (∀ k, k < made → k_bG (gs k)) ∧ True := ⟨hZ.2.2.1.1, hZ.2.2.1.2.1, hZ.2.2.1.2.2.1, hZ.2.2.1.2.2.2.1, hZ.2.2.1.2.2.2.2.1, hZ.2.2.1.2.2.2.2.2.1, trivial⟩
  have hnd := hI.1.2.1
  have hoc := hI.1.2.2.1
  have hob := hO9.2.2.2
  have hwo : wo = 0 ∨ wo = 1 := by have e1 : wo = kn := hZ.2.2.2.1; rw [e1]; exact hZ.2.2.2.2.1
  have hown : s.vm.findClass RL = some m.cls := hown
  refine lv_aload_n hx hb dL_law_168 rfl (lv_at hl 1 rfl) ?_
  refine lv_aload_n hx hb dL_law_169 rfl (lv_at hl 0 rfl) ?_
  refine lv_iload hx hb dL_law_170 (lv_at hl 4 rfl) ?_
  refine lv_iconst (v := 1) hx hb dL_law_172 (by decide) ?_
  refine lv_iadd hx hb dL_law_173 ?_
  refine lv_topi (nm_r (nI_add (3 * t) 1) ?_)
  refine va_sld hx hb hXs hbl hbA hS (vp_in_nI (show (3 * t) + 1 < L by omega) (by omega)) dL_law_174 ?_
  rw [nI_clamp (show (3 * t) + 1 < 2 ^ 31 by omega)]
  refine lv_aload_n hx hb dL_law_175 rfl (lv_at hl 0 rfl) ?_
  refine lv_iload hx hb dL_law_176 (lv_at hl 4 rfl) ?_
  refine lv_iconst (v := 2) hx hb dL_law_178 (by decide) ?_
  refine lv_iadd hx hb dL_law_179 ?_
  refine lv_topi (nm_r (nI_add (3 * t) 2) ?_)
  refine va_sld hx hb hXs hbl hbA hS (vp_in_nI (show (3 * t) + 2 < L by omega) (by omega)) dL_law_180 ?_
  rw [nI_clamp (show (3 * t) + 2 < 2 ^ 31 by omega)]
  refine lv_aload_n hx hb dL_law_181 rfl (lv_at hl 3 rfl) ?_
  refine k_cYW (D := D) (κ := κ) (Wl := [wJ κ qo 1 fo, wN κ qm th kc cp cn rm kn lvm be, wX κ q0 q qh qr ql qe ((so, le, gr, ne, si, ou, bo, n, om, ob), (cs, gs, made, pl, kp), ro, wo, lv, e0)]) (Wc := [wJ κ qo 1 fo, wX κ q0 q qh qr ql qe ((so, le, gr, ne, si, ou, bo, n, om, ob), (cs, gs, made, pl, kp), ro, wo, lv, e0)]) (W' := fun u_182 => [wJ κ qo 1 u_182.1, wX κ q0 q qh qr ql qe u_182.2]) (Wn := fun u_182 => [wJ κ qo 1 u_182.1, wN κ qm th kc cp cn rm kn lvm be, wX κ q0 q qh qr ql qe u_182.2]) ⟨hx, hb, hml, hown, hts⟩ (c_L_and l D κ _ q0 qh qr ql qe q so le gr ne si ou bo n om ob cs gs made pl kp ro wo lv e0 qo fo (xs ((3 * t) + 1)) (xs ((3 * t) + 2)) hst (by omega) (by omega) (by omega) hgs hpl hpm hma (by omega)) (vx_cwSW 4 hts gL_law_L_and rfl rfl rfl (by decide +kernel) ⟨Nat.le_of_ble_eq_true rfl, Nat.le_of_ble_eq_true rfl⟩) hK hX hN hP hD hS hA [0, 2] (by decide) rfl rfl (fun _ => rfl) (fun _ => rfl) (fun _ => rfl) (As := [.ref q0, .int (xs ((3 * t) + 1)), .int (xs ((3 * t) + 2)), .ref qo]) (rest := []) rfl rfl hl.1 (Nat.le_of_ble_eq_true rfl) dL_law_182 ⟨(by show 200 + 24 * t + 24 ≤ 601024; omega), (by show 80000 + 2900 * t + 2900 ≤ 7293034; omega)⟩ (fun r_182 u_182 H locs hw_182 hP hD hS => ?_)
  have hP : va_P D vwCl (List.flatten [wJ κ qo 1 u_182.1, wN κ qm th kc cp cn rm kn lvm be, wX κ q0 q qh qr ql qe u_182.2]) H := hP
  have hD : va_D (fun q : Nat => s.heap.size ≤ q) (List.flatten [wJ κ qo 1 u_182.1, wN κ qm th kc cp cn rm kn lvm be, wX κ q0 q qh qr ql qe u_182.2]) := hD
  refine lv_istore (lv' := [(5, .int r_182), (0, .ref b), (1, .ref q0), (2, .ref (qm 0)), (3, .ref qo), (4, .int (nI (3 * t)))]) hx hb dL_law_185 hl (by decide) rfl (fun ls hl => ?_)
  refine lv_aload_n hx hb dL_law_187 rfl (lv_at hl 3 rfl) ?_
  refine lv_aload_n hx hb dL_law_188 rfl (lv_at hl 1 rfl) ?_
  refine lv_iload hx hb dL_law_189 (lv_at hl 5 rfl) ?_
  refine lv_iconst (v := 1) hx hb dL_law_191 (by decide) ?_
  refine lv_iadd hx hb dL_law_192 ?_
  refine lv_topi (nm_r (nI_add (3 * t) 1) ?_)
  refine va_sld hx hb hXs hbl hbA hS (vp_in_nI (show (3 * t) + 1 < L by omega) (by omega)) dL_law_193 ?_
  rw [nI_clamp (show (3 * t) + 1 < 2 ^ 31 by omega)]
  refine lv_aload_n hx hb dL_law_194 rfl (lv_at hl 1 rfl) ?_
  refine lv_iload hx hb dL_law_195 (lv_at hl 5 rfl) ?_
  refine lv_iconst (v := 2) hx hb dL_law_197 (by decide) ?_
  refine lv_iadd hx hb dL_law_198 ?_
  refine lv_topi (nm_r (nI_add (3 * t) 2) ?_)
  refine va_sld hx hb hXs hbl hbA hS (vp_in_nI (show (3 * t) + 2 < L by omega) (by omega)) dL_law_199 ?_
  rw [nI_clamp (show (3 * t) + 2 < 2 ^ 31 by omega)]
  refine k_cSNi (D := D) (κ := κ) (qc := (RX7, TX7, 15)) (ci := 7) (q0 := 0) (Wl := [wJ κ qo 1 u_182.1, wN κ qm th kc cp cn rm kn lvm be, wX κ q0 q qh qr ql qe u_182.2]) (Wc := [wN κ qm th kc cp cn rm kn lvm be]) (W' := fun u_200 => [wN κ qm u_200.1 u_200.2.1 u_200.2.2.1 u_200.2.2.2.1 rm u_200.2.2.2.2 lvm be]) (Wn := fun u_200 => [wJ κ qo 1 u_182.1, wN κ qm u_200.1 u_200.2.1 u_200.2.2.1 u_200.2.2.2.1 rm u_200.2.2.2.2 lvm be, wX κ q0 q qh qr ql qe u_182.2]) ⟨hx, hb, hml, hown, hts⟩ (c_X7_and l D κ _ qm th kc cp cn rm kn lvm be (xs ((3 * t) + 1)) (xs ((3 * t) + 2))  (by omega) (by omega) (by omega) (p_hlt hI)) (cwV 2 hts gL_law_X7_and rfl rfl rfl (by decide +kernel) ⟨Nat.le_of_ble_eq_true rfl, Nat.le_of_ble_eq_true rfl⟩) hK hP hD hS hA [1] (by decide) rfl (List.flatten_singleton) (fun _ => List.flatten_singleton) rfl rfl (fun _ => rfl) (fun _ => rfl) (As := [.int (xs ((3 * t) + 1)), .int (xs ((3 * t) + 2))]) (rest := []) rfl rfl hl.1 (Nat.le_of_ble_eq_true rfl) dL_law_200 ⟨(by show 200 + 24 * t + 24 + 0 ≤ 601024; omega), (by show 80000 + 2900 * t + 2900 + 0 ≤ 7293034; omega)⟩ (fun r_200 u_200 H locs hw_200 hP hD hS => ?_)
  have hP : va_P D vwCl (List.flatten [wJ κ qo 1 u_182.1, wN κ qm u_200.1 u_200.2.1 u_200.2.2.1 u_200.2.2.2.1 rm u_200.2.2.2.2 lvm be, wX κ q0 q qh qr ql qe u_182.2]) H := hP
  have hD : va_D (fun q : Nat => s.heap.size ≤ q) (List.flatten [wJ κ qo 1 u_182.1, wN κ qm u_200.1 u_200.2.1 u_200.2.2.1 u_200.2.2.2.1 rm u_200.2.2.2.2 lvm be, wX κ q0 q qh qr ql qe u_182.2]) := hD
  have hres := p_o_and (xs ((3 * t) + 1)) (xs ((3 * t) + 2)) hZ hw_182
  rw [← hw_200] at hres
  obtain ⟨g1, g2, g3⟩ := hres
  have hI2 := g3.2.1
  have hc2 := g3.2.2.1.2.1
  have hn2 := hI2.1.2.1
  have ho2 := hI2.1.2.2.1
  refine lv_istore (lv' := [(6, .int r_200), (5, .int r_182), (0, .ref b), (1, .ref q0), (2, .ref (qm 0)), (3, .ref qo), (4, .int (nI (3 * t)))]) hx hb dL_law_203 hl (by decide) rfl (fun ls hl => ?_)
  refine lv_aload_n hx hb dL_law_205 rfl (lv_at hl 4 rfl) ?_
  refine k_cRO (D := D) (κ := κ) (qc := (RX7, TX7, 15)) (ci := 7) (q0 := 0) ⟨hx, hb, hml, hown, hts⟩ (c_X7_thrown l D κ qm u_200.1 u_200.2.1 u_200.2.2.1 u_200.2.2.2.1 rm u_200.2.2.2.2 lvm be (by omega) (by omega) (by omega)) (cwV 0 hts gL_law_X7_thrown rfl rfl rfl (by decide +kernel) ⟨Nat.le_of_ble_eq_true rfl, Nat.le_of_ble_eq_true rfl⟩) hK (k_sub1 (S := wN κ qm u_200.1 u_200.2.1 u_200.2.2.1 u_200.2.2.2.1 rm u_200.2.2.2.2 lvm be) hP 1 rfl) rfl rfl (As := []) (rest := []) rfl rfl hl.1 (Nat.le_of_ble_eq_true rfl) dL_law_206 ⟨(by show 200 + 24 * t + 24 ≤ 601024; omega), (by show 80000 + 2900 * t + 2900 ≤ 7293034; omega)⟩ (fun r9 hr9 => ?_)
  refine lv_topi (nm_r hr9 ?_)
  refine lv_iload hx hb dL_law_209 (lv_at hl 1 rfl) ?_
  refine lv_icmp_eq (tgt := 216) hx hb dL_law_211 (by decide) (fun c_211 => ?_) (fun c_211 => ?_)
  · skip
    refine lv_iload hx hb dL_law_216 (lv_at hl 1 rfl) ?_
    refine lv_if_ne (tgt := 233) hx hb dL_law_218 (by decide) (fun c_218 => ?_) (fun c_218 => ?_)
    · skip
      refine lv_goto (tgt := 1058) hx hb dL_law_233 (by decide) ?_
      exact kk u_182.2 u_200.2.1 u_200.2.2.1 u_200.2.2.2.1 rm u_200.2.2.2.2 u_200.1 lvm be u_182.1 H locs ls g3 hP hD hS (lv_sub hl [2, 3, 4, 5, 6] rfl)
    · skip
      refine lv_aload_n hx hb dL_law_221 rfl (lv_at hl 5 rfl) ?_
      refine lv_iconst (v := 0) hx hb dL_law_222 (by decide) ?_
      refine k_lald (D := D) (j := 0) hx hb hK.1 hP 0 1 rfl rfl (by omega) (by omega) dL_law_223 ?_
      refine lv_iload hx hb dL_law_224 (lv_at hl 0 rfl) ?_
      refine lv_i2l (v := Int32.toInt64 r_200) hx hb dL_law_226 rfl ?_
      refine W.lcmp hx hb dL_law_227 ?_
      refine lv_if_eq (tgt := 233) hx hb dL_law_228 (by decide) (fun c_228 => ?_) (fun c_228 => ?_)
      · skip
        refine lv_goto (tgt := 1058) hx hb dL_law_233 (by decide) ?_
        exact kk u_182.2 u_200.2.1 u_200.2.2.1 u_200.2.2.2.1 rm u_200.2.2.2.2 u_200.1 lvm be u_182.1 H locs ls g3 hP hD hS (lv_sub hl [2, 3, 4, 5, 6] rfl)
      · skip
        exact absurd ((lg_cmp_eq _ _).mpr (g2 c_218)) c_228
  · skip
    exact absurd g1 c_211
set_option maxHeartbeats 4000000 in
set_option maxRecDepth 100000 in
theorem law_c_output {p : Program} {l : Launch} {e : Env} {s : State} {m : MethodId} {below : List Frame} {meth : Method} {c : Code} {b L : Nat} {xs : Nat → Int32} {D : va_G} {κ : Nat → ClassId} (hst : l.stackTraces = false) (C0 : lw_At p s m meth c b L xs) (hK : k_K D κ s) (hX : k_X (fun q : Nat => s.heap.size ≤ q) s) (hN : k_NC s) (hL : L ≤ 1536) {t : Nat} (ht : 3 * t + 3 ≤ L) {q0 qo : Nat} {q qh qr ql qe qm : Nat → Nat} {so le gr ne si ou bo : Nat → Int32} {n om ob : Nat} {cs : Nat → Nat → Nat} {gs : Nat → KH} {made pl kp : Nat} {ro : Nat → Int64} {wo : Int32} {lv : Nat → Int32} {e0 : KE} {kc : KC} {cp : Nat → Int32} {cn : Nat} {rm : Nat → Int64} {kn th : Int32} {lvm be : Nat → Int32} {fo : Nat → Int64} (hZ : p_Z ((so, le, gr, ne, si, ou, bo, n, om, ob), (cs, gs, made, pl, kp), ro, wo, lv, e0) kc cp cn rm kn) {H : Heap} {locs : List Loc} (hP : va_P D vwCl (List.flatten [wJ κ qo 1 fo, wN κ qm th kc cp cn rm kn lvm be, wX κ q0 q qh qr ql qe ((so, le, gr, ne, si, ou, bo, n, om, ob), (cs, gs, made, pl, kp), ro, wo, lv, e0)]) H) (hD : va_D (fun q : Nat => s.heap.size ≤ q) (List.flatten [wJ κ qo 1 fo, wN κ qm th kc cp cn rm kn lvm be, wX κ q0 q qh qr ql qe ((so, le, gr, ne, si, ou, bo, n, om, ob), (cs, gs, made, pl, kp), ro, wo, lv, e0)])) (hS : va_S (fun q : Nat => s.heap.size ≤ q) s.heap H locs) {ls : Array Slot} (hl : lv_has ls 8 [(0, .ref b), (1, .ref q0), (2, .ref (qm 0)), (3, .ref qo), (4, .int (nI (3 * t)))]) (kk : w_go p l e s m below meth c b D κ t q0 qo q qh qr ql qe qm (200 + 24 * t + 24) (80000 + 2900 * t + 2900) 1058) : W p l e room_1 s m #[Value.ref b] below meth c H locs (200 + 24 * t) (80000 + 2900 * t) (lw_Z below #[Value.ref b] s) (F0 m 236 ls []) := by
  obtain ⟨hx, hb, hr, hml, hown, hts0, hXs, hbl, hlocks, hgv⟩ := C0
  have hts : ∀ w ∈ wsL_law, w.before #[Value.ref b] s = true := fun w hw => hts0 w (wsL_law_in w hw)
  have hA : ∀ q : Nat, s.heap.size ≤ q → (fun q : Nat => s.heap.size ≤ q) q := fun _ h => h
  have hbA : ¬ (fun q : Nat => s.heap.size ≤ q) b := Nat.not_le.mpr hbl
  obtain ⟨en, eo, hN9, hO9, hI⟩ := p_Zo hZ
  obtain ⟨ek, hcn, hpl, hpm, hma, hgs, hH9⟩ : kp = cn ∧ cn ≤ 30 ∧ pl < 30 ∧ pl ≤ made ∧ made ≤ 30 ∧ (∀ k, k < made → k_bG (gs k)) ∧ True := ⟨hZ.2.2.1.1, hZ.2.2.1.2.1, hZ.2.2.1.2.2.1, hZ.2.2.1.2.2.2.1, hZ.2.2.1.2.2.2.2.1, hZ.2.2.1.2.2.2.2.2.1, trivial⟩
  have hnd := hI.1.2.1
  have hoc := hI.1.2.2.1
  have hob := hO9.2.2.2
  have hwo : wo = 0 ∨ wo = 1 := by have e1 : wo = kn := hZ.2.2.2.1; rw [e1]; exact hZ.2.2.2.2.1
  have hown : s.vm.findClass RL = some m.cls := hown
  refine lv_aload_n hx hb dL_law_236 rfl (lv_at hl 1 rfl) ?_
  refine lv_aload_n hx hb dL_law_237 rfl (lv_at hl 0 rfl) ?_
  refine lv_iload hx hb dL_law_238 (lv_at hl 4 rfl) ?_
  refine lv_iconst (v := 1) hx hb dL_law_240 (by decide) ?_
  refine lv_iadd hx hb dL_law_241 ?_
  refine lv_topi (nm_r (nI_add (3 * t) 1) ?_)
  refine va_sld hx hb hXs hbl hbA hS (vp_in_nI (show (3 * t) + 1 < L by omega) (by omega)) dL_law_242 ?_
  rw [nI_clamp (show (3 * t) + 1 < 2 ^ 31 by omega)]
  refine lv_aload_n hx hb dL_law_243 rfl (lv_at hl 3 rfl) ?_
  refine k_cYW (D := D) (κ := κ) (Wl := [wJ κ qo 1 fo, wN κ qm th kc cp cn rm kn lvm be, wX κ q0 q qh qr ql qe ((so, le, gr, ne, si, ou, bo, n, om, ob), (cs, gs, made, pl, kp), ro, wo, lv, e0)]) (Wc := [wJ κ qo 1 fo, wX κ q0 q qh qr ql qe ((so, le, gr, ne, si, ou, bo, n, om, ob), (cs, gs, made, pl, kp), ro, wo, lv, e0)]) (W' := fun u_244 => [wJ κ qo 1 u_244.1, wX κ q0 q qh qr ql qe u_244.2]) (Wn := fun u_244 => [wJ κ qo 1 u_244.1, wN κ qm th kc cp cn rm kn lvm be, wX κ q0 q qh qr ql qe u_244.2]) ⟨hx, hb, hml, hown, hts⟩ (c_L_output l D κ _ q0 qh qr ql qe q so le gr ne si ou bo n om ob cs gs made pl kp ro wo lv e0 qo fo (xs ((3 * t) + 1)) hst (by omega) (by omega) (by omega) hgs hpl hpm hma (by omega)) (vx_cwSW 3 hts gL_law_L_output rfl rfl rfl (by decide +kernel) ⟨Nat.le_of_ble_eq_true rfl, Nat.le_of_ble_eq_true rfl⟩) hK hX hN hP hD hS hA [0, 2] (by decide) rfl rfl (fun _ => rfl) (fun _ => rfl) (fun _ => rfl) (As := [.ref q0, .int (xs ((3 * t) + 1)), .ref qo]) (rest := []) rfl rfl hl.1 (Nat.le_of_ble_eq_true rfl) dL_law_244 ⟨(by show 200 + 24 * t + 24 ≤ 601024; omega), (by show 80000 + 2900 * t + 2900 ≤ 7293034; omega)⟩ (fun r_244 u_244 H locs hw_244 hP hD hS => ?_)
  have hP : va_P D vwCl (List.flatten [wJ κ qo 1 u_244.1, wN κ qm th kc cp cn rm kn lvm be, wX κ q0 q qh qr ql qe u_244.2]) H := hP
  have hD : va_D (fun q : Nat => s.heap.size ≤ q) (List.flatten [wJ κ qo 1 u_244.1, wN κ qm th kc cp cn rm kn lvm be, wX κ q0 q qh qr ql qe u_244.2]) := hD
  refine lv_istore (lv' := [(5, .int r_244), (0, .ref b), (1, .ref q0), (2, .ref (qm 0)), (3, .ref qo), (4, .int (nI (3 * t)))]) hx hb dL_law_247 hl (by decide) rfl (fun ls hl => ?_)
  refine lv_aload_n hx hb dL_law_249 rfl (lv_at hl 3 rfl) ?_
  refine lv_aload_n hx hb dL_law_250 rfl (lv_at hl 1 rfl) ?_
  refine lv_iload hx hb dL_law_251 (lv_at hl 5 rfl) ?_
  refine lv_iconst (v := 1) hx hb dL_law_253 (by decide) ?_
  refine lv_iadd hx hb dL_law_254 ?_
  refine lv_topi (nm_r (nI_add (3 * t) 1) ?_)
  refine va_sld hx hb hXs hbl hbA hS (vp_in_nI (show (3 * t) + 1 < L by omega) (by omega)) dL_law_255 ?_
  rw [nI_clamp (show (3 * t) + 1 < 2 ^ 31 by omega)]
  refine k_cSNi (D := D) (κ := κ) (qc := (RX7, TX7, 15)) (ci := 7) (q0 := 0) (Wl := [wJ κ qo 1 u_244.1, wN κ qm th kc cp cn rm kn lvm be, wX κ q0 q qh qr ql qe u_244.2]) (Wc := [wN κ qm th kc cp cn rm kn lvm be]) (W' := fun u_256 => [wN κ qm u_256.1 u_256.2.1 u_256.2.2.1 u_256.2.2.2.1 rm u_256.2.2.2.2 lvm be]) (Wn := fun u_256 => [wJ κ qo 1 u_244.1, wN κ qm u_256.1 u_256.2.1 u_256.2.2.1 u_256.2.2.2.1 rm u_256.2.2.2.2 lvm be, wX κ q0 q qh qr ql qe u_244.2]) ⟨hx, hb, hml, hown, hts⟩ (c_X7_output l D κ _ qm th kc cp cn rm kn lvm be (xs ((3 * t) + 1))  (by omega) (by omega) (by omega)) (cwV 1 hts gL_law_X7_output rfl rfl rfl (by decide +kernel) ⟨Nat.le_of_ble_eq_true rfl, Nat.le_of_ble_eq_true rfl⟩) hK hP hD hS hA [1] (by decide) rfl (List.flatten_singleton) (fun _ => List.flatten_singleton) rfl rfl (fun _ => rfl) (fun _ => rfl) (As := [.int (xs ((3 * t) + 1))]) (rest := []) rfl rfl hl.1 (Nat.le_of_ble_eq_true rfl) dL_law_256 ⟨(by show 200 + 24 * t + 24 + 0 ≤ 601024; omega), (by show 80000 + 2900 * t + 2900 + 0 ≤ 7293034; omega)⟩ (fun r_256 u_256 H locs hw_256 hP hD hS => ?_)
  have hP : va_P D vwCl (List.flatten [wJ κ qo 1 u_244.1, wN κ qm u_256.1 u_256.2.1 u_256.2.2.1 u_256.2.2.2.1 rm u_256.2.2.2.2 lvm be, wX κ q0 q qh qr ql qe u_244.2]) H := hP
  have hD : va_D (fun q : Nat => s.heap.size ≤ q) (List.flatten [wJ κ qo 1 u_244.1, wN κ qm u_256.1 u_256.2.1 u_256.2.2.1 u_256.2.2.2.1 rm u_256.2.2.2.2 lvm be, wX κ q0 q qh qr ql qe u_244.2]) := hD
  have hres := p_o_output (xs ((3 * t) + 1)) hZ hw_244
  rw [← hw_256] at hres
  obtain ⟨g1, g2, g3⟩ := hres
  have hI2 := g3.2.1
  have hc2 := g3.2.2.1.2.1
  have hn2 := hI2.1.2.1
  have ho2 := hI2.1.2.2.1
  refine lv_istore (lv' := [(6, .int r_256), (5, .int r_244), (0, .ref b), (1, .ref q0), (2, .ref (qm 0)), (3, .ref qo), (4, .int (nI (3 * t)))]) hx hb dL_law_259 hl (by decide) rfl (fun ls hl => ?_)
  refine lv_aload_n hx hb dL_law_261 rfl (lv_at hl 4 rfl) ?_
  refine k_cRO (D := D) (κ := κ) (qc := (RX7, TX7, 15)) (ci := 7) (q0 := 0) ⟨hx, hb, hml, hown, hts⟩ (c_X7_thrown l D κ qm u_256.1 u_256.2.1 u_256.2.2.1 u_256.2.2.2.1 rm u_256.2.2.2.2 lvm be (by omega) (by omega) (by omega)) (cwV 0 hts gL_law_X7_thrown rfl rfl rfl (by decide +kernel) ⟨Nat.le_of_ble_eq_true rfl, Nat.le_of_ble_eq_true rfl⟩) hK (k_sub1 (S := wN κ qm u_256.1 u_256.2.1 u_256.2.2.1 u_256.2.2.2.1 rm u_256.2.2.2.2 lvm be) hP 1 rfl) rfl rfl (As := []) (rest := []) rfl rfl hl.1 (Nat.le_of_ble_eq_true rfl) dL_law_262 ⟨(by show 200 + 24 * t + 24 ≤ 601024; omega), (by show 80000 + 2900 * t + 2900 ≤ 7293034; omega)⟩ (fun r9 hr9 => ?_)
  refine lv_topi (nm_r hr9 ?_)
  refine lv_iload hx hb dL_law_265 (lv_at hl 1 rfl) ?_
  refine lv_icmp_eq (tgt := 272) hx hb dL_law_267 (by decide) (fun c_267 => ?_) (fun c_267 => ?_)
  · skip
    refine lv_iload hx hb dL_law_272 (lv_at hl 1 rfl) ?_
    refine lv_if_ne (tgt := 289) hx hb dL_law_274 (by decide) (fun c_274 => ?_) (fun c_274 => ?_)
    · skip
      refine lv_goto (tgt := 1058) hx hb dL_law_289 (by decide) ?_
      exact kk u_244.2 u_256.2.1 u_256.2.2.1 u_256.2.2.2.1 rm u_256.2.2.2.2 u_256.1 lvm be u_244.1 H locs ls g3 hP hD hS (lv_sub hl [2, 3, 4, 5, 6] rfl)
    · skip
      refine lv_aload_n hx hb dL_law_277 rfl (lv_at hl 5 rfl) ?_
      refine lv_iconst (v := 0) hx hb dL_law_278 (by decide) ?_
      refine k_lald (D := D) (j := 0) hx hb hK.1 hP 0 1 rfl rfl (by omega) (by omega) dL_law_279 ?_
      refine lv_iload hx hb dL_law_280 (lv_at hl 0 rfl) ?_
      refine lv_i2l (v := Int32.toInt64 r_256) hx hb dL_law_282 rfl ?_
      refine W.lcmp hx hb dL_law_283 ?_
      refine lv_if_eq (tgt := 289) hx hb dL_law_284 (by decide) (fun c_284 => ?_) (fun c_284 => ?_)
      · skip
        refine lv_goto (tgt := 1058) hx hb dL_law_289 (by decide) ?_
        exact kk u_244.2 u_256.2.1 u_256.2.2.1 u_256.2.2.2.1 rm u_256.2.2.2.2 u_256.1 lvm be u_244.1 H locs ls g3 hP hD hS (lv_sub hl [2, 3, 4, 5, 6] rfl)
      · skip
        exact absurd ((lg_cmp_eq _ _).mpr (g2 c_274)) c_284
  · skip
    exact absurd g1 c_267
set_option maxHeartbeats 4000000 in
set_option maxRecDepth 100000 in
theorem law_c_outputAt {p : Program} {l : Launch} {e : Env} {s : State} {m : MethodId} {below : List Frame} {meth : Method} {c : Code} {b L : Nat} {xs : Nat → Int32} {D : va_G} {κ : Nat → ClassId} (hst : l.stackTraces = false) (C0 : lw_At p s m meth c b L xs) (hK : k_K D κ s) (hX : k_X (fun q : Nat => s.heap.size ≤ q) s) (hN : k_NC s) (hL : L ≤ 1536) {t : Nat} (ht : 3 * t + 3 ≤ L) {q0 qo : Nat} {q qh qr ql qe qm : Nat → Nat} {so le gr ne si ou bo : Nat → Int32} {n om ob : Nat} {cs : Nat → Nat → Nat} {gs : Nat → KH} {made pl kp : Nat} {ro : Nat → Int64} {wo : Int32} {lv : Nat → Int32} {e0 : KE} {kc : KC} {cp : Nat → Int32} {cn : Nat} {rm : Nat → Int64} {kn th : Int32} {lvm be : Nat → Int32} {fo : Nat → Int64} (hZ : p_Z ((so, le, gr, ne, si, ou, bo, n, om, ob), (cs, gs, made, pl, kp), ro, wo, lv, e0) kc cp cn rm kn) {H : Heap} {locs : List Loc} (hP : va_P D vwCl (List.flatten [wJ κ qo 1 fo, wN κ qm th kc cp cn rm kn lvm be, wX κ q0 q qh qr ql qe ((so, le, gr, ne, si, ou, bo, n, om, ob), (cs, gs, made, pl, kp), ro, wo, lv, e0)]) H) (hD : va_D (fun q : Nat => s.heap.size ≤ q) (List.flatten [wJ κ qo 1 fo, wN κ qm th kc cp cn rm kn lvm be, wX κ q0 q qh qr ql qe ((so, le, gr, ne, si, ou, bo, n, om, ob), (cs, gs, made, pl, kp), ro, wo, lv, e0)])) (hS : va_S (fun q : Nat => s.heap.size ≤ q) s.heap H locs) {ls : Array Slot} (hl : lv_has ls 8 [(0, .ref b), (1, .ref q0), (2, .ref (qm 0)), (3, .ref qo), (4, .int (nI (3 * t)))]) (kk : w_go p l e s m below meth c b D κ t q0 qo q qh qr ql qe qm (200 + 24 * t + 24) (80000 + 2900 * t + 2900) 1058) : W p l e room_1 s m #[Value.ref b] below meth c H locs (200 + 24 * t) (80000 + 2900 * t) (lw_Z below #[Value.ref b] s) (F0 m 292 ls []) := by
  obtain ⟨hx, hb, hr, hml, hown, hts0, hXs, hbl, hlocks, hgv⟩ := C0
  have hts : ∀ w ∈ wsL_law, w.before #[Value.ref b] s = true := fun w hw => hts0 w (wsL_law_in w hw)
  have hA : ∀ q : Nat, s.heap.size ≤ q → (fun q : Nat => s.heap.size ≤ q) q := fun _ h => h
  have hbA : ¬ (fun q : Nat => s.heap.size ≤ q) b := Nat.not_le.mpr hbl
  obtain ⟨en, eo, hN9, hO9, hI⟩ := p_Zo hZ
  obtain ⟨ek, hcn, hpl, hpm, hma, hgs, hH9⟩ : kp = cn ∧ cn ≤ 30 ∧ pl < 30 ∧ pl ≤ made ∧ made ≤ 30 ∧ (∀ k, k < made → k_bG (gs k)) ∧ True := ⟨hZ.2.2.1.1, hZ.2.2.1.2.1, hZ.2.2.1.2.2.1, hZ.2.2.1.2.2.2.1, hZ.2.2.1.2.2.2.2.1, hZ.2.2.1.2.2.2.2.2.1, trivial⟩
  have hnd := hI.1.2.1
  have hoc := hI.1.2.2.1
  have hob := hO9.2.2.2
  have hwo : wo = 0 ∨ wo = 1 := by have e1 : wo = kn := hZ.2.2.2.1; rw [e1]; exact hZ.2.2.2.2.1
  have hown : s.vm.findClass RL = some m.cls := hown
  refine lv_aload_n hx hb dL_law_292 rfl (lv_at hl 1 rfl) ?_
  refine lv_aload_n hx hb dL_law_293 rfl (lv_at hl 0 rfl) ?_
  refine lv_iload hx hb dL_law_294 (lv_at hl 4 rfl) ?_
  refine lv_iconst (v := 1) hx hb dL_law_296 (by decide) ?_
  refine lv_iadd hx hb dL_law_297 ?_
  refine lv_topi (nm_r (nI_add (3 * t) 1) ?_)
  refine va_sld hx hb hXs hbl hbA hS (vp_in_nI (show (3 * t) + 1 < L by omega) (by omega)) dL_law_298 ?_
  rw [nI_clamp (show (3 * t) + 1 < 2 ^ 31 by omega)]
  refine lv_aload_n hx hb dL_law_299 rfl (lv_at hl 3 rfl) ?_
  refine k_cYW (D := D) (κ := κ) (Wl := [wJ κ qo 1 fo, wN κ qm th kc cp cn rm kn lvm be, wX κ q0 q qh qr ql qe ((so, le, gr, ne, si, ou, bo, n, om, ob), (cs, gs, made, pl, kp), ro, wo, lv, e0)]) (Wc := [wJ κ qo 1 fo, wX κ q0 q qh qr ql qe ((so, le, gr, ne, si, ou, bo, n, om, ob), (cs, gs, made, pl, kp), ro, wo, lv, e0)]) (W' := fun u_300 => [wJ κ qo 1 u_300.1, wX κ q0 q qh qr ql qe u_300.2]) (Wn := fun u_300 => [wJ κ qo 1 u_300.1, wN κ qm th kc cp cn rm kn lvm be, wX κ q0 q qh qr ql qe u_300.2]) ⟨hx, hb, hml, hown, hts⟩ (c_L_outputAt l D κ _ q0 qh qr ql qe q so le gr ne si ou bo n om ob cs gs made pl kp ro wo lv e0 qo fo (xs ((3 * t) + 1)) hst (by omega) (by omega) (by omega) hgs hpl hpm hma (by omega)) (vx_cwSW 3 hts gL_law_L_outputAt rfl rfl rfl (by decide +kernel) ⟨Nat.le_of_ble_eq_true rfl, Nat.le_of_ble_eq_true rfl⟩) hK hX hN hP hD hS hA [0, 2] (by decide) rfl rfl (fun _ => rfl) (fun _ => rfl) (fun _ => rfl) (As := [.ref q0, .int (xs ((3 * t) + 1)), .ref qo]) (rest := []) rfl rfl hl.1 (Nat.le_of_ble_eq_true rfl) dL_law_300 ⟨(by show 200 + 24 * t + 24 ≤ 601024; omega), (by show 80000 + 2900 * t + 2900 ≤ 7293034; omega)⟩ (fun r_300 u_300 H locs hw_300 hP hD hS => ?_)
  have hP : va_P D vwCl (List.flatten [wJ κ qo 1 u_300.1, wN κ qm th kc cp cn rm kn lvm be, wX κ q0 q qh qr ql qe u_300.2]) H := hP
  have hD : va_D (fun q : Nat => s.heap.size ≤ q) (List.flatten [wJ κ qo 1 u_300.1, wN κ qm th kc cp cn rm kn lvm be, wX κ q0 q qh qr ql qe u_300.2]) := hD
  refine lv_istore (lv' := [(5, .int r_300), (0, .ref b), (1, .ref q0), (2, .ref (qm 0)), (3, .ref qo), (4, .int (nI (3 * t)))]) hx hb dL_law_303 hl (by decide) rfl (fun ls hl => ?_)
  refine lv_aload_n hx hb dL_law_305 rfl (lv_at hl 3 rfl) ?_
  refine lv_aload_n hx hb dL_law_306 rfl (lv_at hl 1 rfl) ?_
  refine lv_iload hx hb dL_law_307 (lv_at hl 5 rfl) ?_
  refine lv_iconst (v := 1) hx hb dL_law_309 (by decide) ?_
  refine lv_iadd hx hb dL_law_310 ?_
  refine lv_topi (nm_r (nI_add (3 * t) 1) ?_)
  refine va_sld hx hb hXs hbl hbA hS (vp_in_nI (show (3 * t) + 1 < L by omega) (by omega)) dL_law_311 ?_
  rw [nI_clamp (show (3 * t) + 1 < 2 ^ 31 by omega)]
  refine k_cSNi (D := D) (κ := κ) (qc := (RX7, TX7, 15)) (ci := 7) (q0 := 0) (Wl := [wJ κ qo 1 u_300.1, wN κ qm th kc cp cn rm kn lvm be, wX κ q0 q qh qr ql qe u_300.2]) (Wc := [wN κ qm th kc cp cn rm kn lvm be]) (W' := fun u_312 => [wN κ qm u_312 kc cp cn rm kn lvm be]) (Wn := fun u_312 => [wJ κ qo 1 u_300.1, wN κ qm u_312 kc cp cn rm kn lvm be, wX κ q0 q qh qr ql qe u_300.2]) ⟨hx, hb, hml, hown, hts⟩ (c_X7_outputAt l D κ _ qm th kc cp cn rm kn lvm be (xs ((3 * t) + 1))  (by omega) (by omega) (by omega)) (cwV 1 hts gL_law_X7_outputAt rfl rfl rfl (by decide +kernel) ⟨Nat.le_of_ble_eq_true rfl, Nat.le_of_ble_eq_true rfl⟩) hK hP hD hS hA [1] (by decide) rfl (List.flatten_singleton) (fun _ => List.flatten_singleton) rfl rfl (fun _ => rfl) (fun _ => rfl) (As := [.int (xs ((3 * t) + 1))]) (rest := []) rfl rfl hl.1 (Nat.le_of_ble_eq_true rfl) dL_law_312 ⟨(by show 200 + 24 * t + 24 + 0 ≤ 601024; omega), (by show 80000 + 2900 * t + 2900 + 0 ≤ 7293034; omega)⟩ (fun r_312 u_312 H locs hw_312 hP hD hS => ?_)
  have hP : va_P D vwCl (List.flatten [wJ κ qo 1 u_300.1, wN κ qm u_312 kc cp cn rm kn lvm be, wX κ q0 q qh qr ql qe u_300.2]) H := hP
  have hD : va_D (fun q : Nat => s.heap.size ≤ q) (List.flatten [wJ κ qo 1 u_300.1, wN κ qm u_312 kc cp cn rm kn lvm be, wX κ q0 q qh qr ql qe u_300.2]) := hD
  have hres := p_o_outputAt (xs ((3 * t) + 1)) hZ hw_300
  rw [← hw_312] at hres
  obtain ⟨g1, g2, g3⟩ := hres
  have hI2 := g3.2.1
  have hc2 := g3.2.2.1.2.1
  have hn2 := hI2.1.2.1
  have ho2 := hI2.1.2.2.1
  refine lv_istore (lv' := [(6, .int r_312), (5, .int r_300), (0, .ref b), (1, .ref q0), (2, .ref (qm 0)), (3, .ref qo), (4, .int (nI (3 * t)))]) hx hb dL_law_315 hl (by decide) rfl (fun ls hl => ?_)
  refine lv_aload_n hx hb dL_law_317 rfl (lv_at hl 4 rfl) ?_
  refine k_cRO (D := D) (κ := κ) (qc := (RX7, TX7, 15)) (ci := 7) (q0 := 0) ⟨hx, hb, hml, hown, hts⟩ (c_X7_thrown l D κ qm u_312 kc cp cn rm kn lvm be (by omega) (by omega) (by omega)) (cwV 0 hts gL_law_X7_thrown rfl rfl rfl (by decide +kernel) ⟨Nat.le_of_ble_eq_true rfl, Nat.le_of_ble_eq_true rfl⟩) hK (k_sub1 (S := wN κ qm u_312 kc cp cn rm kn lvm be) hP 1 rfl) rfl rfl (As := []) (rest := []) rfl rfl hl.1 (Nat.le_of_ble_eq_true rfl) dL_law_318 ⟨(by show 200 + 24 * t + 24 ≤ 601024; omega), (by show 80000 + 2900 * t + 2900 ≤ 7293034; omega)⟩ (fun r9 hr9 => ?_)
  refine lv_topi (nm_r hr9 ?_)
  refine lv_iload hx hb dL_law_321 (lv_at hl 1 rfl) ?_
  refine lv_icmp_eq (tgt := 328) hx hb dL_law_323 (by decide) (fun c_323 => ?_) (fun c_323 => ?_)
  · skip
    refine lv_iload hx hb dL_law_328 (lv_at hl 1 rfl) ?_
    refine lv_if_ne (tgt := 345) hx hb dL_law_330 (by decide) (fun c_330 => ?_) (fun c_330 => ?_)
    · skip
      refine lv_goto (tgt := 1058) hx hb dL_law_345 (by decide) ?_
      exact kk u_300.2 kc cp cn rm kn u_312 lvm be u_300.1 H locs ls g3 hP hD hS (lv_sub hl [2, 3, 4, 5, 6] rfl)
    · skip
      refine lv_aload_n hx hb dL_law_333 rfl (lv_at hl 5 rfl) ?_
      refine lv_iconst (v := 0) hx hb dL_law_334 (by decide) ?_
      refine k_lald (D := D) (j := 0) hx hb hK.1 hP 0 1 rfl rfl (by omega) (by omega) dL_law_335 ?_
      refine lv_iload hx hb dL_law_336 (lv_at hl 0 rfl) ?_
      refine lv_i2l (v := Int32.toInt64 r_312) hx hb dL_law_338 rfl ?_
      refine W.lcmp hx hb dL_law_339 ?_
      refine lv_if_eq (tgt := 345) hx hb dL_law_340 (by decide) (fun c_340 => ?_) (fun c_340 => ?_)
      · skip
        refine lv_goto (tgt := 1058) hx hb dL_law_345 (by decide) ?_
        exact kk u_300.2 kc cp cn rm kn u_312 lvm be u_300.1 H locs ls g3 hP hD hS (lv_sub hl [2, 3, 4, 5, 6] rfl)
      · skip
        exact absurd ((lg_cmp_eq _ _).mpr (g2 c_330)) c_340
  · skip
    exact absurd g1 c_323
set_option maxHeartbeats 4000000 in
set_option maxRecDepth 100000 in
theorem law_c_latch {p : Program} {l : Launch} {e : Env} {s : State} {m : MethodId} {below : List Frame} {meth : Method} {c : Code} {b L : Nat} {xs : Nat → Int32} {D : va_G} {κ : Nat → ClassId} (hst : l.stackTraces = false) (C0 : lw_At p s m meth c b L xs) (hK : k_K D κ s) (hX : k_X (fun q : Nat => s.heap.size ≤ q) s) (hN : k_NC s) (hL : L ≤ 1536) {t : Nat} (ht : 3 * t + 3 ≤ L) {q0 qo : Nat} {q qh qr ql qe qm : Nat → Nat} {so le gr ne si ou bo : Nat → Int32} {n om ob : Nat} {cs : Nat → Nat → Nat} {gs : Nat → KH} {made pl kp : Nat} {ro : Nat → Int64} {wo : Int32} {lv : Nat → Int32} {e0 : KE} {kc : KC} {cp : Nat → Int32} {cn : Nat} {rm : Nat → Int64} {kn th : Int32} {lvm be : Nat → Int32} {fo : Nat → Int64} (hZ : p_Z ((so, le, gr, ne, si, ou, bo, n, om, ob), (cs, gs, made, pl, kp), ro, wo, lv, e0) kc cp cn rm kn) {H : Heap} {locs : List Loc} (hP : va_P D vwCl (List.flatten [wJ κ qo 1 fo, wN κ qm th kc cp cn rm kn lvm be, wX κ q0 q qh qr ql qe ((so, le, gr, ne, si, ou, bo, n, om, ob), (cs, gs, made, pl, kp), ro, wo, lv, e0)]) H) (hD : va_D (fun q : Nat => s.heap.size ≤ q) (List.flatten [wJ κ qo 1 fo, wN κ qm th kc cp cn rm kn lvm be, wX κ q0 q qh qr ql qe ((so, le, gr, ne, si, ou, bo, n, om, ob), (cs, gs, made, pl, kp), ro, wo, lv, e0)])) (hS : va_S (fun q : Nat => s.heap.size ≤ q) s.heap H locs) {ls : Array Slot} (hl : lv_has ls 8 [(0, .ref b), (1, .ref q0), (2, .ref (qm 0)), (3, .ref qo), (4, .int (nI (3 * t)))]) (kk : w_go p l e s m below meth c b D κ t q0 qo q qh qr ql qe qm (200 + 24 * t + 24) (80000 + 2900 * t + 2900) 1058) : W p l e room_1 s m #[Value.ref b] below meth c H locs (200 + 24 * t) (80000 + 2900 * t) (lw_Z below #[Value.ref b] s) (F0 m 348 ls []) := by
  obtain ⟨hx, hb, hr, hml, hown, hts0, hXs, hbl, hlocks, hgv⟩ := C0
  have hts : ∀ w ∈ wsL_law, w.before #[Value.ref b] s = true := fun w hw => hts0 w (wsL_law_in w hw)
  have hA : ∀ q : Nat, s.heap.size ≤ q → (fun q : Nat => s.heap.size ≤ q) q := fun _ h => h
  have hbA : ¬ (fun q : Nat => s.heap.size ≤ q) b := Nat.not_le.mpr hbl
  obtain ⟨en, eo, hN9, hO9, hI⟩ := p_Zo hZ
  obtain ⟨ek, hcn, hpl, hpm, hma, hgs, hH9⟩ : kp = cn ∧ cn ≤ 30 ∧ pl < 30 ∧ pl ≤ made ∧ made ≤ 30 ∧ (∀ k, k < made → k_bG (gs k)) ∧ True := ⟨hZ.2.2.1.1, hZ.2.2.1.2.1, hZ.2.2.1.2.2.1, hZ.2.2.1.2.2.2.1, hZ.2.2.1.2.2.2.2.1, hZ.2.2.1.2.2.2.2.2.1, trivial⟩
  have hnd := hI.1.2.1
  have hoc := hI.1.2.2.1
  have hob := hO9.2.2.2
  have hwo : wo = 0 ∨ wo = 1 := by have e1 : wo = kn := hZ.2.2.2.1; rw [e1]; exact hZ.2.2.2.2.1
  have hown : s.vm.findClass RL = some m.cls := hown
  refine lv_aload_n hx hb dL_law_348 rfl (lv_at hl 1 rfl) ?_
  refine lv_aload_n hx hb dL_law_349 rfl (lv_at hl 0 rfl) ?_
  refine lv_iload hx hb dL_law_350 (lv_at hl 4 rfl) ?_
  refine lv_iconst (v := 1) hx hb dL_law_352 (by decide) ?_
  refine lv_iadd hx hb dL_law_353 ?_
  refine lv_topi (nm_r (nI_add (3 * t) 1) ?_)
  refine va_sld hx hb hXs hbl hbA hS (vp_in_nI (show (3 * t) + 1 < L by omega) (by omega)) dL_law_354 ?_
  rw [nI_clamp (show (3 * t) + 1 < 2 ^ 31 by omega)]
  refine lv_aload_n hx hb dL_law_355 rfl (lv_at hl 3 rfl) ?_
  refine k_cYW (D := D) (κ := κ) (Wl := [wJ κ qo 1 fo, wN κ qm th kc cp cn rm kn lvm be, wX κ q0 q qh qr ql qe ((so, le, gr, ne, si, ou, bo, n, om, ob), (cs, gs, made, pl, kp), ro, wo, lv, e0)]) (Wc := [wJ κ qo 1 fo, wX κ q0 q qh qr ql qe ((so, le, gr, ne, si, ou, bo, n, om, ob), (cs, gs, made, pl, kp), ro, wo, lv, e0)]) (W' := fun u_356 => [wJ κ qo 1 u_356.1, wX κ q0 q qh qr ql qe u_356.2]) (Wn := fun u_356 => [wJ κ qo 1 u_356.1, wN κ qm th kc cp cn rm kn lvm be, wX κ q0 q qh qr ql qe u_356.2]) ⟨hx, hb, hml, hown, hts⟩ (c_L_latch l D κ _ q0 qh qr ql qe q so le gr ne si ou bo n om ob cs gs made pl kp ro wo lv e0 qo fo (xs ((3 * t) + 1)) hst (by omega) (by omega) (by omega) hgs hpl hpm hma (by omega)) (vx_cwSW 3 hts gL_law_L_latch rfl rfl rfl (by decide +kernel) ⟨Nat.le_of_ble_eq_true rfl, Nat.le_of_ble_eq_true rfl⟩) hK hX hN hP hD hS hA [0, 2] (by decide) rfl rfl (fun _ => rfl) (fun _ => rfl) (fun _ => rfl) (As := [.ref q0, .int (xs ((3 * t) + 1)), .ref qo]) (rest := []) rfl rfl hl.1 (Nat.le_of_ble_eq_true rfl) dL_law_356 ⟨(by show 200 + 24 * t + 24 ≤ 601024; omega), (by show 80000 + 2900 * t + 2900 ≤ 7293034; omega)⟩ (fun r_356 u_356 H locs hw_356 hP hD hS => ?_)
  have hP : va_P D vwCl (List.flatten [wJ κ qo 1 u_356.1, wN κ qm th kc cp cn rm kn lvm be, wX κ q0 q qh qr ql qe u_356.2]) H := hP
  have hD : va_D (fun q : Nat => s.heap.size ≤ q) (List.flatten [wJ κ qo 1 u_356.1, wN κ qm th kc cp cn rm kn lvm be, wX κ q0 q qh qr ql qe u_356.2]) := hD
  refine lv_istore (lv' := [(5, .int r_356), (0, .ref b), (1, .ref q0), (2, .ref (qm 0)), (3, .ref qo), (4, .int (nI (3 * t)))]) hx hb dL_law_359 hl (by decide) rfl (fun ls hl => ?_)
  refine lv_aload_n hx hb dL_law_361 rfl (lv_at hl 3 rfl) ?_
  refine lv_aload_n hx hb dL_law_362 rfl (lv_at hl 1 rfl) ?_
  refine lv_iload hx hb dL_law_363 (lv_at hl 5 rfl) ?_
  refine lv_iconst (v := 1) hx hb dL_law_365 (by decide) ?_
  refine lv_iadd hx hb dL_law_366 ?_
  refine lv_topi (nm_r (nI_add (3 * t) 1) ?_)
  refine va_sld hx hb hXs hbl hbA hS (vp_in_nI (show (3 * t) + 1 < L by omega) (by omega)) dL_law_367 ?_
  rw [nI_clamp (show (3 * t) + 1 < 2 ^ 31 by omega)]
  refine k_cSNi (D := D) (κ := κ) (qc := (RX7, TX7, 15)) (ci := 7) (q0 := 0) (Wl := [wJ κ qo 1 u_356.1, wN κ qm th kc cp cn rm kn lvm be, wX κ q0 q qh qr ql qe u_356.2]) (Wc := [wN κ qm th kc cp cn rm kn lvm be]) (W' := fun u_368 => [wN κ qm u_368.1 u_368.2.1 u_368.2.2.1 u_368.2.2.2.1 rm u_368.2.2.2.2 lvm be]) (Wn := fun u_368 => [wJ κ qo 1 u_356.1, wN κ qm u_368.1 u_368.2.1 u_368.2.2.1 u_368.2.2.2.1 rm u_368.2.2.2.2 lvm be, wX κ q0 q qh qr ql qe u_356.2]) ⟨hx, hb, hml, hown, hts⟩ (c_X7_latch l D κ _ qm th kc cp cn rm kn lvm be (xs ((3 * t) + 1))  (by omega) (by omega) (by omega)) (cwV 1 hts gL_law_X7_latch rfl rfl rfl (by decide +kernel) ⟨Nat.le_of_ble_eq_true rfl, Nat.le_of_ble_eq_true rfl⟩) hK hP hD hS hA [1] (by decide) rfl (List.flatten_singleton) (fun _ => List.flatten_singleton) rfl rfl (fun _ => rfl) (fun _ => rfl) (As := [.int (xs ((3 * t) + 1))]) (rest := []) rfl rfl hl.1 (Nat.le_of_ble_eq_true rfl) dL_law_368 ⟨(by show 200 + 24 * t + 24 + 0 ≤ 601024; omega), (by show 80000 + 2900 * t + 2900 + 0 ≤ 7293034; omega)⟩ (fun r_368 u_368 H locs hw_368 hP hD hS => ?_)
  have hP : va_P D vwCl (List.flatten [wJ κ qo 1 u_356.1, wN κ qm u_368.1 u_368.2.1 u_368.2.2.1 u_368.2.2.2.1 rm u_368.2.2.2.2 lvm be, wX κ q0 q qh qr ql qe u_356.2]) H := hP
  have hD : va_D (fun q : Nat => s.heap.size ≤ q) (List.flatten [wJ κ qo 1 u_356.1, wN κ qm u_368.1 u_368.2.1 u_368.2.2.1 u_368.2.2.2.1 rm u_368.2.2.2.2 lvm be, wX κ q0 q qh qr ql qe u_356.2]) := hD
  have hres := p_o_latch (xs ((3 * t) + 1)) hZ hw_356
  rw [← hw_368] at hres
  obtain ⟨g1, g2, g3⟩ := hres
  have hI2 := g3.2.1
  have hc2 := g3.2.2.1.2.1
  have hn2 := hI2.1.2.1
  have ho2 := hI2.1.2.2.1
  refine lv_istore (lv' := [(6, .int r_368), (5, .int r_356), (0, .ref b), (1, .ref q0), (2, .ref (qm 0)), (3, .ref qo), (4, .int (nI (3 * t)))]) hx hb dL_law_371 hl (by decide) rfl (fun ls hl => ?_)
  refine lv_aload_n hx hb dL_law_373 rfl (lv_at hl 4 rfl) ?_
  refine k_cRO (D := D) (κ := κ) (qc := (RX7, TX7, 15)) (ci := 7) (q0 := 0) ⟨hx, hb, hml, hown, hts⟩ (c_X7_thrown l D κ qm u_368.1 u_368.2.1 u_368.2.2.1 u_368.2.2.2.1 rm u_368.2.2.2.2 lvm be (by omega) (by omega) (by omega)) (cwV 0 hts gL_law_X7_thrown rfl rfl rfl (by decide +kernel) ⟨Nat.le_of_ble_eq_true rfl, Nat.le_of_ble_eq_true rfl⟩) hK (k_sub1 (S := wN κ qm u_368.1 u_368.2.1 u_368.2.2.1 u_368.2.2.2.1 rm u_368.2.2.2.2 lvm be) hP 1 rfl) rfl rfl (As := []) (rest := []) rfl rfl hl.1 (Nat.le_of_ble_eq_true rfl) dL_law_374 ⟨(by show 200 + 24 * t + 24 ≤ 601024; omega), (by show 80000 + 2900 * t + 2900 ≤ 7293034; omega)⟩ (fun r9 hr9 => ?_)
  refine lv_topi (nm_r hr9 ?_)
  refine lv_iload hx hb dL_law_377 (lv_at hl 1 rfl) ?_
  refine lv_icmp_eq (tgt := 384) hx hb dL_law_379 (by decide) (fun c_379 => ?_) (fun c_379 => ?_)
  · skip
    refine lv_iload hx hb dL_law_384 (lv_at hl 1 rfl) ?_
    refine lv_if_ne (tgt := 401) hx hb dL_law_386 (by decide) (fun c_386 => ?_) (fun c_386 => ?_)
    · skip
      refine lv_goto (tgt := 1058) hx hb dL_law_401 (by decide) ?_
      exact kk u_356.2 u_368.2.1 u_368.2.2.1 u_368.2.2.2.1 rm u_368.2.2.2.2 u_368.1 lvm be u_356.1 H locs ls g3 hP hD hS (lv_sub hl [2, 3, 4, 5, 6] rfl)
    · skip
      refine lv_aload_n hx hb dL_law_389 rfl (lv_at hl 5 rfl) ?_
      refine lv_iconst (v := 0) hx hb dL_law_390 (by decide) ?_
      refine k_lald (D := D) (j := 0) hx hb hK.1 hP 0 1 rfl rfl (by omega) (by omega) dL_law_391 ?_
      refine lv_iload hx hb dL_law_392 (lv_at hl 0 rfl) ?_
      refine lv_i2l (v := Int32.toInt64 r_368) hx hb dL_law_394 rfl ?_
      refine W.lcmp hx hb dL_law_395 ?_
      refine lv_if_eq (tgt := 401) hx hb dL_law_396 (by decide) (fun c_396 => ?_) (fun c_396 => ?_)
      · skip
        refine lv_goto (tgt := 1058) hx hb dL_law_401 (by decide) ?_
        exact kk u_356.2 u_368.2.1 u_368.2.2.1 u_368.2.2.2.1 rm u_368.2.2.2.2 u_368.1 lvm be u_356.1 H locs ls g3 hP hD hS (lv_sub hl [2, 3, 4, 5, 6] rfl)
      · skip
        exact absurd ((lg_cmp_eq _ _).mpr (g2 c_386)) c_396
  · skip
    exact absurd g1 c_379
set_option maxHeartbeats 4000000 in
set_option maxRecDepth 100000 in
theorem law_c_next {p : Program} {l : Launch} {e : Env} {s : State} {m : MethodId} {below : List Frame} {meth : Method} {c : Code} {b L : Nat} {xs : Nat → Int32} {D : va_G} {κ : Nat → ClassId} (hst : l.stackTraces = false) (C0 : lw_At p s m meth c b L xs) (hK : k_K D κ s) (hX : k_X (fun q : Nat => s.heap.size ≤ q) s) (hN : k_NC s) (hL : L ≤ 1536) {t : Nat} (ht : 3 * t + 3 ≤ L) {q0 qo : Nat} {q qh qr ql qe qm : Nat → Nat} {so le gr ne si ou bo : Nat → Int32} {n om ob : Nat} {cs : Nat → Nat → Nat} {gs : Nat → KH} {made pl kp : Nat} {ro : Nat → Int64} {wo : Int32} {lv : Nat → Int32} {e0 : KE} {kc : KC} {cp : Nat → Int32} {cn : Nat} {rm : Nat → Int64} {kn th : Int32} {lvm be : Nat → Int32} {fo : Nat → Int64} (hZ : p_Z ((so, le, gr, ne, si, ou, bo, n, om, ob), (cs, gs, made, pl, kp), ro, wo, lv, e0) kc cp cn rm kn) {H : Heap} {locs : List Loc} (hP : va_P D vwCl (List.flatten [wJ κ qo 1 fo, wN κ qm th kc cp cn rm kn lvm be, wX κ q0 q qh qr ql qe ((so, le, gr, ne, si, ou, bo, n, om, ob), (cs, gs, made, pl, kp), ro, wo, lv, e0)]) H) (hD : va_D (fun q : Nat => s.heap.size ≤ q) (List.flatten [wJ κ qo 1 fo, wN κ qm th kc cp cn rm kn lvm be, wX κ q0 q qh qr ql qe ((so, le, gr, ne, si, ou, bo, n, om, ob), (cs, gs, made, pl, kp), ro, wo, lv, e0)])) (hS : va_S (fun q : Nat => s.heap.size ≤ q) s.heap H locs) {ls : Array Slot} (hl : lv_has ls 8 [(0, .ref b), (1, .ref q0), (2, .ref (qm 0)), (3, .ref qo), (4, .int (nI (3 * t)))]) (kk : w_go p l e s m below meth c b D κ t q0 qo q qh qr ql qe qm (200 + 24 * t + 24) (80000 + 2900 * t + 2900) 1058) : W p l e room_1 s m #[Value.ref b] below meth c H locs (200 + 24 * t) (80000 + 2900 * t) (lw_Z below #[Value.ref b] s) (F0 m 404 ls []) := by
  obtain ⟨hx, hb, hr, hml, hown, hts0, hXs, hbl, hlocks, hgv⟩ := C0
  have hts : ∀ w ∈ wsL_law, w.before #[Value.ref b] s = true := fun w hw => hts0 w (wsL_law_in w hw)
  have hA : ∀ q : Nat, s.heap.size ≤ q → (fun q : Nat => s.heap.size ≤ q) q := fun _ h => h
  have hbA : ¬ (fun q : Nat => s.heap.size ≤ q) b := Nat.not_le.mpr hbl
  obtain ⟨en, eo, hN9, hO9, hI⟩ := p_Zo hZ
  obtain ⟨ek, hcn, hpl, hpm, hma, hgs, hH9⟩ : kp = cn ∧ cn ≤ 30 ∧ pl < 30 ∧ pl ≤ made ∧ made ≤ 30 ∧ (∀ k, k < made → k_bG (gs k)) ∧ True := ⟨hZ.2.2.1.1, hZ.2.2.1.2.1, hZ.2.2.1.2.2.1, hZ.2.2.1.2.2.2.1, hZ.2.2.1.2.2.2.2.1, hZ.2.2.1.2.2.2.2.2.1, trivial⟩
  have hnd := hI.1.2.1
  have hoc := hI.1.2.2.1
  have hob := hO9.2.2.2
  have hwo : wo = 0 ∨ wo = 1 := by have e1 : wo = kn := hZ.2.2.2.1; rw [e1]; exact hZ.2.2.2.2.1
  have hown : s.vm.findClass RL = some m.cls := hown
  refine lv_aload_n hx hb dL_law_404 rfl (lv_at hl 1 rfl) ?_
  refine lv_aload_n hx hb dL_law_405 rfl (lv_at hl 0 rfl) ?_
  refine lv_iload hx hb dL_law_406 (lv_at hl 4 rfl) ?_
  refine lv_iconst (v := 1) hx hb dL_law_408 (by decide) ?_
  refine lv_iadd hx hb dL_law_409 ?_
  refine lv_topi (nm_r (nI_add (3 * t) 1) ?_)
  refine va_sld hx hb hXs hbl hbA hS (vp_in_nI (show (3 * t) + 1 < L by omega) (by omega)) dL_law_410 ?_
  rw [nI_clamp (show (3 * t) + 1 < 2 ^ 31 by omega)]
  refine lv_aload_n hx hb dL_law_411 rfl (lv_at hl 0 rfl) ?_
  refine lv_iload hx hb dL_law_412 (lv_at hl 4 rfl) ?_
  refine lv_iconst (v := 2) hx hb dL_law_414 (by decide) ?_
  refine lv_iadd hx hb dL_law_415 ?_
  refine lv_topi (nm_r (nI_add (3 * t) 2) ?_)
  refine va_sld hx hb hXs hbl hbA hS (vp_in_nI (show (3 * t) + 2 < L by omega) (by omega)) dL_law_416 ?_
  rw [nI_clamp (show (3 * t) + 2 < 2 ^ 31 by omega)]
  refine lv_aload_n hx hb dL_law_417 rfl (lv_at hl 3 rfl) ?_
  refine k_cYW (D := D) (κ := κ) (Wl := [wJ κ qo 1 fo, wN κ qm th kc cp cn rm kn lvm be, wX κ q0 q qh qr ql qe ((so, le, gr, ne, si, ou, bo, n, om, ob), (cs, gs, made, pl, kp), ro, wo, lv, e0)]) (Wc := [wJ κ qo 1 fo, wX κ q0 q qh qr ql qe ((so, le, gr, ne, si, ou, bo, n, om, ob), (cs, gs, made, pl, kp), ro, wo, lv, e0)]) (W' := fun u_418 => [wJ κ qo 1 u_418.1, wX κ q0 q qh qr ql qe u_418.2]) (Wn := fun u_418 => [wJ κ qo 1 u_418.1, wN κ qm th kc cp cn rm kn lvm be, wX κ q0 q qh qr ql qe u_418.2]) ⟨hx, hb, hml, hown, hts⟩ (c_L_next l D κ _ q0 qh qr ql qe q so le gr ne si ou bo n om ob cs gs made pl kp ro wo lv e0 qo fo (xs ((3 * t) + 1)) (xs ((3 * t) + 2)) hst (by omega) (by omega) (by omega) hgs hpl hpm hma (by omega)) (vx_cwSW 4 hts gL_law_L_next rfl rfl rfl (by decide +kernel) ⟨Nat.le_of_ble_eq_true rfl, Nat.le_of_ble_eq_true rfl⟩) hK hX hN hP hD hS hA [0, 2] (by decide) rfl rfl (fun _ => rfl) (fun _ => rfl) (fun _ => rfl) (As := [.ref q0, .int (xs ((3 * t) + 1)), .int (xs ((3 * t) + 2)), .ref qo]) (rest := []) rfl rfl hl.1 (Nat.le_of_ble_eq_true rfl) dL_law_418 ⟨(by show 200 + 24 * t + 24 ≤ 601024; omega), (by show 80000 + 2900 * t + 2900 ≤ 7293034; omega)⟩ (fun r_418 u_418 H locs hw_418 hP hD hS => ?_)
  have hP : va_P D vwCl (List.flatten [wJ κ qo 1 u_418.1, wN κ qm th kc cp cn rm kn lvm be, wX κ q0 q qh qr ql qe u_418.2]) H := hP
  have hD : va_D (fun q : Nat => s.heap.size ≤ q) (List.flatten [wJ κ qo 1 u_418.1, wN κ qm th kc cp cn rm kn lvm be, wX κ q0 q qh qr ql qe u_418.2]) := hD
  refine lv_istore (lv' := [(5, .int r_418), (0, .ref b), (1, .ref q0), (2, .ref (qm 0)), (3, .ref qo), (4, .int (nI (3 * t)))]) hx hb dL_law_421 hl (by decide) rfl (fun ls hl => ?_)
  refine lv_aload_n hx hb dL_law_423 rfl (lv_at hl 3 rfl) ?_
  refine lv_aload_n hx hb dL_law_424 rfl (lv_at hl 1 rfl) ?_
  refine lv_iload hx hb dL_law_425 (lv_at hl 5 rfl) ?_
  refine lv_iconst (v := 1) hx hb dL_law_427 (by decide) ?_
  refine lv_iadd hx hb dL_law_428 ?_
  refine lv_topi (nm_r (nI_add (3 * t) 1) ?_)
  refine va_sld hx hb hXs hbl hbA hS (vp_in_nI (show (3 * t) + 1 < L by omega) (by omega)) dL_law_429 ?_
  rw [nI_clamp (show (3 * t) + 1 < 2 ^ 31 by omega)]
  refine lv_aload_n hx hb dL_law_430 rfl (lv_at hl 1 rfl) ?_
  refine lv_iload hx hb dL_law_431 (lv_at hl 5 rfl) ?_
  refine lv_iconst (v := 2) hx hb dL_law_433 (by decide) ?_
  refine lv_iadd hx hb dL_law_434 ?_
  refine lv_topi (nm_r (nI_add (3 * t) 2) ?_)
  refine va_sld hx hb hXs hbl hbA hS (vp_in_nI (show (3 * t) + 2 < L by omega) (by omega)) dL_law_435 ?_
  rw [nI_clamp (show (3 * t) + 2 < 2 ^ 31 by omega)]
  refine k_cSNi (D := D) (κ := κ) (qc := (RX7, TX7, 15)) (ci := 7) (q0 := 0) (Wl := [wJ κ qo 1 u_418.1, wN κ qm th kc cp cn rm kn lvm be, wX κ q0 q qh qr ql qe u_418.2]) (Wc := [wN κ qm th kc cp cn rm kn lvm be]) (W' := fun u_436 => [wN κ qm u_436.1 u_436.2.1 u_436.2.2.1 u_436.2.2.2.1 rm u_436.2.2.2.2 lvm be]) (Wn := fun u_436 => [wJ κ qo 1 u_418.1, wN κ qm u_436.1 u_436.2.1 u_436.2.2.1 u_436.2.2.2.1 rm u_436.2.2.2.2 lvm be, wX κ q0 q qh qr ql qe u_418.2]) ⟨hx, hb, hml, hown, hts⟩ (c_X7_next l D κ _ qm th kc cp cn rm kn lvm be (xs ((3 * t) + 1)) (xs ((3 * t) + 2))  (by omega) (by omega) (by omega) (p_hla hI)) (cwV 2 hts gL_law_X7_next rfl rfl rfl (by decide +kernel) ⟨Nat.le_of_ble_eq_true rfl, Nat.le_of_ble_eq_true rfl⟩) hK hP hD hS hA [1] (by decide) rfl (List.flatten_singleton) (fun _ => List.flatten_singleton) rfl rfl (fun _ => rfl) (fun _ => rfl) (As := [.int (xs ((3 * t) + 1)), .int (xs ((3 * t) + 2))]) (rest := []) rfl rfl hl.1 (Nat.le_of_ble_eq_true rfl) dL_law_436 ⟨(by show 200 + 24 * t + 24 + 0 ≤ 601024; omega), (by show 80000 + 2900 * t + 2900 + 0 ≤ 7293034; omega)⟩ (fun r_436 u_436 H locs hw_436 hP hD hS => ?_)
  have hP : va_P D vwCl (List.flatten [wJ κ qo 1 u_418.1, wN κ qm u_436.1 u_436.2.1 u_436.2.2.1 u_436.2.2.2.1 rm u_436.2.2.2.2 lvm be, wX κ q0 q qh qr ql qe u_418.2]) H := hP
  have hD : va_D (fun q : Nat => s.heap.size ≤ q) (List.flatten [wJ κ qo 1 u_418.1, wN κ qm u_436.1 u_436.2.1 u_436.2.2.1 u_436.2.2.2.1 rm u_436.2.2.2.2 lvm be, wX κ q0 q qh qr ql qe u_418.2]) := hD
  have hres := p_o_next (xs ((3 * t) + 1)) (xs ((3 * t) + 2)) hZ hw_418
  rw [← hw_436] at hres
  obtain ⟨g1, g2, g3⟩ := hres
  have hI2 := g3.2.1
  have hc2 := g3.2.2.1.2.1
  have hn2 := hI2.1.2.1
  have ho2 := hI2.1.2.2.1
  refine lv_istore (lv' := [(6, .int r_436), (5, .int r_418), (0, .ref b), (1, .ref q0), (2, .ref (qm 0)), (3, .ref qo), (4, .int (nI (3 * t)))]) hx hb dL_law_439 hl (by decide) rfl (fun ls hl => ?_)
  refine lv_aload_n hx hb dL_law_441 rfl (lv_at hl 4 rfl) ?_
  refine k_cRO (D := D) (κ := κ) (qc := (RX7, TX7, 15)) (ci := 7) (q0 := 0) ⟨hx, hb, hml, hown, hts⟩ (c_X7_thrown l D κ qm u_436.1 u_436.2.1 u_436.2.2.1 u_436.2.2.2.1 rm u_436.2.2.2.2 lvm be (by omega) (by omega) (by omega)) (cwV 0 hts gL_law_X7_thrown rfl rfl rfl (by decide +kernel) ⟨Nat.le_of_ble_eq_true rfl, Nat.le_of_ble_eq_true rfl⟩) hK (k_sub1 (S := wN κ qm u_436.1 u_436.2.1 u_436.2.2.1 u_436.2.2.2.1 rm u_436.2.2.2.2 lvm be) hP 1 rfl) rfl rfl (As := []) (rest := []) rfl rfl hl.1 (Nat.le_of_ble_eq_true rfl) dL_law_442 ⟨(by show 200 + 24 * t + 24 ≤ 601024; omega), (by show 80000 + 2900 * t + 2900 ≤ 7293034; omega)⟩ (fun r9 hr9 => ?_)
  refine lv_topi (nm_r hr9 ?_)
  refine lv_iload hx hb dL_law_445 (lv_at hl 1 rfl) ?_
  refine lv_icmp_eq (tgt := 452) hx hb dL_law_447 (by decide) (fun c_447 => ?_) (fun c_447 => ?_)
  · skip
    refine lv_iload hx hb dL_law_452 (lv_at hl 1 rfl) ?_
    refine lv_if_ne (tgt := 476) hx hb dL_law_454 (by decide) (fun c_454 => ?_) (fun c_454 => ?_)
    · skip
      refine lv_goto (tgt := 1058) hx hb dL_law_476 (by decide) ?_
      exact kk u_418.2 u_436.2.1 u_436.2.2.1 u_436.2.2.2.1 rm u_436.2.2.2.2 u_436.1 lvm be u_418.1 H locs ls g3 hP hD hS (lv_sub hl [2, 3, 4, 5, 6] rfl)
    · skip
      refine lv_aload_n hx hb dL_law_457 rfl (lv_at hl 5 rfl) ?_
      refine lv_iconst (v := 0) hx hb dL_law_458 (by decide) ?_
      refine k_lald (D := D) (j := 0) hx hb hK.1 hP 0 1 rfl rfl (by omega) (by omega) dL_law_459 ?_
      refine lv_iload hx hb dL_law_460 (lv_at hl 0 rfl) ?_
      refine lv_if_eq (tgt := 469) hx hb dL_law_462 (by decide) (fun c_462 => ?_) (fun c_462 => ?_)
      · skip
        refine lv_lconst (v := 0) hx hb dL_law_469 (by decide) ?_
        refine W.lcmp hx hb dL_law_470 ?_
        refine lv_if_eq (tgt := 476) hx hb dL_law_471 (by decide) (fun c_471 => ?_) (fun c_471 => ?_)
        · skip
          refine lv_goto (tgt := 1058) hx hb dL_law_476 (by decide) ?_
          exact kk u_418.2 u_436.2.1 u_436.2.2.1 u_436.2.2.2.1 rm u_436.2.2.2.2 u_436.1 lvm be u_418.1 H locs ls g3 hP hD hS (lv_sub hl [2, 3, 4, 5, 6] rfl)
        · skip
          exact absurd ((lg_cmp_eq _ _).mpr ((g2 c_454).trans (if_pos c_462))) c_471
      · skip
        refine lv_lconst (v := 1) hx hb dL_law_465 (by decide) ?_
        refine lv_goto (tgt := 470) hx hb dL_law_466 (by decide) ?_
        refine W.lcmp hx hb dL_law_470 ?_
        refine lv_if_eq (tgt := 476) hx hb dL_law_471 (by decide) (fun c_471 => ?_) (fun c_471 => ?_)
        · skip
          refine lv_goto (tgt := 1058) hx hb dL_law_476 (by decide) ?_
          exact kk u_418.2 u_436.2.1 u_436.2.2.1 u_436.2.2.2.1 rm u_436.2.2.2.2 u_436.1 lvm be u_418.1 H locs ls g3 hP hD hS (lv_sub hl [2, 3, 4, 5, 6] rfl)
        · skip
          exact absurd ((lg_cmp_eq _ _).mpr ((g2 c_454).trans (if_neg c_462))) c_471
  · skip
    exact absurd g1 c_447
set_option maxHeartbeats 4000000 in
set_option maxRecDepth 100000 in
theorem law_c_nextOf {p : Program} {l : Launch} {e : Env} {s : State} {m : MethodId} {below : List Frame} {meth : Method} {c : Code} {b L : Nat} {xs : Nat → Int32} {D : va_G} {κ : Nat → ClassId} (hst : l.stackTraces = false) (C0 : lw_At p s m meth c b L xs) (hK : k_K D κ s) (hX : k_X (fun q : Nat => s.heap.size ≤ q) s) (hN : k_NC s) (hL : L ≤ 1536) {t : Nat} (ht : 3 * t + 3 ≤ L) {q0 qo : Nat} {q qh qr ql qe qm : Nat → Nat} {so le gr ne si ou bo : Nat → Int32} {n om ob : Nat} {cs : Nat → Nat → Nat} {gs : Nat → KH} {made pl kp : Nat} {ro : Nat → Int64} {wo : Int32} {lv : Nat → Int32} {e0 : KE} {kc : KC} {cp : Nat → Int32} {cn : Nat} {rm : Nat → Int64} {kn th : Int32} {lvm be : Nat → Int32} {fo : Nat → Int64} (hZ : p_Z ((so, le, gr, ne, si, ou, bo, n, om, ob), (cs, gs, made, pl, kp), ro, wo, lv, e0) kc cp cn rm kn) {H : Heap} {locs : List Loc} (hP : va_P D vwCl (List.flatten [wJ κ qo 1 fo, wN κ qm th kc cp cn rm kn lvm be, wX κ q0 q qh qr ql qe ((so, le, gr, ne, si, ou, bo, n, om, ob), (cs, gs, made, pl, kp), ro, wo, lv, e0)]) H) (hD : va_D (fun q : Nat => s.heap.size ≤ q) (List.flatten [wJ κ qo 1 fo, wN κ qm th kc cp cn rm kn lvm be, wX κ q0 q qh qr ql qe ((so, le, gr, ne, si, ou, bo, n, om, ob), (cs, gs, made, pl, kp), ro, wo, lv, e0)])) (hS : va_S (fun q : Nat => s.heap.size ≤ q) s.heap H locs) {ls : Array Slot} (hl : lv_has ls 8 [(0, .ref b), (1, .ref q0), (2, .ref (qm 0)), (3, .ref qo), (4, .int (nI (3 * t)))]) (kk : w_go p l e s m below meth c b D κ t q0 qo q qh qr ql qe qm (200 + 24 * t + 24) (80000 + 2900 * t + 2900) 1058) : W p l e room_1 s m #[Value.ref b] below meth c H locs (200 + 24 * t) (80000 + 2900 * t) (lw_Z below #[Value.ref b] s) (F0 m 479 ls []) := by
  obtain ⟨hx, hb, hr, hml, hown, hts0, hXs, hbl, hlocks, hgv⟩ := C0
  have hts : ∀ w ∈ wsL_law, w.before #[Value.ref b] s = true := fun w hw => hts0 w (wsL_law_in w hw)
  have hA : ∀ q : Nat, s.heap.size ≤ q → (fun q : Nat => s.heap.size ≤ q) q := fun _ h => h
  have hbA : ¬ (fun q : Nat => s.heap.size ≤ q) b := Nat.not_le.mpr hbl
  obtain ⟨en, eo, hN9, hO9, hI⟩ := p_Zo hZ
  obtain ⟨ek, hcn, hpl, hpm, hma, hgs, hH9⟩ : kp = cn ∧ cn ≤ 30 ∧ pl < 30 ∧ pl ≤ made ∧ made ≤ 30 ∧ (∀ k, k < made → k_bG (gs k)) ∧ True := ⟨hZ.2.2.1.1, hZ.2.2.1.2.1, hZ.2.2.1.2.2.1, hZ.2.2.1.2.2.2.1, hZ.2.2.1.2.2.2.2.1, hZ.2.2.1.2.2.2.2.2.1, trivial⟩
  have hnd := hI.1.2.1
  have hoc := hI.1.2.2.1
  have hob := hO9.2.2.2
  have hwo : wo = 0 ∨ wo = 1 := by have e1 : wo = kn := hZ.2.2.2.1; rw [e1]; exact hZ.2.2.2.2.1
  have hown : s.vm.findClass RL = some m.cls := hown
  refine lv_aload_n hx hb dL_law_479 rfl (lv_at hl 1 rfl) ?_
  refine lv_aload_n hx hb dL_law_480 rfl (lv_at hl 0 rfl) ?_
  refine lv_iload hx hb dL_law_481 (lv_at hl 4 rfl) ?_
  refine lv_iconst (v := 1) hx hb dL_law_483 (by decide) ?_
  refine lv_iadd hx hb dL_law_484 ?_
  refine lv_topi (nm_r (nI_add (3 * t) 1) ?_)
  refine va_sld hx hb hXs hbl hbA hS (vp_in_nI (show (3 * t) + 1 < L by omega) (by omega)) dL_law_485 ?_
  rw [nI_clamp (show (3 * t) + 1 < 2 ^ 31 by omega)]
  refine lv_aload_n hx hb dL_law_486 rfl (lv_at hl 3 rfl) ?_
  refine k_cYW (D := D) (κ := κ) (Wl := [wJ κ qo 1 fo, wN κ qm th kc cp cn rm kn lvm be, wX κ q0 q qh qr ql qe ((so, le, gr, ne, si, ou, bo, n, om, ob), (cs, gs, made, pl, kp), ro, wo, lv, e0)]) (Wc := [wJ κ qo 1 fo, wX κ q0 q qh qr ql qe ((so, le, gr, ne, si, ou, bo, n, om, ob), (cs, gs, made, pl, kp), ro, wo, lv, e0)]) (W' := fun u_487 => [wJ κ qo 1 u_487.1, wX κ q0 q qh qr ql qe u_487.2]) (Wn := fun u_487 => [wJ κ qo 1 u_487.1, wN κ qm th kc cp cn rm kn lvm be, wX κ q0 q qh qr ql qe u_487.2]) ⟨hx, hb, hml, hown, hts⟩ (c_L_nextOf l D κ _ q0 qh qr ql qe q so le gr ne si ou bo n om ob cs gs made pl kp ro wo lv e0 qo fo (xs ((3 * t) + 1)) hst (by omega) (by omega) (by omega) hgs hpl hpm hma (by omega)) (vx_cwSW 3 hts gL_law_L_nextOf rfl rfl rfl (by decide +kernel) ⟨Nat.le_of_ble_eq_true rfl, Nat.le_of_ble_eq_true rfl⟩) hK hX hN hP hD hS hA [0, 2] (by decide) rfl rfl (fun _ => rfl) (fun _ => rfl) (fun _ => rfl) (As := [.ref q0, .int (xs ((3 * t) + 1)), .ref qo]) (rest := []) rfl rfl hl.1 (Nat.le_of_ble_eq_true rfl) dL_law_487 ⟨(by show 200 + 24 * t + 24 ≤ 601024; omega), (by show 80000 + 2900 * t + 2900 ≤ 7293034; omega)⟩ (fun r_487 u_487 H locs hw_487 hP hD hS => ?_)
  have hP : va_P D vwCl (List.flatten [wJ κ qo 1 u_487.1, wN κ qm th kc cp cn rm kn lvm be, wX κ q0 q qh qr ql qe u_487.2]) H := hP
  have hD : va_D (fun q : Nat => s.heap.size ≤ q) (List.flatten [wJ κ qo 1 u_487.1, wN κ qm th kc cp cn rm kn lvm be, wX κ q0 q qh qr ql qe u_487.2]) := hD
  refine lv_istore (lv' := [(5, .int r_487), (0, .ref b), (1, .ref q0), (2, .ref (qm 0)), (3, .ref qo), (4, .int (nI (3 * t)))]) hx hb dL_law_490 hl (by decide) rfl (fun ls hl => ?_)
  refine lv_aload_n hx hb dL_law_492 rfl (lv_at hl 3 rfl) ?_
  refine lv_aload_n hx hb dL_law_493 rfl (lv_at hl 1 rfl) ?_
  refine lv_iload hx hb dL_law_494 (lv_at hl 5 rfl) ?_
  refine lv_iconst (v := 1) hx hb dL_law_496 (by decide) ?_
  refine lv_iadd hx hb dL_law_497 ?_
  refine lv_topi (nm_r (nI_add (3 * t) 1) ?_)
  refine va_sld hx hb hXs hbl hbA hS (vp_in_nI (show (3 * t) + 1 < L by omega) (by omega)) dL_law_498 ?_
  rw [nI_clamp (show (3 * t) + 1 < 2 ^ 31 by omega)]
  refine k_cSNi (D := D) (κ := κ) (qc := (RX7, TX7, 15)) (ci := 7) (q0 := 0) (Wl := [wJ κ qo 1 u_487.1, wN κ qm th kc cp cn rm kn lvm be, wX κ q0 q qh qr ql qe u_487.2]) (Wc := [wN κ qm th kc cp cn rm kn lvm be]) (W' := fun u_499 => [wN κ qm u_499 kc cp cn rm kn lvm be]) (Wn := fun u_499 => [wJ κ qo 1 u_487.1, wN κ qm u_499 kc cp cn rm kn lvm be, wX κ q0 q qh qr ql qe u_487.2]) ⟨hx, hb, hml, hown, hts⟩ (c_X7_nextOf l D κ _ qm th kc cp cn rm kn lvm be (xs ((3 * t) + 1))  (by omega) (by omega) (by omega) (p_hla hI)) (cwV 1 hts gL_law_X7_nextOf rfl rfl rfl (by decide +kernel) ⟨Nat.le_of_ble_eq_true rfl, Nat.le_of_ble_eq_true rfl⟩) hK hP hD hS hA [1] (by decide) rfl (List.flatten_singleton) (fun _ => List.flatten_singleton) rfl rfl (fun _ => rfl) (fun _ => rfl) (As := [.int (xs ((3 * t) + 1))]) (rest := []) rfl rfl hl.1 (Nat.le_of_ble_eq_true rfl) dL_law_499 ⟨(by show 200 + 24 * t + 24 + 0 ≤ 601024; omega), (by show 80000 + 2900 * t + 2900 + 0 ≤ 7293034; omega)⟩ (fun r_499 u_499 H locs hw_499 hP hD hS => ?_)
  have hP : va_P D vwCl (List.flatten [wJ κ qo 1 u_487.1, wN κ qm u_499 kc cp cn rm kn lvm be, wX κ q0 q qh qr ql qe u_487.2]) H := hP
  have hD : va_D (fun q : Nat => s.heap.size ≤ q) (List.flatten [wJ κ qo 1 u_487.1, wN κ qm u_499 kc cp cn rm kn lvm be, wX κ q0 q qh qr ql qe u_487.2]) := hD
  have hres := p_o_nextOf (xs ((3 * t) + 1)) hZ hw_487
  rw [← hw_499] at hres
  obtain ⟨g1, g2, g3⟩ := hres
  have hI2 := g3.2.1
  have hc2 := g3.2.2.1.2.1
  have hn2 := hI2.1.2.1
  have ho2 := hI2.1.2.2.1
  refine lv_istore (lv' := [(6, .int r_499), (5, .int r_487), (0, .ref b), (1, .ref q0), (2, .ref (qm 0)), (3, .ref qo), (4, .int (nI (3 * t)))]) hx hb dL_law_502 hl (by decide) rfl (fun ls hl => ?_)
  refine lv_aload_n hx hb dL_law_504 rfl (lv_at hl 4 rfl) ?_
  refine k_cRO (D := D) (κ := κ) (qc := (RX7, TX7, 15)) (ci := 7) (q0 := 0) ⟨hx, hb, hml, hown, hts⟩ (c_X7_thrown l D κ qm u_499 kc cp cn rm kn lvm be (by omega) (by omega) (by omega)) (cwV 0 hts gL_law_X7_thrown rfl rfl rfl (by decide +kernel) ⟨Nat.le_of_ble_eq_true rfl, Nat.le_of_ble_eq_true rfl⟩) hK (k_sub1 (S := wN κ qm u_499 kc cp cn rm kn lvm be) hP 1 rfl) rfl rfl (As := []) (rest := []) rfl rfl hl.1 (Nat.le_of_ble_eq_true rfl) dL_law_505 ⟨(by show 200 + 24 * t + 24 ≤ 601024; omega), (by show 80000 + 2900 * t + 2900 ≤ 7293034; omega)⟩ (fun r9 hr9 => ?_)
  refine lv_topi (nm_r hr9 ?_)
  refine lv_iload hx hb dL_law_508 (lv_at hl 1 rfl) ?_
  refine lv_icmp_eq (tgt := 515) hx hb dL_law_510 (by decide) (fun c_510 => ?_) (fun c_510 => ?_)
  · skip
    refine lv_iload hx hb dL_law_515 (lv_at hl 1 rfl) ?_
    refine lv_if_ne (tgt := 532) hx hb dL_law_517 (by decide) (fun c_517 => ?_) (fun c_517 => ?_)
    · skip
      refine lv_goto (tgt := 1058) hx hb dL_law_532 (by decide) ?_
      exact kk u_487.2 kc cp cn rm kn u_499 lvm be u_487.1 H locs ls g3 hP hD hS (lv_sub hl [2, 3, 4, 5, 6] rfl)
    · skip
      refine lv_aload_n hx hb dL_law_520 rfl (lv_at hl 5 rfl) ?_
      refine lv_iconst (v := 0) hx hb dL_law_521 (by decide) ?_
      refine k_lald (D := D) (j := 0) hx hb hK.1 hP 0 1 rfl rfl (by omega) (by omega) dL_law_522 ?_
      refine lv_iload hx hb dL_law_523 (lv_at hl 0 rfl) ?_
      refine lv_i2l (v := Int32.toInt64 r_499) hx hb dL_law_525 rfl ?_
      refine W.lcmp hx hb dL_law_526 ?_
      refine lv_if_eq (tgt := 532) hx hb dL_law_527 (by decide) (fun c_527 => ?_) (fun c_527 => ?_)
      · skip
        refine lv_goto (tgt := 1058) hx hb dL_law_532 (by decide) ?_
        exact kk u_487.2 kc cp cn rm kn u_499 lvm be u_487.1 H locs ls g3 hP hD hS (lv_sub hl [2, 3, 4, 5, 6] rfl)
      · skip
        exact absurd ((lg_cmp_eq _ _).mpr (g2 c_517)) c_527
  · skip
    exact absurd g1 c_510
set_option maxHeartbeats 4000000 in
set_option maxRecDepth 100000 in
theorem law_c_box {p : Program} {l : Launch} {e : Env} {s : State} {m : MethodId} {below : List Frame} {meth : Method} {c : Code} {b L : Nat} {xs : Nat → Int32} {D : va_G} {κ : Nat → ClassId} (hst : l.stackTraces = false) (C0 : lw_At p s m meth c b L xs) (hK : k_K D κ s) (hX : k_X (fun q : Nat => s.heap.size ≤ q) s) (hN : k_NC s) (hL : L ≤ 1536) {t : Nat} (ht : 3 * t + 3 ≤ L) {q0 qo : Nat} {q qh qr ql qe qm : Nat → Nat} {so le gr ne si ou bo : Nat → Int32} {n om ob : Nat} {cs : Nat → Nat → Nat} {gs : Nat → KH} {made pl kp : Nat} {ro : Nat → Int64} {wo : Int32} {lv : Nat → Int32} {e0 : KE} {kc : KC} {cp : Nat → Int32} {cn : Nat} {rm : Nat → Int64} {kn th : Int32} {lvm be : Nat → Int32} {fo : Nat → Int64} (hZ : p_Z ((so, le, gr, ne, si, ou, bo, n, om, ob), (cs, gs, made, pl, kp), ro, wo, lv, e0) kc cp cn rm kn) {H : Heap} {locs : List Loc} (hP : va_P D vwCl (List.flatten [wJ κ qo 1 fo, wN κ qm th kc cp cn rm kn lvm be, wX κ q0 q qh qr ql qe ((so, le, gr, ne, si, ou, bo, n, om, ob), (cs, gs, made, pl, kp), ro, wo, lv, e0)]) H) (hD : va_D (fun q : Nat => s.heap.size ≤ q) (List.flatten [wJ κ qo 1 fo, wN κ qm th kc cp cn rm kn lvm be, wX κ q0 q qh qr ql qe ((so, le, gr, ne, si, ou, bo, n, om, ob), (cs, gs, made, pl, kp), ro, wo, lv, e0)])) (hS : va_S (fun q : Nat => s.heap.size ≤ q) s.heap H locs) {ls : Array Slot} (hl : lv_has ls 8 [(0, .ref b), (1, .ref q0), (2, .ref (qm 0)), (3, .ref qo), (4, .int (nI (3 * t)))]) (kk : w_go p l e s m below meth c b D κ t q0 qo q qh qr ql qe qm (200 + 24 * t + 24) (80000 + 2900 * t + 2900) 1058) : W p l e room_1 s m #[Value.ref b] below meth c H locs (200 + 24 * t) (80000 + 2900 * t) (lw_Z below #[Value.ref b] s) (F0 m 535 ls []) := by
  obtain ⟨hx, hb, hr, hml, hown, hts0, hXs, hbl, hlocks, hgv⟩ := C0
  have hts : ∀ w ∈ wsL_law, w.before #[Value.ref b] s = true := fun w hw => hts0 w (wsL_law_in w hw)
  have hA : ∀ q : Nat, s.heap.size ≤ q → (fun q : Nat => s.heap.size ≤ q) q := fun _ h => h
  have hbA : ¬ (fun q : Nat => s.heap.size ≤ q) b := Nat.not_le.mpr hbl
  obtain ⟨en, eo, hN9, hO9, hI⟩ := p_Zo hZ
  obtain ⟨ek, hcn, hpl, hpm, hma, hgs, hH9⟩ : kp = cn ∧ cn ≤ 30 ∧ pl < 30 ∧ pl ≤ made ∧ made ≤ 30 ∧ (∀ k, k < made → k_bG (gs k)) ∧ True := ⟨hZ.2.2.1.1, hZ.2.2.1.2.1, hZ.2.2.1.2.2.1, hZ.2.2.1.2.2.2.1, hZ.2.2.1.2.2.2.2.1, hZ.2.2.1.2.2.2.2.2.1, trivial⟩
  have hnd := hI.1.2.1
  have hoc := hI.1.2.2.1
  have hob := hO9.2.2.2
  have hwo : wo = 0 ∨ wo = 1 := by have e1 : wo = kn := hZ.2.2.2.1; rw [e1]; exact hZ.2.2.2.2.1
  have hown : s.vm.findClass RL = some m.cls := hown
  refine lv_aload_n hx hb dL_law_535 rfl (lv_at hl 1 rfl) ?_
  refine lv_aload_n hx hb dL_law_536 rfl (lv_at hl 0 rfl) ?_
  refine lv_iload hx hb dL_law_537 (lv_at hl 4 rfl) ?_
  refine lv_iconst (v := 1) hx hb dL_law_539 (by decide) ?_
  refine lv_iadd hx hb dL_law_540 ?_
  refine lv_topi (nm_r (nI_add (3 * t) 1) ?_)
  refine va_sld hx hb hXs hbl hbA hS (vp_in_nI (show (3 * t) + 1 < L by omega) (by omega)) dL_law_541 ?_
  rw [nI_clamp (show (3 * t) + 1 < 2 ^ 31 by omega)]
  refine lv_aload_n hx hb dL_law_542 rfl (lv_at hl 0 rfl) ?_
  refine lv_iload hx hb dL_law_543 (lv_at hl 4 rfl) ?_
  refine lv_iconst (v := 2) hx hb dL_law_545 (by decide) ?_
  refine lv_iadd hx hb dL_law_546 ?_
  refine lv_topi (nm_r (nI_add (3 * t) 2) ?_)
  refine va_sld hx hb hXs hbl hbA hS (vp_in_nI (show (3 * t) + 2 < L by omega) (by omega)) dL_law_547 ?_
  rw [nI_clamp (show (3 * t) + 2 < 2 ^ 31 by omega)]
  refine lv_aload_n hx hb dL_law_548 rfl (lv_at hl 3 rfl) ?_
  refine k_cYW (D := D) (κ := κ) (Wl := [wJ κ qo 1 fo, wN κ qm th kc cp cn rm kn lvm be, wX κ q0 q qh qr ql qe ((so, le, gr, ne, si, ou, bo, n, om, ob), (cs, gs, made, pl, kp), ro, wo, lv, e0)]) (Wc := [wJ κ qo 1 fo, wX κ q0 q qh qr ql qe ((so, le, gr, ne, si, ou, bo, n, om, ob), (cs, gs, made, pl, kp), ro, wo, lv, e0)]) (W' := fun u_549 => [wJ κ qo 1 u_549.1, wX κ q0 q qh qr ql qe u_549.2]) (Wn := fun u_549 => [wJ κ qo 1 u_549.1, wN κ qm th kc cp cn rm kn lvm be, wX κ q0 q qh qr ql qe u_549.2]) ⟨hx, hb, hml, hown, hts⟩ (c_L_box l D κ _ q0 qh qr ql qe q so le gr ne si ou bo n om ob cs gs made pl kp ro wo lv e0 qo fo (xs ((3 * t) + 1)) (xs ((3 * t) + 2)) hst (by omega) (by omega) (by omega) hgs hpl hpm hma (by omega)) (vx_cwSW 4 hts gL_law_L_box rfl rfl rfl (by decide +kernel) ⟨Nat.le_of_ble_eq_true rfl, Nat.le_of_ble_eq_true rfl⟩) hK hX hN hP hD hS hA [0, 2] (by decide) rfl rfl (fun _ => rfl) (fun _ => rfl) (fun _ => rfl) (As := [.ref q0, .int (xs ((3 * t) + 1)), .int (xs ((3 * t) + 2)), .ref qo]) (rest := []) rfl rfl hl.1 (Nat.le_of_ble_eq_true rfl) dL_law_549 ⟨(by show 200 + 24 * t + 24 ≤ 601024; omega), (by show 80000 + 2900 * t + 2900 ≤ 7293034; omega)⟩ (fun r_549 u_549 H locs hw_549 hP hD hS => ?_)
  have hP : va_P D vwCl (List.flatten [wJ κ qo 1 u_549.1, wN κ qm th kc cp cn rm kn lvm be, wX κ q0 q qh qr ql qe u_549.2]) H := hP
  have hD : va_D (fun q : Nat => s.heap.size ≤ q) (List.flatten [wJ κ qo 1 u_549.1, wN κ qm th kc cp cn rm kn lvm be, wX κ q0 q qh qr ql qe u_549.2]) := hD
  refine lv_istore (lv' := [(5, .int r_549), (0, .ref b), (1, .ref q0), (2, .ref (qm 0)), (3, .ref qo), (4, .int (nI (3 * t)))]) hx hb dL_law_552 hl (by decide) rfl (fun ls hl => ?_)
  refine lv_aload_n hx hb dL_law_554 rfl (lv_at hl 3 rfl) ?_
  refine lv_aload_n hx hb dL_law_555 rfl (lv_at hl 1 rfl) ?_
  refine lv_iload hx hb dL_law_556 (lv_at hl 5 rfl) ?_
  refine lv_iconst (v := 1) hx hb dL_law_558 (by decide) ?_
  refine lv_iadd hx hb dL_law_559 ?_
  refine lv_topi (nm_r (nI_add (3 * t) 1) ?_)
  refine va_sld hx hb hXs hbl hbA hS (vp_in_nI (show (3 * t) + 1 < L by omega) (by omega)) dL_law_560 ?_
  rw [nI_clamp (show (3 * t) + 1 < 2 ^ 31 by omega)]
  refine lv_aload_n hx hb dL_law_561 rfl (lv_at hl 1 rfl) ?_
  refine lv_iload hx hb dL_law_562 (lv_at hl 5 rfl) ?_
  refine lv_iconst (v := 2) hx hb dL_law_564 (by decide) ?_
  refine lv_iadd hx hb dL_law_565 ?_
  refine lv_topi (nm_r (nI_add (3 * t) 2) ?_)
  refine va_sld hx hb hXs hbl hbA hS (vp_in_nI (show (3 * t) + 2 < L by omega) (by omega)) dL_law_566 ?_
  rw [nI_clamp (show (3 * t) + 2 < 2 ^ 31 by omega)]
  refine k_cSNi (D := D) (κ := κ) (qc := (RX7, TX7, 15)) (ci := 7) (q0 := 0) (Wl := [wJ κ qo 1 u_549.1, wN κ qm th kc cp cn rm kn lvm be, wX κ q0 q qh qr ql qe u_549.2]) (Wc := [wN κ qm th kc cp cn rm kn lvm be]) (W' := fun u_567 => [wN κ qm u_567.1 u_567.2.1 u_567.2.2.1 u_567.2.2.2.1 rm u_567.2.2.2.2 lvm be]) (Wn := fun u_567 => [wJ κ qo 1 u_549.1, wN κ qm u_567.1 u_567.2.1 u_567.2.2.1 u_567.2.2.2.1 rm u_567.2.2.2.2 lvm be, wX κ q0 q qh qr ql qe u_549.2]) ⟨hx, hb, hml, hown, hts⟩ (c_X7_box l D κ _ qm th kc cp cn rm kn lvm be (xs ((3 * t) + 1)) (xs ((3 * t) + 2))  (by omega) (by omega) (by omega)) (cwV 2 hts gL_law_X7_box rfl rfl rfl (by decide +kernel) ⟨Nat.le_of_ble_eq_true rfl, Nat.le_of_ble_eq_true rfl⟩) hK hP hD hS hA [1] (by decide) rfl (List.flatten_singleton) (fun _ => List.flatten_singleton) rfl rfl (fun _ => rfl) (fun _ => rfl) (As := [.int (xs ((3 * t) + 1)), .int (xs ((3 * t) + 2))]) (rest := []) rfl rfl hl.1 (Nat.le_of_ble_eq_true rfl) dL_law_567 ⟨(by show 200 + 24 * t + 24 + 0 ≤ 601024; omega), (by show 80000 + 2900 * t + 2900 + 0 ≤ 7293034; omega)⟩ (fun r_567 u_567 H locs hw_567 hP hD hS => ?_)
  have hP : va_P D vwCl (List.flatten [wJ κ qo 1 u_549.1, wN κ qm u_567.1 u_567.2.1 u_567.2.2.1 u_567.2.2.2.1 rm u_567.2.2.2.2 lvm be, wX κ q0 q qh qr ql qe u_549.2]) H := hP
  have hD : va_D (fun q : Nat => s.heap.size ≤ q) (List.flatten [wJ κ qo 1 u_549.1, wN κ qm u_567.1 u_567.2.1 u_567.2.2.1 u_567.2.2.2.1 rm u_567.2.2.2.2 lvm be, wX κ q0 q qh qr ql qe u_549.2]) := hD
  have hres := p_o_box (xs ((3 * t) + 1)) (xs ((3 * t) + 2)) hZ hw_549
  rw [← hw_567] at hres
  obtain ⟨g1, g2, g3⟩ := hres
  have hI2 := g3.2.1
  have hc2 := g3.2.2.1.2.1
  have hn2 := hI2.1.2.1
  have ho2 := hI2.1.2.2.1
  refine lv_istore (lv' := [(6, .int r_567), (5, .int r_549), (0, .ref b), (1, .ref q0), (2, .ref (qm 0)), (3, .ref qo), (4, .int (nI (3 * t)))]) hx hb dL_law_570 hl (by decide) rfl (fun ls hl => ?_)
  refine lv_aload_n hx hb dL_law_572 rfl (lv_at hl 4 rfl) ?_
  refine k_cRO (D := D) (κ := κ) (qc := (RX7, TX7, 15)) (ci := 7) (q0 := 0) ⟨hx, hb, hml, hown, hts⟩ (c_X7_thrown l D κ qm u_567.1 u_567.2.1 u_567.2.2.1 u_567.2.2.2.1 rm u_567.2.2.2.2 lvm be (by omega) (by omega) (by omega)) (cwV 0 hts gL_law_X7_thrown rfl rfl rfl (by decide +kernel) ⟨Nat.le_of_ble_eq_true rfl, Nat.le_of_ble_eq_true rfl⟩) hK (k_sub1 (S := wN κ qm u_567.1 u_567.2.1 u_567.2.2.1 u_567.2.2.2.1 rm u_567.2.2.2.2 lvm be) hP 1 rfl) rfl rfl (As := []) (rest := []) rfl rfl hl.1 (Nat.le_of_ble_eq_true rfl) dL_law_573 ⟨(by show 200 + 24 * t + 24 ≤ 601024; omega), (by show 80000 + 2900 * t + 2900 ≤ 7293034; omega)⟩ (fun r9 hr9 => ?_)
  refine lv_topi (nm_r hr9 ?_)
  refine lv_iload hx hb dL_law_576 (lv_at hl 1 rfl) ?_
  refine lv_icmp_eq (tgt := 583) hx hb dL_law_578 (by decide) (fun c_578 => ?_) (fun c_578 => ?_)
  · skip
    refine lv_iload hx hb dL_law_583 (lv_at hl 1 rfl) ?_
    refine lv_if_ne (tgt := 600) hx hb dL_law_585 (by decide) (fun c_585 => ?_) (fun c_585 => ?_)
    · skip
      refine lv_goto (tgt := 1058) hx hb dL_law_600 (by decide) ?_
      exact kk u_549.2 u_567.2.1 u_567.2.2.1 u_567.2.2.2.1 rm u_567.2.2.2.2 u_567.1 lvm be u_549.1 H locs ls g3 hP hD hS (lv_sub hl [2, 3, 4, 5, 6] rfl)
    · skip
      refine lv_aload_n hx hb dL_law_588 rfl (lv_at hl 5 rfl) ?_
      refine lv_iconst (v := 0) hx hb dL_law_589 (by decide) ?_
      refine k_lald (D := D) (j := 0) hx hb hK.1 hP 0 1 rfl rfl (by omega) (by omega) dL_law_590 ?_
      refine lv_iload hx hb dL_law_591 (lv_at hl 0 rfl) ?_
      refine lv_i2l (v := Int32.toInt64 r_567) hx hb dL_law_593 rfl ?_
      refine W.lcmp hx hb dL_law_594 ?_
      refine lv_if_eq (tgt := 600) hx hb dL_law_595 (by decide) (fun c_595 => ?_) (fun c_595 => ?_)
      · skip
        refine lv_goto (tgt := 1058) hx hb dL_law_600 (by decide) ?_
        exact kk u_549.2 u_567.2.1 u_567.2.2.1 u_567.2.2.2.1 rm u_567.2.2.2.2 u_567.1 lvm be u_549.1 H locs ls g3 hP hD hS (lv_sub hl [2, 3, 4, 5, 6] rfl)
      · skip
        exact absurd ((lg_cmp_eq _ _).mpr (g2 c_585)) c_595
  · skip
    exact absurd g1 c_578
set_option maxHeartbeats 4000000 in
set_option maxRecDepth 100000 in
theorem law_c_replace {p : Program} {l : Launch} {e : Env} {s : State} {m : MethodId} {below : List Frame} {meth : Method} {c : Code} {b L : Nat} {xs : Nat → Int32} {D : va_G} {κ : Nat → ClassId} (hst : l.stackTraces = false) (C0 : lw_At p s m meth c b L xs) (hK : k_K D κ s) (hX : k_X (fun q : Nat => s.heap.size ≤ q) s) (hN : k_NC s) (hL : L ≤ 1536) {t : Nat} (ht : 3 * t + 3 ≤ L) {q0 qo : Nat} {q qh qr ql qe qm : Nat → Nat} {so le gr ne si ou bo : Nat → Int32} {n om ob : Nat} {cs : Nat → Nat → Nat} {gs : Nat → KH} {made pl kp : Nat} {ro : Nat → Int64} {wo : Int32} {lv : Nat → Int32} {e0 : KE} {kc : KC} {cp : Nat → Int32} {cn : Nat} {rm : Nat → Int64} {kn th : Int32} {lvm be : Nat → Int32} {fo : Nat → Int64} (hZ : p_Z ((so, le, gr, ne, si, ou, bo, n, om, ob), (cs, gs, made, pl, kp), ro, wo, lv, e0) kc cp cn rm kn) {H : Heap} {locs : List Loc} (hP : va_P D vwCl (List.flatten [wJ κ qo 1 fo, wN κ qm th kc cp cn rm kn lvm be, wX κ q0 q qh qr ql qe ((so, le, gr, ne, si, ou, bo, n, om, ob), (cs, gs, made, pl, kp), ro, wo, lv, e0)]) H) (hD : va_D (fun q : Nat => s.heap.size ≤ q) (List.flatten [wJ κ qo 1 fo, wN κ qm th kc cp cn rm kn lvm be, wX κ q0 q qh qr ql qe ((so, le, gr, ne, si, ou, bo, n, om, ob), (cs, gs, made, pl, kp), ro, wo, lv, e0)])) (hS : va_S (fun q : Nat => s.heap.size ≤ q) s.heap H locs) {ls : Array Slot} (hl : lv_has ls 8 [(0, .ref b), (1, .ref q0), (2, .ref (qm 0)), (3, .ref qo), (4, .int (nI (3 * t)))]) (kk : w_go p l e s m below meth c b D κ t q0 qo q qh qr ql qe qm (200 + 24 * t + 24) (80000 + 2900 * t + 2900) 1058) : W p l e room_1 s m #[Value.ref b] below meth c H locs (200 + 24 * t) (80000 + 2900 * t) (lw_Z below #[Value.ref b] s) (F0 m 603 ls []) := by
  obtain ⟨hx, hb, hr, hml, hown, hts0, hXs, hbl, hlocks, hgv⟩ := C0
  have hts : ∀ w ∈ wsL_law, w.before #[Value.ref b] s = true := fun w hw => hts0 w (wsL_law_in w hw)
  have hA : ∀ q : Nat, s.heap.size ≤ q → (fun q : Nat => s.heap.size ≤ q) q := fun _ h => h
  have hbA : ¬ (fun q : Nat => s.heap.size ≤ q) b := Nat.not_le.mpr hbl
  obtain ⟨en, eo, hN9, hO9, hI⟩ := p_Zo hZ
  obtain ⟨ek, hcn, hpl, hpm, hma, hgs, hH9⟩ : kp = cn ∧ cn ≤ 30 ∧ pl < 30 ∧ pl ≤ made ∧ made ≤ 30 ∧ (∀ k, k < made → k_bG (gs k)) ∧ True := ⟨hZ.2.2.1.1, hZ.2.2.1.2.1, hZ.2.2.1.2.2.1, hZ.2.2.1.2.2.2.1, hZ.2.2.1.2.2.2.2.1, hZ.2.2.1.2.2.2.2.2.1, trivial⟩
  have hnd := hI.1.2.1
  have hoc := hI.1.2.2.1
  have hob := hO9.2.2.2
  have hwo : wo = 0 ∨ wo = 1 := by have e1 : wo = kn := hZ.2.2.2.1; rw [e1]; exact hZ.2.2.2.2.1
  have hown : s.vm.findClass RL = some m.cls := hown
  refine lv_aload_n hx hb dL_law_603 rfl (lv_at hl 1 rfl) ?_
  refine lv_aload_n hx hb dL_law_604 rfl (lv_at hl 0 rfl) ?_
  refine lv_iload hx hb dL_law_605 (lv_at hl 4 rfl) ?_
  refine lv_iconst (v := 1) hx hb dL_law_607 (by decide) ?_
  refine lv_iadd hx hb dL_law_608 ?_
  refine lv_topi (nm_r (nI_add (3 * t) 1) ?_)
  refine va_sld hx hb hXs hbl hbA hS (vp_in_nI (show (3 * t) + 1 < L by omega) (by omega)) dL_law_609 ?_
  rw [nI_clamp (show (3 * t) + 1 < 2 ^ 31 by omega)]
  refine lv_aload_n hx hb dL_law_610 rfl (lv_at hl 0 rfl) ?_
  refine lv_iload hx hb dL_law_611 (lv_at hl 4 rfl) ?_
  refine lv_iconst (v := 2) hx hb dL_law_613 (by decide) ?_
  refine lv_iadd hx hb dL_law_614 ?_
  refine lv_topi (nm_r (nI_add (3 * t) 2) ?_)
  refine va_sld hx hb hXs hbl hbA hS (vp_in_nI (show (3 * t) + 2 < L by omega) (by omega)) dL_law_615 ?_
  rw [nI_clamp (show (3 * t) + 2 < 2 ^ 31 by omega)]
  refine lv_aload_n hx hb dL_law_616 rfl (lv_at hl 3 rfl) ?_
  refine k_cYW (D := D) (κ := κ) (Wl := [wJ κ qo 1 fo, wN κ qm th kc cp cn rm kn lvm be, wX κ q0 q qh qr ql qe ((so, le, gr, ne, si, ou, bo, n, om, ob), (cs, gs, made, pl, kp), ro, wo, lv, e0)]) (Wc := [wJ κ qo 1 fo, wX κ q0 q qh qr ql qe ((so, le, gr, ne, si, ou, bo, n, om, ob), (cs, gs, made, pl, kp), ro, wo, lv, e0)]) (W' := fun u_617 => [wJ κ qo 1 u_617.1, wX κ q0 q qh qr ql qe u_617.2]) (Wn := fun u_617 => [wJ κ qo 1 u_617.1, wN κ qm th kc cp cn rm kn lvm be, wX κ q0 q qh qr ql qe u_617.2]) ⟨hx, hb, hml, hown, hts⟩ (c_L_replace l D κ _ q0 qh qr ql qe q so le gr ne si ou bo n om ob cs gs made pl kp ro wo lv e0 qo fo (xs ((3 * t) + 1)) (xs ((3 * t) + 2)) hst (by omega) (by omega) (by omega) hgs hpl hpm hma (by omega)) (vx_cwSW 4 hts gL_law_L_replace rfl rfl rfl (by decide +kernel) ⟨Nat.le_of_ble_eq_true rfl, Nat.le_of_ble_eq_true rfl⟩) hK hX hN hP hD hS hA [0, 2] (by decide) rfl rfl (fun _ => rfl) (fun _ => rfl) (fun _ => rfl) (As := [.ref q0, .int (xs ((3 * t) + 1)), .int (xs ((3 * t) + 2)), .ref qo]) (rest := []) rfl rfl hl.1 (Nat.le_of_ble_eq_true rfl) dL_law_617 ⟨(by show 200 + 24 * t + 24 ≤ 601024; omega), (by show 80000 + 2900 * t + 2900 ≤ 7293034; omega)⟩ (fun r_617 u_617 H locs hw_617 hP hD hS => ?_)
  have hP : va_P D vwCl (List.flatten [wJ κ qo 1 u_617.1, wN κ qm th kc cp cn rm kn lvm be, wX κ q0 q qh qr ql qe u_617.2]) H := hP
  have hD : va_D (fun q : Nat => s.heap.size ≤ q) (List.flatten [wJ κ qo 1 u_617.1, wN κ qm th kc cp cn rm kn lvm be, wX κ q0 q qh qr ql qe u_617.2]) := hD
  refine lv_istore (lv' := [(5, .int r_617), (0, .ref b), (1, .ref q0), (2, .ref (qm 0)), (3, .ref qo), (4, .int (nI (3 * t)))]) hx hb dL_law_620 hl (by decide) rfl (fun ls hl => ?_)
  refine lv_aload_n hx hb dL_law_622 rfl (lv_at hl 3 rfl) ?_
  refine lv_aload_n hx hb dL_law_623 rfl (lv_at hl 1 rfl) ?_
  refine lv_iload hx hb dL_law_624 (lv_at hl 5 rfl) ?_
  refine lv_iconst (v := 1) hx hb dL_law_626 (by decide) ?_
  refine lv_iadd hx hb dL_law_627 ?_
  refine lv_topi (nm_r (nI_add (3 * t) 1) ?_)
  refine va_sld hx hb hXs hbl hbA hS (vp_in_nI (show (3 * t) + 1 < L by omega) (by omega)) dL_law_628 ?_
  rw [nI_clamp (show (3 * t) + 1 < 2 ^ 31 by omega)]
  refine lv_aload_n hx hb dL_law_629 rfl (lv_at hl 1 rfl) ?_
  refine lv_iload hx hb dL_law_630 (lv_at hl 5 rfl) ?_
  refine lv_iconst (v := 2) hx hb dL_law_632 (by decide) ?_
  refine lv_iadd hx hb dL_law_633 ?_
  refine lv_topi (nm_r (nI_add (3 * t) 2) ?_)
  refine va_sld hx hb hXs hbl hbA hS (vp_in_nI (show (3 * t) + 2 < L by omega) (by omega)) dL_law_634 ?_
  rw [nI_clamp (show (3 * t) + 2 < 2 ^ 31 by omega)]
  refine k_cSNi (D := D) (κ := κ) (qc := (RX7, TX7, 15)) (ci := 7) (q0 := 0) (Wl := [wJ κ qo 1 u_617.1, wN κ qm th kc cp cn rm kn lvm be, wX κ q0 q qh qr ql qe u_617.2]) (Wc := [wN κ qm th kc cp cn rm kn lvm be]) (W' := fun u_635 => [wN κ qm u_635.1.1 u_635.1.2.1 u_635.1.2.2.1 u_635.1.2.2.2.1 rm u_635.1.2.2.2.2 lvm u_635.2]) (Wn := fun u_635 => [wJ κ qo 1 u_617.1, wN κ qm u_635.1.1 u_635.1.2.1 u_635.1.2.2.1 u_635.1.2.2.2.1 rm u_635.1.2.2.2.2 lvm u_635.2, wX κ q0 q qh qr ql qe u_617.2]) ⟨hx, hb, hml, hown, hts⟩ (c_X7_replace l D κ _ qm th kc cp cn rm kn lvm be (xs ((3 * t) + 1)) (xs ((3 * t) + 2)) 401 160000 (by omega) (by omega) (by omega) (p_hlt hI) (fun _ _ => p_hus hI _) (p_rlF hI be)) (cwV 2 hts gL_law_X7_replace rfl rfl rfl (by decide +kernel) ⟨Nat.le_of_ble_eq_true rfl, Nat.le_of_ble_eq_true rfl⟩) hK hP hD hS hA [1] (by decide) rfl (List.flatten_singleton) (fun _ => List.flatten_singleton) rfl rfl (fun _ => rfl) (fun _ => rfl) (As := [.int (xs ((3 * t) + 1)), .int (xs ((3 * t) + 2))]) (rest := []) rfl rfl hl.1 (Nat.le_of_ble_eq_true rfl) dL_law_635 ⟨(by show 200 + 24 * t + 24 + 0 ≤ 601024; omega), (by show 80000 + 2900 * t + 2900 + 0 ≤ 7293034; omega)⟩ (fun r_635 u_635 H locs hw_635 hP hD hS => ?_)
  have hP : va_P D vwCl (List.flatten [wJ κ qo 1 u_617.1, wN κ qm u_635.1.1 u_635.1.2.1 u_635.1.2.2.1 u_635.1.2.2.2.1 rm u_635.1.2.2.2.2 lvm u_635.2, wX κ q0 q qh qr ql qe u_617.2]) H := hP
  have hD : va_D (fun q : Nat => s.heap.size ≤ q) (List.flatten [wJ κ qo 1 u_617.1, wN κ qm u_635.1.1 u_635.1.2.1 u_635.1.2.2.1 u_635.1.2.2.2.1 rm u_635.1.2.2.2.2 lvm u_635.2, wX κ q0 q qh qr ql qe u_617.2]) := hD
  have hres := p_o_replace (xs ((3 * t) + 1)) (xs ((3 * t) + 2)) hZ be hw_617
  rw [← hw_635] at hres
  obtain ⟨g1, g2, g3⟩ := hres
  have hI2 := g3.2.1
  have hc2 := g3.2.2.1.2.1
  have hn2 := hI2.1.2.1
  have ho2 := hI2.1.2.2.1
  refine lv_istore (lv' := [(6, .int r_635), (5, .int r_617), (0, .ref b), (1, .ref q0), (2, .ref (qm 0)), (3, .ref qo), (4, .int (nI (3 * t)))]) hx hb dL_law_638 hl (by decide) rfl (fun ls hl => ?_)
  refine lv_aload_n hx hb dL_law_640 rfl (lv_at hl 4 rfl) ?_
  refine k_cRO (D := D) (κ := κ) (qc := (RX7, TX7, 15)) (ci := 7) (q0 := 0) ⟨hx, hb, hml, hown, hts⟩ (c_X7_thrown l D κ qm u_635.1.1 u_635.1.2.1 u_635.1.2.2.1 u_635.1.2.2.2.1 rm u_635.1.2.2.2.2 lvm u_635.2 (by omega) (by omega) (by omega)) (cwV 0 hts gL_law_X7_thrown rfl rfl rfl (by decide +kernel) ⟨Nat.le_of_ble_eq_true rfl, Nat.le_of_ble_eq_true rfl⟩) hK (k_sub1 (S := wN κ qm u_635.1.1 u_635.1.2.1 u_635.1.2.2.1 u_635.1.2.2.2.1 rm u_635.1.2.2.2.2 lvm u_635.2) hP 1 rfl) rfl rfl (As := []) (rest := []) rfl rfl hl.1 (Nat.le_of_ble_eq_true rfl) dL_law_641 ⟨(by show 200 + 24 * t + 24 ≤ 601024; omega), (by show 80000 + 2900 * t + 2900 ≤ 7293034; omega)⟩ (fun r9 hr9 => ?_)
  refine lv_topi (nm_r hr9 ?_)
  refine lv_iload hx hb dL_law_644 (lv_at hl 1 rfl) ?_
  refine lv_icmp_eq (tgt := 651) hx hb dL_law_646 (by decide) (fun c_646 => ?_) (fun c_646 => ?_)
  · skip
    refine lv_iload hx hb dL_law_651 (lv_at hl 1 rfl) ?_
    refine lv_if_ne (tgt := 668) hx hb dL_law_653 (by decide) (fun c_653 => ?_) (fun c_653 => ?_)
    · skip
      refine lv_goto (tgt := 1058) hx hb dL_law_668 (by decide) ?_
      exact kk u_617.2 u_635.1.2.1 u_635.1.2.2.1 u_635.1.2.2.2.1 rm u_635.1.2.2.2.2 u_635.1.1 lvm u_635.2 u_617.1 H locs ls g3 hP hD hS (lv_sub hl [2, 3, 4, 5, 6] rfl)
    · skip
      refine lv_aload_n hx hb dL_law_656 rfl (lv_at hl 5 rfl) ?_
      refine lv_iconst (v := 0) hx hb dL_law_657 (by decide) ?_
      refine k_lald (D := D) (j := 0) hx hb hK.1 hP 0 1 rfl rfl (by omega) (by omega) dL_law_658 ?_
      refine lv_iload hx hb dL_law_659 (lv_at hl 0 rfl) ?_
      refine lv_i2l (v := Int32.toInt64 r_635) hx hb dL_law_661 rfl ?_
      refine W.lcmp hx hb dL_law_662 ?_
      refine lv_if_eq (tgt := 668) hx hb dL_law_663 (by decide) (fun c_663 => ?_) (fun c_663 => ?_)
      · skip
        refine lv_goto (tgt := 1058) hx hb dL_law_668 (by decide) ?_
        exact kk u_617.2 u_635.1.2.1 u_635.1.2.2.1 u_635.1.2.2.2.1 rm u_635.1.2.2.2.2 u_635.1.1 lvm u_635.2 u_617.1 H locs ls g3 hP hD hS (lv_sub hl [2, 3, 4, 5, 6] rfl)
      · skip
        exact absurd ((lg_cmp_eq _ _).mpr (g2 c_653)) c_663
  · skip
    exact absurd g1 c_646
