/-! THE LAW, cases 9 to 17 -/
set_option maxHeartbeats 4000000 in
set_option maxRecDepth 100000 in
theorem law_c_sweep {p : Program} {l : Launch} {e : Env} {s : State} {m : MethodId} {below : List Frame} {meth : Method} {c : Code} {b L : Nat} {xs : Nat → Int32} {D : va_G} {κ : Nat → ClassId} (hst : l.stackTraces = false) (C0 : lw_At p s m meth c b L xs) (hK : k_K D κ s) (hX : k_X (fun q : Nat => s.heap.size ≤ q) s) (hN : k_NC s) (hL : L ≤ 1536) {t : Nat} (ht : 3 * t + 3 ≤ L) {q0 qo : Nat} {q qh qr ql qe qm : Nat → Nat} {so le gr ne si ou bo : Nat → Int32} {n om ob : Nat} {cs : Nat → Nat → Nat} {gs : Nat → KH} {made pl kp : Nat} {ro : Nat → Int64} {wo : Int32} {lv : Nat → Int32} {e0 : KE} {kc : KC} {cp : Nat → Int32} {cn : Nat} {rm : Nat → Int64} {kn th : Int32} {lvm be : Nat → Int32} {fo : Nat → Int64} (hZ : p_Z ((so, le, gr, ne, si, ou, bo, n, om, ob), (cs, gs, made, pl, kp), ro, wo, lv, e0) kc cp cn rm kn) {H : Heap} {locs : List Loc} (hP : va_P D vwCl (List.flatten [wJ κ qo 1 fo, wN κ qm th kc cp cn rm kn lvm be, wX κ q0 q qh qr ql qe ((so, le, gr, ne, si, ou, bo, n, om, ob), (cs, gs, made, pl, kp), ro, wo, lv, e0)]) H) (hD : va_D (fun q : Nat => s.heap.size ≤ q) (List.flatten [wJ κ qo 1 fo, wN κ qm th kc cp cn rm kn lvm be, wX κ q0 q qh qr ql qe ((so, le, gr, ne, si, ou, bo, n, om, ob), (cs, gs, made, pl, kp), ro, wo, lv, e0)])) (hS : va_S (fun q : Nat => s.heap.size ≤ q) s.heap H locs) {ls : Array Slot} (hl : lv_has ls 8 [(0, .ref b), (1, .ref q0), (2, .ref (qm 0)), (3, .ref qo), (4, .int (nI (3 * t)))]) (kk : w_go p l e s m below meth c b D κ t q0 qo q qh qr ql qe qm (200 + 24 * t + 24) (80000 + 2900 * t + 2900) 1058) : W p l e room_1 s m #[Value.ref b] below meth c H locs (200 + 24 * t) (80000 + 2900 * t) (lw_Z below #[Value.ref b] s) (F0 m 671 ls []) := by
  obtain ⟨hx, hb, hr, hml, hown, hts0, hXs, hbl, hlocks, hgv⟩ := C0
  have hts : ∀ w ∈ wsL_law, w.before #[Value.ref b] s = true := fun w hw => hts0 w (wsL_law_in w hw)
  have hA : ∀ q : Nat, s.heap.size ≤ q → (fun q : Nat => s.heap.size ≤ q) q := fun _ h => h
  have hbA : ¬ (fun q : Nat => s.heap.size ≤ q) b := Nat.not_le.mpr hbl
  obtain ⟨en, eo, hN9, hO9, hI⟩ := p_Zo hZ
  obtain ⟨ek, hcn, hpl, hpm, hma, hgs, hH9⟩ : kp = cn ∧ cn ≤ 30 ∧ pl < 30 ∧ pl ≤ made ∧ made ≤ 30 ∧ (∀ k, k < made → k_bG (gs k)) ∧ True := ⟨hZ.2.2.1.1, hZ.2.2.1.2.1, hZ.2.2.1.2.2.1, hZ.2.2.1.2.2.2.1, hZ.2.2.1.2.2.2.2.1, hZ.2.2.1.2.2.2.2.2.1, trivial⟩
  have hnd := hI.1.2.1
  have hoc := hI.1.2.2.1
  have hob := hO9.2.2.2
  have hwo : wo = 0 ∨ wo = 1 := by have e1 : wo = kn := hZ.2.2.2.1; rw [e1]; exact hZ.2.2.2.2.1
  have hown : s.vm.findClass RL = some m.cls := hown
  refine lv_aload_n hx hb dL_law_671 rfl (lv_at hl 1 rfl) ?_
  refine k_cSNi (D := D) (κ := κ) (qc := (RX6, TX6, 5)) (ci := 6) (q0 := 0) (Wl := [wJ κ qo 1 fo, wN κ qm th kc cp cn rm kn lvm be, wX κ q0 q qh qr ql qe ((so, le, gr, ne, si, ou, bo, n, om, ob), (cs, gs, made, pl, kp), ro, wo, lv, e0)]) (Wc := [wX κ q0 q qh qr ql qe ((so, le, gr, ne, si, ou, bo, n, om, ob), (cs, gs, made, pl, kp), ro, wo, lv, e0)]) (W' := fun u_672 => [wX κ q0 q qh qr ql qe u_672]) (Wn := fun u_672 => [wJ κ qo 1 fo, wN κ qm th kc cp cn rm kn lvm be, wX κ q0 q qh qr ql qe u_672]) ⟨hx, hb, hml, hown, hts⟩ (c_X6_sweep l D κ _ q0 qh qr ql qe q so le gr ne si ou bo n om ob cs gs made pl kp ro wo lv e0  (by omega) (by omega) (by omega) hgs hpl hpm hma (by omega) ) (cwV 0 hts gL_law_X6_sweep rfl rfl rfl (by decide +kernel) ⟨Nat.le_of_ble_eq_true rfl, Nat.le_of_ble_eq_true rfl⟩) hK hP hD hS hA [2] (by decide) rfl (List.flatten_singleton) (fun _ => List.flatten_singleton) rfl rfl (fun _ => rfl) (fun _ => rfl) (As := []) (rest := []) rfl rfl hl.1 (Nat.le_of_ble_eq_true rfl) dL_law_672 ⟨(by show 200 + 24 * t + 24 ≤ 601024; omega), (by show 80000 + 2900 * t + 2900 ≤ 7293034; omega)⟩ (fun r_672 u_672 H locs hw_672 hP hD hS => ?_)
  have hP : va_P D vwCl (List.flatten [wJ κ qo 1 fo, wN κ qm th kc cp cn rm kn lvm be, wX κ q0 q qh qr ql qe u_672]) H := hP
  have hD : va_D (fun q : Nat => s.heap.size ≤ q) (List.flatten [wJ κ qo 1 fo, wN κ qm th kc cp cn rm kn lvm be, wX κ q0 q qh qr ql qe u_672]) := hD
  refine lv_aload_n hx hb dL_law_675 rfl (lv_at hl 2 rfl) ?_
  refine k_cSNi (D := D) (κ := κ) (qc := (RX7, TX7, 15)) (ci := 7) (q0 := 0) (Wl := [wJ κ qo 1 fo, wN κ qm th kc cp cn rm kn lvm be, wX κ q0 q qh qr ql qe u_672]) (Wc := [wN κ qm th kc cp cn rm kn lvm be]) (W' := fun u_676 => [wN κ qm u_676.1 u_676.2.1 u_676.2.2.1 u_676.2.2.2.1 rm u_676.2.2.2.2 lvm (m_swB 401 kc be)]) (Wn := fun u_676 => [wJ κ qo 1 fo, wN κ qm u_676.1 u_676.2.1 u_676.2.2.1 u_676.2.2.2.1 rm u_676.2.2.2.2 lvm (m_swB 401 kc be), wX κ q0 q qh qr ql qe u_672]) ⟨hx, hb, hml, hown, hts⟩ (c_X7_sweep l D κ _ qm th kc cp cn rm kn lvm be  401 (by omega) (by omega) (by omega) (p_hlt hI) (p_hla hI) (p_hlo hI) (p_hus hI _)) (cwV 0 hts gL_law_X7_sweep rfl rfl rfl (by decide +kernel) ⟨Nat.le_of_ble_eq_true rfl, Nat.le_of_ble_eq_true rfl⟩) hK hP hD hS hA [1] (by decide) rfl (List.flatten_singleton) (fun _ => List.flatten_singleton) rfl rfl (fun _ => rfl) (fun _ => rfl) (As := []) (rest := [.int r_672]) rfl rfl hl.1 (Nat.le_of_ble_eq_true rfl) dL_law_676 ⟨(by show 200 + 24 * t + 24 + 0 ≤ 601024; omega), (by show 80000 + 2900 * t + 2900 + 0 ≤ 7293034; omega)⟩ (fun r_676 u_676 H locs hw_676 hP hD hS => ?_)
  have hP : va_P D vwCl (List.flatten [wJ κ qo 1 fo, wN κ qm u_676.1 u_676.2.1 u_676.2.2.1 u_676.2.2.2.1 rm u_676.2.2.2.2 lvm (m_swB 401 kc be), wX κ q0 q qh qr ql qe u_672]) H := hP
  have hD : va_D (fun q : Nat => s.heap.size ≤ q) (List.flatten [wJ κ qo 1 fo, wN κ qm u_676.1 u_676.2.1 u_676.2.2.1 u_676.2.2.2.1 rm u_676.2.2.2.2 lvm (m_swB 401 kc be), wX κ q0 q qh qr ql qe u_672]) := hD
  have hres := p_o_sweep hZ be hw_672
  rw [← hw_676] at hres
  obtain ⟨g1, g2, g3⟩ := hres
  refine lv_icmp_eq (tgt := 1058) hx hb dL_law_679 (by decide) (fun c_679 => ?_) (fun c_679 => ?_)
  · skip
    exact kk u_672 u_676.2.1 u_676.2.2.1 u_676.2.2.2.1 rm u_676.2.2.2.2 u_676.1 lvm (m_swB 401 kc be) fo H locs ls g3 hP hD hS (lv_sub hl [0, 1, 2, 3, 4] rfl)
  · skip
    exact absurd (g1) c_679
set_option maxHeartbeats 4000000 in
set_option maxRecDepth 100000 in
theorem law_c_undo {p : Program} {l : Launch} {e : Env} {s : State} {m : MethodId} {below : List Frame} {meth : Method} {c : Code} {b L : Nat} {xs : Nat → Int32} {D : va_G} {κ : Nat → ClassId} (hst : l.stackTraces = false) (C0 : lw_At p s m meth c b L xs) (hK : k_K D κ s) (hX : k_X (fun q : Nat => s.heap.size ≤ q) s) (hN : k_NC s) (hL : L ≤ 1536) {t : Nat} (ht : 3 * t + 3 ≤ L) {q0 qo : Nat} {q qh qr ql qe qm : Nat → Nat} {so le gr ne si ou bo : Nat → Int32} {n om ob : Nat} {cs : Nat → Nat → Nat} {gs : Nat → KH} {made pl kp : Nat} {ro : Nat → Int64} {wo : Int32} {lv : Nat → Int32} {e0 : KE} {kc : KC} {cp : Nat → Int32} {cn : Nat} {rm : Nat → Int64} {kn th : Int32} {lvm be : Nat → Int32} {fo : Nat → Int64} (hZ : p_Z ((so, le, gr, ne, si, ou, bo, n, om, ob), (cs, gs, made, pl, kp), ro, wo, lv, e0) kc cp cn rm kn) {H : Heap} {locs : List Loc} (hP : va_P D vwCl (List.flatten [wJ κ qo 1 fo, wN κ qm th kc cp cn rm kn lvm be, wX κ q0 q qh qr ql qe ((so, le, gr, ne, si, ou, bo, n, om, ob), (cs, gs, made, pl, kp), ro, wo, lv, e0)]) H) (hD : va_D (fun q : Nat => s.heap.size ≤ q) (List.flatten [wJ κ qo 1 fo, wN κ qm th kc cp cn rm kn lvm be, wX κ q0 q qh qr ql qe ((so, le, gr, ne, si, ou, bo, n, om, ob), (cs, gs, made, pl, kp), ro, wo, lv, e0)])) (hS : va_S (fun q : Nat => s.heap.size ≤ q) s.heap H locs) {ls : Array Slot} (hl : lv_has ls 8 [(0, .ref b), (1, .ref q0), (2, .ref (qm 0)), (3, .ref qo), (4, .int (nI (3 * t)))]) (kk : w_go p l e s m below meth c b D κ t q0 qo q qh qr ql qe qm (200 + 24 * t + 24) (80000 + 2900 * t + 2900) 1058) : W p l e room_1 s m #[Value.ref b] below meth c H locs (200 + 24 * t) (80000 + 2900 * t) (lw_Z below #[Value.ref b] s) (F0 m 684 ls []) := by
  obtain ⟨hx, hb, hr, hml, hown, hts0, hXs, hbl, hlocks, hgv⟩ := C0
  have hts : ∀ w ∈ wsL_law, w.before #[Value.ref b] s = true := fun w hw => hts0 w (wsL_law_in w hw)
  have hA : ∀ q : Nat, s.heap.size ≤ q → (fun q : Nat => s.heap.size ≤ q) q := fun _ h => h
  have hbA : ¬ (fun q : Nat => s.heap.size ≤ q) b := Nat.not_le.mpr hbl
  obtain ⟨en, eo, hN9, hO9, hI⟩ := p_Zo hZ
  obtain ⟨ek, hcn, hpl, hpm, hma, hgs, hH9⟩ : kp = cn ∧ cn ≤ 30 ∧ pl < 30 ∧ pl ≤ made ∧ made ≤ 30 ∧ (∀ k, k < made → k_bG (gs k)) ∧ True := ⟨hZ.2.2.1.1, hZ.2.2.1.2.1, hZ.2.2.1.2.2.1, hZ.2.2.1.2.2.2.1, hZ.2.2.1.2.2.2.2.1, hZ.2.2.1.2.2.2.2.2.1, trivial⟩
  have hnd := hI.1.2.1
  have hoc := hI.1.2.2.1
  have hob := hO9.2.2.2
  have hwo : wo = 0 ∨ wo = 1 := by have e1 : wo = kn := hZ.2.2.2.1; rw [e1]; exact hZ.2.2.2.2.1
  have hown : s.vm.findClass RL = some m.cls := hown
  have hlat : kp ≠ 0 → (if 0 < pl then pl - 1 else 29) < made := fun q => (p_undoZ (u := ((so, le, gr, ne, si, ou, bo, n, om, ob), (cs, gs, made, pl, kp), ro, wo, lv, e0)) hZ (by omega)).1
  refine lv_aload_n hx hb dL_law_684 rfl (lv_at hl 1 rfl) ?_
  refine k_cSNi (D := D) (κ := κ) (qc := (RX6, TX6, 5)) (ci := 6) (q0 := 0) (Wl := [wJ κ qo 1 fo, wN κ qm th kc cp cn rm kn lvm be, wX κ q0 q qh qr ql qe ((so, le, gr, ne, si, ou, bo, n, om, ob), (cs, gs, made, pl, kp), ro, wo, lv, e0)]) (Wc := [wX κ q0 q qh qr ql qe ((so, le, gr, ne, si, ou, bo, n, om, ob), (cs, gs, made, pl, kp), ro, wo, lv, e0)]) (W' := fun u_685 => [wX κ q0 q qh qr ql qe u_685]) (Wn := fun u_685 => [wJ κ qo 1 fo, wN κ qm th kc cp cn rm kn lvm be, wX κ q0 q qh qr ql qe u_685]) ⟨hx, hb, hml, hown, hts⟩ (c_X6_undo l D κ _ q0 qh qr ql qe q so le gr ne si ou bo n om ob cs gs made pl kp ro wo lv e0  (by omega) (by omega) (by omega) hgs hpl hpm hma (by omega) hlat) (cwV 0 hts gL_law_X6_undo rfl rfl rfl (by decide +kernel) ⟨Nat.le_of_ble_eq_true rfl, Nat.le_of_ble_eq_true rfl⟩) hK hP hD hS hA [2] (by decide) rfl (List.flatten_singleton) (fun _ => List.flatten_singleton) rfl rfl (fun _ => rfl) (fun _ => rfl) (As := []) (rest := []) rfl rfl hl.1 (Nat.le_of_ble_eq_true rfl) dL_law_685 ⟨(by show 200 + 24 * t + 24 ≤ 601024; omega), (by show 80000 + 2900 * t + 2900 ≤ 7293034; omega)⟩ (fun r_685 u_685 H locs hw_685 hP hD hS => ?_)
  have hP : va_P D vwCl (List.flatten [wJ κ qo 1 fo, wN κ qm th kc cp cn rm kn lvm be, wX κ q0 q qh qr ql qe u_685]) H := hP
  have hD : va_D (fun q : Nat => s.heap.size ≤ q) (List.flatten [wJ κ qo 1 fo, wN κ qm th kc cp cn rm kn lvm be, wX κ q0 q qh qr ql qe u_685]) := hD
  refine lv_aload_n hx hb dL_law_688 rfl (lv_at hl 2 rfl) ?_
  by_cases h0 : cn = 0
  · skip
    refine k_cSNi (D := D) (κ := κ) (qc := (RX7, TX7, 15)) (ci := 7) (q0 := 0) (Wl := [wJ κ qo 1 fo, wN κ qm th kc cp cn rm kn lvm be, wX κ q0 q qh qr ql qe u_685]) (Wc := [wN κ qm th kc cp cn rm kn lvm be]) (W' := fun u_689 => [wN κ qm 0 kc cp cn rm kn lvm be]) (Wn := fun u_689 => [wJ κ qo 1 fo, wN κ qm 0 kc cp cn rm kn lvm be, wX κ q0 q qh qr ql qe u_685]) ⟨hx, hb, hml, hown, hts⟩ (c_X7_undo0 l D κ _ qm th kc cp cn rm kn lvm be   (by omega) (by omega) (by omega) h0) (cwV 0 hts gL_law_X7_undo rfl rfl rfl (by decide +kernel) ⟨Nat.le_of_ble_eq_true rfl, Nat.le_of_ble_eq_true rfl⟩) hK hP hD hS hA [1] (by decide) rfl (List.flatten_singleton) (fun _ => List.flatten_singleton) rfl rfl (fun _ => rfl) (fun _ => rfl) (As := []) (rest := [.int r_685]) rfl rfl hl.1 (Nat.le_of_ble_eq_true rfl) dL_law_689 ⟨(by show 200 + 24 * t + 24 + 0 ≤ 601024; omega), (by show 80000 + 2900 * t + 2900 + 0 ≤ 7293034; omega)⟩ (fun r_689 u_689 H locs hw_689 hP hD hS => ?_)
    have hP : va_P D vwCl (List.flatten [wJ κ qo 1 fo, wN κ qm 0 kc cp cn rm kn lvm be, wX κ q0 q qh qr ql qe u_685]) H := hP
    have hD : va_D (fun q : Nat => s.heap.size ≤ q) (List.flatten [wJ κ qo 1 fo, wN κ qm 0 kc cp cn rm kn lvm be, wX κ q0 q qh qr ql qe u_685]) := hD
    have hu9 : r_685 = 0 ∧ u_685 = ((so, le, gr, ne, si, ou, bo, n, om, ob), (cs, gs, made, pl, kp), ro, wo, lv, e0) := by rcases hw_685 with ⟨_, h4, h5⟩ | ⟨h4, _⟩; exact ⟨h4, h5⟩; exact absurd (by omega) h4
    have hz9 : p_Z u_685 kc cp cn rm kn := by rw [hu9.2]; exact hZ
    refine lv_icmp_eq (tgt := 1058) hx hb dL_law_692 (by decide) (fun c_692 => ?_) (fun c_692 => ?_)
    · skip
      exact kk u_685 kc cp cn rm kn 0 lvm be fo H locs ls hz9 hP hD hS (lv_sub hl [0, 1, 2, 3, 4] rfl)
    · skip
      exact absurd (hu9.1.trans hw_689.symm) c_692
  · skip
    obtain ⟨-, d9, hsl9, hd1, hd2, hz8⟩ := p_undoZ (u := u_685) hZ h0
    refine k_cSNi (D := D) (κ := κ) (qc := (RX7, TX7, 15)) (ci := 7) (q0 := 0) (Wl := [wJ κ qo 1 fo, wN κ qm th kc cp cn rm kn lvm be, wX κ q0 q qh qr ql qe u_685]) (Wc := [wN κ qm th kc cp cn rm kn lvm be]) (W' := fun u_689 => [wN κ qm 0 u_689.1 cp u_689.2 rm 0 lvm be]) (Wn := fun u_689 => [wJ κ qo 1 fo, wN κ qm 0 u_689.1 cp u_689.2 rm 0 lvm be, wX κ q0 q qh qr ql qe u_685]) ⟨hx, hb, hml, hown, hts⟩ (c_X7_undo l D κ _ qm th kc cp cn rm kn lvm be  d9 (by omega) (by omega) (by omega) (by omega) hsl9 hd1 hd2) (cwV 0 hts gL_law_X7_undo rfl rfl rfl (by decide +kernel) ⟨Nat.le_of_ble_eq_true rfl, Nat.le_of_ble_eq_true rfl⟩) hK hP hD hS hA [1] (by decide) rfl (List.flatten_singleton) (fun _ => List.flatten_singleton) rfl rfl (fun _ => rfl) (fun _ => rfl) (As := []) (rest := [.int r_685]) rfl rfl hl.1 (Nat.le_of_ble_eq_true rfl) dL_law_689 ⟨(by show 200 + 24 * t + 24 + 0 ≤ 601024; omega), (by show 80000 + 2900 * t + 2900 + 0 ≤ 7293034; omega)⟩ (fun r_689 u_689 H locs hw_689 hP hD hS => ?_)
    have hP : va_P D vwCl (List.flatten [wJ κ qo 1 fo, wN κ qm 0 u_689.1 cp u_689.2 rm 0 lvm be, wX κ q0 q qh qr ql qe u_685]) H := hP
    have hD : va_D (fun q : Nat => s.heap.size ≤ q) (List.flatten [wJ κ qo 1 fo, wN κ qm 0 u_689.1 cp u_689.2 rm 0 lvm be, wX κ q0 q qh qr ql qe u_685]) := hD
    have hz9 : r_685 = 1 ∧ p_Z u_685 (m_ld d9 kc) cp (cn - 1) rm 0 := by rcases hw_685 with ⟨h4, _⟩ | ⟨h3, h4, h5, h6, h7, h8, h10, h11, h12, h13, _⟩; exact absurd (by omega) h0; exact ⟨h4, hz8 h5 h7 h8 h10 h11 h13⟩
    obtain ⟨e8, e9⟩ := hw_689
    have e10 : u_689.1 = m_ld d9 kc := by rw [e9]
    have e11 : u_689.2 = cn - 1 := by rw [e9]
    have hz7 : p_Z u_685 u_689.1 cp u_689.2 rm 0 := by rw [e10, e11]; exact hz9.2
    refine lv_icmp_eq (tgt := 1058) hx hb dL_law_692 (by decide) (fun c_692 => ?_) (fun c_692 => ?_)
    · skip
      exact kk u_685 u_689.1 cp u_689.2 rm 0 0 lvm be fo H locs ls hz7 hP hD hS (lv_sub hl [0, 1, 2, 3, 4] rfl)
    · skip
      exact absurd (hz9.1.trans e8.symm) c_692
set_option maxHeartbeats 4000000 in
set_option maxRecDepth 100000 in
theorem law_c_simulate {p : Program} {l : Launch} {e : Env} {s : State} {m : MethodId} {below : List Frame} {meth : Method} {c : Code} {b L : Nat} {xs : Nat → Int32} {D : va_G} {κ : Nat → ClassId} (hst : l.stackTraces = false) (C0 : lw_At p s m meth c b L xs) (hK : k_K D κ s) (hX : k_X (fun q : Nat => s.heap.size ≤ q) s) (hN : k_NC s) (hL : L ≤ 1536) {t : Nat} (ht : 3 * t + 3 ≤ L) {q0 qo : Nat} {q qh qr ql qe qm : Nat → Nat} {so le gr ne si ou bo : Nat → Int32} {n om ob : Nat} {cs : Nat → Nat → Nat} {gs : Nat → KH} {made pl kp : Nat} {ro : Nat → Int64} {wo : Int32} {lv : Nat → Int32} {e0 : KE} {kc : KC} {cp : Nat → Int32} {cn : Nat} {rm : Nat → Int64} {kn th : Int32} {lvm be : Nat → Int32} {fo : Nat → Int64} (hZ : p_Z ((so, le, gr, ne, si, ou, bo, n, om, ob), (cs, gs, made, pl, kp), ro, wo, lv, e0) kc cp cn rm kn) {H : Heap} {locs : List Loc} (hP : va_P D vwCl (List.flatten [wJ κ qo 1 fo, wN κ qm th kc cp cn rm kn lvm be, wX κ q0 q qh qr ql qe ((so, le, gr, ne, si, ou, bo, n, om, ob), (cs, gs, made, pl, kp), ro, wo, lv, e0)]) H) (hD : va_D (fun q : Nat => s.heap.size ≤ q) (List.flatten [wJ κ qo 1 fo, wN κ qm th kc cp cn rm kn lvm be, wX κ q0 q qh qr ql qe ((so, le, gr, ne, si, ou, bo, n, om, ob), (cs, gs, made, pl, kp), ro, wo, lv, e0)])) (hS : va_S (fun q : Nat => s.heap.size ≤ q) s.heap H locs) {ls : Array Slot} (hl : lv_has ls 8 [(0, .ref b), (1, .ref q0), (2, .ref (qm 0)), (3, .ref qo), (4, .int (nI (3 * t)))]) (kk : w_go p l e s m below meth c b D κ t q0 qo q qh qr ql qe qm (200 + 24 * t + 24) (80000 + 2900 * t + 2900) 1058) : W p l e room_1 s m #[Value.ref b] below meth c H locs (200 + 24 * t) (80000 + 2900 * t) (lw_Z below #[Value.ref b] s) (F0 m 697 ls []) := by
  obtain ⟨hx, hb, hr, hml, hown, hts0, hXs, hbl, hlocks, hgv⟩ := C0
  have hts : ∀ w ∈ wsL_law, w.before #[Value.ref b] s = true := fun w hw => hts0 w (wsL_law_in w hw)
  have hA : ∀ q : Nat, s.heap.size ≤ q → (fun q : Nat => s.heap.size ≤ q) q := fun _ h => h
  have hbA : ¬ (fun q : Nat => s.heap.size ≤ q) b := Nat.not_le.mpr hbl
  obtain ⟨en, eo, hN9, hO9, hI⟩ := p_Zo hZ
  obtain ⟨ek, hcn, hpl, hpm, hma, hgs, hH9⟩ : kp = cn ∧ cn ≤ 30 ∧ pl < 30 ∧ pl ≤ made ∧ made ≤ 30 ∧ (∀ k, k < made → k_bG (gs k)) ∧ True := ⟨hZ.2.2.1.1, hZ.2.2.1.2.1, hZ.2.2.1.2.2.1, hZ.2.2.1.2.2.2.1, hZ.2.2.1.2.2.2.2.1, hZ.2.2.1.2.2.2.2.2.1, trivial⟩
  have hnd := hI.1.2.1
  have hoc := hI.1.2.2.1
  have hob := hO9.2.2.2
  have hwo : wo = 0 ∨ wo = 1 := by have e1 : wo = kn := hZ.2.2.2.1; rw [e1]; exact hZ.2.2.2.2.1
  have hown : s.vm.findClass RL = some m.cls := hown
  refine lv_aload_n hx hb dL_law_697 rfl (lv_at hl 1 rfl) ?_
  refine lv_aload_n hx hb dL_law_698 rfl (lv_at hl 0 rfl) ?_
  refine lv_iload hx hb dL_law_699 (lv_at hl 4 rfl) ?_
  refine lv_iconst (v := 1) hx hb dL_law_701 (by decide) ?_
  refine lv_iadd hx hb dL_law_702 ?_
  refine lv_topi (nm_r (nI_add (3 * t) 1) ?_)
  refine va_sld hx hb hXs hbl hbA hS (vp_in_nI (show (3 * t) + 1 < L by omega) (by omega)) dL_law_703 ?_
  rw [nI_clamp (show (3 * t) + 1 < 2 ^ 31 by omega)]
  refine lv_i2l (v := Int32.toInt64 (xs ((3 * t) + 1))) hx hb dL_law_704 rfl ?_
  refine lv_bipush (v := 32) hx hb dL_law_705 (by decide) ?_
  refine lv_lshl (v := k_lshl (Int32.toInt64 (xs ((3 * t) + 1))) 32) hx hb dL_law_707 rfl ?_
  refine lv_aload_n hx hb dL_law_708 rfl (lv_at hl 0 rfl) ?_
  refine lv_iload hx hb dL_law_709 (lv_at hl 4 rfl) ?_
  refine lv_iconst (v := 2) hx hb dL_law_711 (by decide) ?_
  refine lv_iadd hx hb dL_law_712 ?_
  refine lv_topi (nm_r (nI_add (3 * t) 2) ?_)
  refine va_sld hx hb hXs hbl hbA hS (vp_in_nI (show (3 * t) + 2 < L by omega) (by omega)) dL_law_713 ?_
  rw [nI_clamp (show (3 * t) + 2 < 2 ^ 31 by omega)]
  refine lv_i2l (v := Int32.toInt64 (xs ((3 * t) + 2))) hx hb dL_law_714 rfl ?_
  refine lv_ldc2 (v := (4294967295)) hx hb hown (hts (.constantLong RL 112 (4294967295)) (by decide +kernel)) dL_law_715 ?_
  refine lv_land hx hb dL_law_718 ?_
  refine lv_lor hx hb dL_law_719 ?_
  refine k_cSNi (D := D) (κ := κ) (qc := (RX6, TX6, 5)) (ci := 6) (q0 := 0) (Wl := [wJ κ qo 1 fo, wN κ qm th kc cp cn rm kn lvm be, wX κ q0 q qh qr ql qe ((so, le, gr, ne, si, ou, bo, n, om, ob), (cs, gs, made, pl, kp), ro, wo, lv, e0)]) (Wc := [wX κ q0 q qh qr ql qe ((so, le, gr, ne, si, ou, bo, n, om, ob), (cs, gs, made, pl, kp), ro, wo, lv, e0)]) (W' := fun u_720 => [wX κ q0 q qh qr ql qe u_720]) (Wn := fun u_720 => [wJ κ qo 1 fo, wN κ qm th kc cp cn rm kn lvm be, wX κ q0 q qh qr ql qe u_720]) ⟨hx, hb, hml, hown, hts⟩ (c_X6_simulate l D κ _ q0 qh qr ql qe q so le gr ne si ou bo n om ob cs gs made pl kp ro wo lv e0 ((k_lshl (Int32.toInt64 (xs ((3 * t) + 1))) 32) ||| ((Int32.toInt64 (xs ((3 * t) + 2))) &&& (4294967295))) (by omega) (by omega) (by omega) hgs hpl hpm hma (by omega) ) (cwV 1 hts gL_law_X6_simulate rfl rfl rfl (by decide +kernel) ⟨Nat.le_of_ble_eq_true rfl, Nat.le_of_ble_eq_true rfl⟩) hK hP hD hS hA [2] (by decide) rfl (List.flatten_singleton) (fun _ => List.flatten_singleton) rfl rfl (fun _ => rfl) (fun _ => rfl) (As := [.long ((k_lshl (Int32.toInt64 (xs ((3 * t) + 1))) 32) ||| ((Int32.toInt64 (xs ((3 * t) + 2))) &&& (4294967295)))]) (rest := []) rfl rfl hl.1 (Nat.le_of_ble_eq_true rfl) dL_law_720 ⟨(by show 200 + 24 * t + 24 ≤ 601024; omega), (by show 80000 + 2900 * t + 2900 ≤ 7293034; omega)⟩ (fun r_720 u_720 H locs hw_720 hP hD hS => ?_)
  have hP : va_P D vwCl (List.flatten [wJ κ qo 1 fo, wN κ qm th kc cp cn rm kn lvm be, wX κ q0 q qh qr ql qe u_720]) H := hP
  have hD : va_D (fun q : Nat => s.heap.size ≤ q) (List.flatten [wJ κ qo 1 fo, wN κ qm th kc cp cn rm kn lvm be, wX κ q0 q qh qr ql qe u_720]) := hD
  obtain ⟨h9, hh9, hh4⟩ := p_hgr hI lvm
  refine lv_aload_n hx hb dL_law_723 rfl (lv_at hl 2 rfl) ?_
  refine lv_aload_n hx hb dL_law_724 rfl (lv_at hl 0 rfl) ?_
  refine lv_iload hx hb dL_law_725 (lv_at hl 4 rfl) ?_
  refine lv_iconst (v := 1) hx hb dL_law_727 (by decide) ?_
  refine lv_iadd hx hb dL_law_728 ?_
  refine lv_topi (nm_r (nI_add (3 * t) 1) ?_)
  refine va_sld hx hb hXs hbl hbA hS (vp_in_nI (show (3 * t) + 1 < L by omega) (by omega)) dL_law_729 ?_
  rw [nI_clamp (show (3 * t) + 1 < 2 ^ 31 by omega)]
  refine lv_i2l (v := Int32.toInt64 (xs ((3 * t) + 1))) hx hb dL_law_730 rfl ?_
  refine lv_bipush (v := 32) hx hb dL_law_731 (by decide) ?_
  refine lv_lshl (v := k_lshl (Int32.toInt64 (xs ((3 * t) + 1))) 32) hx hb dL_law_733 rfl ?_
  refine lv_aload_n hx hb dL_law_734 rfl (lv_at hl 0 rfl) ?_
  refine lv_iload hx hb dL_law_735 (lv_at hl 4 rfl) ?_
  refine lv_iconst (v := 2) hx hb dL_law_737 (by decide) ?_
  refine lv_iadd hx hb dL_law_738 ?_
  refine lv_topi (nm_r (nI_add (3 * t) 2) ?_)
  refine va_sld hx hb hXs hbl hbA hS (vp_in_nI (show (3 * t) + 2 < L by omega) (by omega)) dL_law_739 ?_
  rw [nI_clamp (show (3 * t) + 2 < 2 ^ 31 by omega)]
  refine lv_i2l (v := Int32.toInt64 (xs ((3 * t) + 2))) hx hb dL_law_740 rfl ?_
  refine lv_ldc2 (v := (4294967295)) hx hb hown (hts (.constantLong RL 112 (4294967295)) (by decide +kernel)) dL_law_741 ?_
  refine lv_land hx hb dL_law_744 ?_
  refine lv_lor hx hb dL_law_745 ?_
  refine k_cSNi (D := D) (κ := κ) (qc := (RX7, TX7, 15)) (ci := 7) (q0 := 0) (Wl := [wJ κ qo 1 fo, wN κ qm th kc cp cn rm kn lvm be, wX κ q0 q qh qr ql qe u_720]) (Wc := [wN κ qm th kc cp cn rm kn lvm be]) (W' := fun u_746 => [wN κ qm 0 kc cp cn u_746.1 1 u_746.2 be]) (Wn := fun u_746 => [wJ κ qo 1 fo, wN κ qm 0 kc cp cn u_746.1 1 u_746.2 be, wX κ q0 q qh qr ql qe u_720]) ⟨hx, hb, hml, hown, hts⟩ (c_X7_simulate l D κ _ qm th kc cp cn rm kn lvm be ((k_lshl (Int32.toInt64 (xs ((3 * t) + 1))) 32) ||| ((Int32.toInt64 (xs ((3 * t) + 2))) &&& (4294967295))) 400 h9 (by omega) (by omega) (by omega) (p_hlt hI) (p_hfin hI _) hh9 hh4) (cwV 1 hts gL_law_X7_simulate rfl rfl rfl (by decide +kernel) ⟨Nat.le_of_ble_eq_true rfl, Nat.le_of_ble_eq_true rfl⟩) hK hP hD hS hA [1] (by decide) rfl (List.flatten_singleton) (fun _ => List.flatten_singleton) rfl rfl (fun _ => rfl) (fun _ => rfl) (As := [.long ((k_lshl (Int32.toInt64 (xs ((3 * t) + 1))) 32) ||| ((Int32.toInt64 (xs ((3 * t) + 2))) &&& (4294967295)))]) (rest := [.int r_720]) rfl rfl hl.1 (Nat.le_of_ble_eq_true rfl) dL_law_746 ⟨(by show 200 + 24 * t + 24 + 0 ≤ 601024; omega), (by show 80000 + 2900 * t + 2900 + 0 ≤ 7293034; omega)⟩ (fun r_746 u_746 H locs hw_746 hP hD hS => ?_)
  have hP : va_P D vwCl (List.flatten [wJ κ qo 1 fo, wN κ qm 0 kc cp cn u_746.1 1 u_746.2 be, wX κ q0 q qh qr ql qe u_720]) H := hP
  have hD : va_D (fun q : Nat => s.heap.size ≤ q) (List.flatten [wJ κ qo 1 fo, wN κ qm 0 kc cp cn u_746.1 1 u_746.2 be, wX κ q0 q qh qr ql qe u_720]) := hD
  have hres := p_o_simulate ((k_lshl (Int32.toInt64 (xs ((3 * t) + 1))) 32) ||| ((Int32.toInt64 (xs ((3 * t) + 2))) &&& (4294967295))) hZ lvm hh9 hh4 hw_720
  rw [← hw_746] at hres
  obtain ⟨g1, g3⟩ := hres
  refine lv_icmp_eq (tgt := 1058) hx hb dL_law_749 (by decide) (fun c_749 => ?_) (fun c_749 => ?_)
  · skip
    exact kk u_720 kc cp cn u_746.1 1 0 u_746.2 be fo H locs ls g3 hP hD hS (lv_sub hl [0, 1, 2, 3, 4] rfl)
  · skip
    exact absurd (g1) c_749
set_option maxHeartbeats 4000000 in
set_option maxRecDepth 100000 in
theorem law_c_row {p : Program} {l : Launch} {e : Env} {s : State} {m : MethodId} {below : List Frame} {meth : Method} {c : Code} {b L : Nat} {xs : Nat → Int32} {D : va_G} {κ : Nat → ClassId} (hst : l.stackTraces = false) (C0 : lw_At p s m meth c b L xs) (hK : k_K D κ s) (hX : k_X (fun q : Nat => s.heap.size ≤ q) s) (hN : k_NC s) (hL : L ≤ 1536) {t : Nat} (ht : 3 * t + 3 ≤ L) {q0 qo : Nat} {q qh qr ql qe qm : Nat → Nat} {so le gr ne si ou bo : Nat → Int32} {n om ob : Nat} {cs : Nat → Nat → Nat} {gs : Nat → KH} {made pl kp : Nat} {ro : Nat → Int64} {wo : Int32} {lv : Nat → Int32} {e0 : KE} {kc : KC} {cp : Nat → Int32} {cn : Nat} {rm : Nat → Int64} {kn th : Int32} {lvm be : Nat → Int32} {fo : Nat → Int64} (hZ : p_Z ((so, le, gr, ne, si, ou, bo, n, om, ob), (cs, gs, made, pl, kp), ro, wo, lv, e0) kc cp cn rm kn) {H : Heap} {locs : List Loc} (hP : va_P D vwCl (List.flatten [wJ κ qo 1 fo, wN κ qm th kc cp cn rm kn lvm be, wX κ q0 q qh qr ql qe ((so, le, gr, ne, si, ou, bo, n, om, ob), (cs, gs, made, pl, kp), ro, wo, lv, e0)]) H) (hD : va_D (fun q : Nat => s.heap.size ≤ q) (List.flatten [wJ κ qo 1 fo, wN κ qm th kc cp cn rm kn lvm be, wX κ q0 q qh qr ql qe ((so, le, gr, ne, si, ou, bo, n, om, ob), (cs, gs, made, pl, kp), ro, wo, lv, e0)])) (hS : va_S (fun q : Nat => s.heap.size ≤ q) s.heap H locs) {ls : Array Slot} (hl : lv_has ls 8 [(0, .ref b), (1, .ref q0), (2, .ref (qm 0)), (3, .ref qo), (4, .int (nI (3 * t)))]) (kk : w_go p l e s m below meth c b D κ t q0 qo q qh qr ql qe qm (200 + 24 * t + 24) (80000 + 2900 * t + 2900) 1058) : W p l e room_1 s m #[Value.ref b] below meth c H locs (200 + 24 * t) (80000 + 2900 * t) (lw_Z below #[Value.ref b] s) (F0 m 754 ls []) := by
  obtain ⟨hx, hb, hr, hml, hown, hts0, hXs, hbl, hlocks, hgv⟩ := C0
  have hts : ∀ w ∈ wsL_law, w.before #[Value.ref b] s = true := fun w hw => hts0 w (wsL_law_in w hw)
  have hA : ∀ q : Nat, s.heap.size ≤ q → (fun q : Nat => s.heap.size ≤ q) q := fun _ h => h
  have hbA : ¬ (fun q : Nat => s.heap.size ≤ q) b := Nat.not_le.mpr hbl
  obtain ⟨en, eo, hN9, hO9, hI⟩ := p_Zo hZ
  obtain ⟨ek, hcn, hpl, hpm, hma, hgs, hH9⟩ : kp = cn ∧ cn ≤ 30 ∧ pl < 30 ∧ pl ≤ made ∧ made ≤ 30 ∧ (∀ k, k < made → k_bG (gs k)) ∧ True := ⟨hZ.2.2.1.1, hZ.2.2.1.2.1, hZ.2.2.1.2.2.1, hZ.2.2.1.2.2.2.1, hZ.2.2.1.2.2.2.2.1, hZ.2.2.1.2.2.2.2.2.1, trivial⟩
  have hnd := hI.1.2.1
  have hoc := hI.1.2.2.1
  have hob := hO9.2.2.2
  have hwo : wo = 0 ∨ wo = 1 := by have e1 : wo = kn := hZ.2.2.2.1; rw [e1]; exact hZ.2.2.2.2.1
  have hown : s.vm.findClass RL = some m.cls := hown
  refine lv_aload_n hx hb dL_law_754 rfl (lv_at hl 1 rfl) ?_
  refine lv_aload_n hx hb dL_law_755 rfl (lv_at hl 0 rfl) ?_
  refine lv_iload hx hb dL_law_756 (lv_at hl 4 rfl) ?_
  refine lv_iconst (v := 1) hx hb dL_law_758 (by decide) ?_
  refine lv_iadd hx hb dL_law_759 ?_
  refine lv_topi (nm_r (nI_add (3 * t) 1) ?_)
  refine va_sld hx hb hXs hbl hbA hS (vp_in_nI (show (3 * t) + 1 < L by omega) (by omega)) dL_law_760 ?_
  rw [nI_clamp (show (3 * t) + 1 < 2 ^ 31 by omega)]
  refine lv_aload_n hx hb dL_law_761 rfl (lv_at hl 3 rfl) ?_
  refine k_cYW (D := D) (κ := κ) (Wl := [wJ κ qo 1 fo, wN κ qm th kc cp cn rm kn lvm be, wX κ q0 q qh qr ql qe ((so, le, gr, ne, si, ou, bo, n, om, ob), (cs, gs, made, pl, kp), ro, wo, lv, e0)]) (Wc := [wJ κ qo 1 fo, wX κ q0 q qh qr ql qe ((so, le, gr, ne, si, ou, bo, n, om, ob), (cs, gs, made, pl, kp), ro, wo, lv, e0)]) (W' := fun u_762 => [wJ κ qo 1 u_762.1, wX κ q0 q qh qr ql qe u_762.2]) (Wn := fun u_762 => [wJ κ qo 1 u_762.1, wN κ qm th kc cp cn rm kn lvm be, wX κ q0 q qh qr ql qe u_762.2]) ⟨hx, hb, hml, hown, hts⟩ (c_L_row l D κ _ q0 qh qr ql qe q so le gr ne si ou bo n om ob cs gs made pl kp ro wo lv e0 qo fo (xs ((3 * t) + 1)) hst (by omega) (by omega) (by omega) hgs hpl hpm hma (by omega) hwo) (vx_cwSW 3 hts gL_law_L_row rfl rfl rfl (by decide +kernel) ⟨Nat.le_of_ble_eq_true rfl, Nat.le_of_ble_eq_true rfl⟩) hK hX hN hP hD hS hA [0, 2] (by decide) rfl rfl (fun _ => rfl) (fun _ => rfl) (fun _ => rfl) (As := [.ref q0, .int (xs ((3 * t) + 1)), .ref qo]) (rest := []) rfl rfl hl.1 (Nat.le_of_ble_eq_true rfl) dL_law_762 ⟨(by show 200 + 24 * t + 24 ≤ 601024; omega), (by show 80000 + 2900 * t + 2900 ≤ 7293034; omega)⟩ (fun r_762 u_762 H locs hw_762 hP hD hS => ?_)
  have hP : va_P D vwCl (List.flatten [wJ κ qo 1 u_762.1, wN κ qm th kc cp cn rm kn lvm be, wX κ q0 q qh qr ql qe u_762.2]) H := hP
  have hD : va_D (fun q : Nat => s.heap.size ≤ q) (List.flatten [wJ κ qo 1 u_762.1, wN κ qm th kc cp cn rm kn lvm be, wX κ q0 q qh qr ql qe u_762.2]) := hD
  refine lv_istore (lv' := [(5, .int r_762), (0, .ref b), (1, .ref q0), (2, .ref (qm 0)), (3, .ref qo), (4, .int (nI (3 * t)))]) hx hb dL_law_765 hl (by decide) rfl (fun ls hl => ?_)
  refine lv_aload_n hx hb dL_law_767 rfl (lv_at hl 3 rfl) ?_
  refine lv_aload_n hx hb dL_law_768 rfl (lv_at hl 1 rfl) ?_
  refine lv_iload hx hb dL_law_769 (lv_at hl 5 rfl) ?_
  refine lv_iconst (v := 1) hx hb dL_law_771 (by decide) ?_
  refine lv_iadd hx hb dL_law_772 ?_
  refine lv_topi (nm_r (nI_add (3 * t) 1) ?_)
  refine va_sld hx hb hXs hbl hbA hS (vp_in_nI (show (3 * t) + 1 < L by omega) (by omega)) dL_law_773 ?_
  rw [nI_clamp (show (3 * t) + 1 < 2 ^ 31 by omega)]
  refine k_cSNl (D := D) (κ := κ) (qc := (RX7, TX7, 15)) (ci := 7) (q0 := 0) (Wl := [wJ κ qo 1 u_762.1, wN κ qm th kc cp cn rm kn lvm be, wX κ q0 q qh qr ql qe u_762.2]) (Wc := [wN κ qm th kc cp cn rm kn lvm be]) (W' := fun u_774 => [wN κ qm u_774 kc cp cn rm kn lvm be]) (Wn := fun u_774 => [wJ κ qo 1 u_762.1, wN κ qm u_774 kc cp cn rm kn lvm be, wX κ q0 q qh qr ql qe u_762.2]) ⟨hx, hb, hml, hown, hts⟩ (c_X7_row l D κ _ qm th kc cp cn rm kn lvm be (xs ((3 * t) + 1))  (by omega) (by omega) (by omega)) (cwV 1 hts gL_law_X7_row rfl rfl rfl (by decide +kernel) ⟨Nat.le_of_ble_eq_true rfl, Nat.le_of_ble_eq_true rfl⟩) hK hP hD hS hA [1] (by decide) rfl (List.flatten_singleton) (fun _ => List.flatten_singleton) rfl rfl (fun _ => rfl) (fun _ => rfl) (As := [.int (xs ((3 * t) + 1))]) (rest := []) rfl rfl hl.1 (Nat.le_of_ble_eq_true rfl) dL_law_774 ⟨(by show 200 + 24 * t + 24 + 0 ≤ 601024; omega), (by show 80000 + 2900 * t + 2900 + 0 ≤ 7293034; omega)⟩ (fun r_774 u_774 H locs hw_774 hP hD hS => ?_)
  have hP : va_P D vwCl (List.flatten [wJ κ qo 1 u_762.1, wN κ qm u_774 kc cp cn rm kn lvm be, wX κ q0 q qh qr ql qe u_762.2]) H := hP
  have hD : va_D (fun q : Nat => s.heap.size ≤ q) (List.flatten [wJ κ qo 1 u_762.1, wN κ qm u_774 kc cp cn rm kn lvm be, wX κ q0 q qh qr ql qe u_762.2]) := hD
  have hres := p_o_row (xs ((3 * t) + 1)) hZ hw_762
  rw [← hw_774] at hres
  obtain ⟨g1, g2, g3⟩ := hres
  have hI2 := g3.2.1
  have hc2 := g3.2.2.1.2.1
  have hn2 := hI2.1.2.1
  have ho2 := hI2.1.2.2.1
  refine lv_lstore (lv' := [(6, .long r_774), (5, .int r_762), (0, .ref b), (1, .ref q0), (2, .ref (qm 0)), (3, .ref qo), (4, .int (nI (3 * t)))]) hx hb dL_law_777 hl (by decide) rfl (fun ls hl => ?_)
  refine lv_aload_n hx hb dL_law_779 rfl (lv_at hl 4 rfl) ?_
  refine k_cRO (D := D) (κ := κ) (qc := (RX7, TX7, 15)) (ci := 7) (q0 := 0) ⟨hx, hb, hml, hown, hts⟩ (c_X7_thrown l D κ qm u_774 kc cp cn rm kn lvm be (by omega) (by omega) (by omega)) (cwV 0 hts gL_law_X7_thrown rfl rfl rfl (by decide +kernel) ⟨Nat.le_of_ble_eq_true rfl, Nat.le_of_ble_eq_true rfl⟩) hK (k_sub1 (S := wN κ qm u_774 kc cp cn rm kn lvm be) hP 1 rfl) rfl rfl (As := []) (rest := []) rfl rfl hl.1 (Nat.le_of_ble_eq_true rfl) dL_law_780 ⟨(by show 200 + 24 * t + 24 ≤ 601024; omega), (by show 80000 + 2900 * t + 2900 ≤ 7293034; omega)⟩ (fun r9 hr9 => ?_)
  refine lv_topi (nm_r hr9 ?_)
  refine lv_iload hx hb dL_law_783 (lv_at hl 1 rfl) ?_
  refine lv_icmp_eq (tgt := 790) hx hb dL_law_785 (by decide) (fun c_785 => ?_) (fun c_785 => ?_)
  · skip
    refine lv_iload hx hb dL_law_790 (lv_at hl 1 rfl) ?_
    refine lv_if_ne (tgt := 806) hx hb dL_law_792 (by decide) (fun c_792 => ?_) (fun c_792 => ?_)
    · skip
      refine lv_goto (tgt := 1058) hx hb dL_law_806 (by decide) ?_
      exact kk u_762.2 kc cp cn rm kn u_774 lvm be u_762.1 H locs ls g3 hP hD hS (lv_sub hl [2, 3, 4, 5, 6] rfl)
    · skip
      refine lv_aload_n hx hb dL_law_795 rfl (lv_at hl 5 rfl) ?_
      refine lv_iconst (v := 0) hx hb dL_law_796 (by decide) ?_
      refine k_lald (D := D) (j := 0) hx hb hK.1 hP 0 1 rfl rfl (by omega) (by omega) dL_law_797 ?_
      refine lv_lload hx hb dL_law_798 (lv_at hl 0 rfl) ?_
      refine W.lcmp hx hb dL_law_800 ?_
      refine lv_if_eq (tgt := 806) hx hb dL_law_801 (by decide) (fun c_801 => ?_) (fun c_801 => ?_)
      · skip
        refine lv_goto (tgt := 1058) hx hb dL_law_806 (by decide) ?_
        exact kk u_762.2 kc cp cn rm kn u_774 lvm be u_762.1 H locs ls g3 hP hD hS (lv_sub hl [2, 3, 4, 5, 6] rfl)
      · skip
        exact absurd ((lg_cmp_eq _ _).mpr (g2 c_792)) c_801
  · skip
    exact absurd g1 c_785
set_option maxHeartbeats 4000000 in
set_option maxRecDepth 100000 in
theorem law_c_level {p : Program} {l : Launch} {e : Env} {s : State} {m : MethodId} {below : List Frame} {meth : Method} {c : Code} {b L : Nat} {xs : Nat → Int32} {D : va_G} {κ : Nat → ClassId} (hst : l.stackTraces = false) (C0 : lw_At p s m meth c b L xs) (hK : k_K D κ s) (hX : k_X (fun q : Nat => s.heap.size ≤ q) s) (hN : k_NC s) (hL : L ≤ 1536) {t : Nat} (ht : 3 * t + 3 ≤ L) {q0 qo : Nat} {q qh qr ql qe qm : Nat → Nat} {so le gr ne si ou bo : Nat → Int32} {n om ob : Nat} {cs : Nat → Nat → Nat} {gs : Nat → KH} {made pl kp : Nat} {ro : Nat → Int64} {wo : Int32} {lv : Nat → Int32} {e0 : KE} {kc : KC} {cp : Nat → Int32} {cn : Nat} {rm : Nat → Int64} {kn th : Int32} {lvm be : Nat → Int32} {fo : Nat → Int64} (hZ : p_Z ((so, le, gr, ne, si, ou, bo, n, om, ob), (cs, gs, made, pl, kp), ro, wo, lv, e0) kc cp cn rm kn) {H : Heap} {locs : List Loc} (hP : va_P D vwCl (List.flatten [wJ κ qo 1 fo, wN κ qm th kc cp cn rm kn lvm be, wX κ q0 q qh qr ql qe ((so, le, gr, ne, si, ou, bo, n, om, ob), (cs, gs, made, pl, kp), ro, wo, lv, e0)]) H) (hD : va_D (fun q : Nat => s.heap.size ≤ q) (List.flatten [wJ κ qo 1 fo, wN κ qm th kc cp cn rm kn lvm be, wX κ q0 q qh qr ql qe ((so, le, gr, ne, si, ou, bo, n, om, ob), (cs, gs, made, pl, kp), ro, wo, lv, e0)])) (hS : va_S (fun q : Nat => s.heap.size ≤ q) s.heap H locs) {ls : Array Slot} (hl : lv_has ls 8 [(0, .ref b), (1, .ref q0), (2, .ref (qm 0)), (3, .ref qo), (4, .int (nI (3 * t)))]) (kk : w_go p l e s m below meth c b D κ t q0 qo q qh qr ql qe qm (200 + 24 * t + 24) (80000 + 2900 * t + 2900) 1058) : W p l e room_1 s m #[Value.ref b] below meth c H locs (200 + 24 * t) (80000 + 2900 * t) (lw_Z below #[Value.ref b] s) (F0 m 809 ls []) := by
  obtain ⟨hx, hb, hr, hml, hown, hts0, hXs, hbl, hlocks, hgv⟩ := C0
  have hts : ∀ w ∈ wsL_law, w.before #[Value.ref b] s = true := fun w hw => hts0 w (wsL_law_in w hw)
  have hA : ∀ q : Nat, s.heap.size ≤ q → (fun q : Nat => s.heap.size ≤ q) q := fun _ h => h
  have hbA : ¬ (fun q : Nat => s.heap.size ≤ q) b := Nat.not_le.mpr hbl
  obtain ⟨en, eo, hN9, hO9, hI⟩ := p_Zo hZ
  obtain ⟨ek, hcn, hpl, hpm, hma, hgs, hH9⟩ : kp = cn ∧ cn ≤ 30 ∧ pl < 30 ∧ pl ≤ made ∧ made ≤ 30 ∧ (∀ k, k < made → k_bG (gs k)) ∧ True := ⟨hZ.2.2.1.1, hZ.2.2.1.2.1, hZ.2.2.1.2.2.1, hZ.2.2.1.2.2.2.1, hZ.2.2.1.2.2.2.2.1, hZ.2.2.1.2.2.2.2.2.1, trivial⟩
  have hnd := hI.1.2.1
  have hoc := hI.1.2.2.1
  have hob := hO9.2.2.2
  have hwo : wo = 0 ∨ wo = 1 := by have e1 : wo = kn := hZ.2.2.2.1; rw [e1]; exact hZ.2.2.2.2.1
  have hown : s.vm.findClass RL = some m.cls := hown
  refine lv_aload_n hx hb dL_law_809 rfl (lv_at hl 1 rfl) ?_
  refine lv_aload_n hx hb dL_law_810 rfl (lv_at hl 0 rfl) ?_
  refine lv_iload hx hb dL_law_811 (lv_at hl 4 rfl) ?_
  refine lv_iconst (v := 1) hx hb dL_law_813 (by decide) ?_
  refine lv_iadd hx hb dL_law_814 ?_
  refine lv_topi (nm_r (nI_add (3 * t) 1) ?_)
  refine va_sld hx hb hXs hbl hbA hS (vp_in_nI (show (3 * t) + 1 < L by omega) (by omega)) dL_law_815 ?_
  rw [nI_clamp (show (3 * t) + 1 < 2 ^ 31 by omega)]
  refine lv_aload_n hx hb dL_law_816 rfl (lv_at hl 3 rfl) ?_
  refine k_cYW (D := D) (κ := κ) (Wl := [wJ κ qo 1 fo, wN κ qm th kc cp cn rm kn lvm be, wX κ q0 q qh qr ql qe ((so, le, gr, ne, si, ou, bo, n, om, ob), (cs, gs, made, pl, kp), ro, wo, lv, e0)]) (Wc := [wJ κ qo 1 fo, wX κ q0 q qh qr ql qe ((so, le, gr, ne, si, ou, bo, n, om, ob), (cs, gs, made, pl, kp), ro, wo, lv, e0)]) (W' := fun u_817 => [wJ κ qo 1 u_817.1, wX κ q0 q qh qr ql qe u_817.2]) (Wn := fun u_817 => [wJ κ qo 1 u_817.1, wN κ qm th kc cp cn rm kn lvm be, wX κ q0 q qh qr ql qe u_817.2]) ⟨hx, hb, hml, hown, hts⟩ (c_L_level l D κ _ q0 qh qr ql qe q so le gr ne si ou bo n om ob cs gs made pl kp ro wo lv e0 qo fo (xs ((3 * t) + 1)) hst (by omega) (by omega) (by omega) hgs hpl hpm hma (by omega)) (vx_cwSW 3 hts gL_law_L_level rfl rfl rfl (by decide +kernel) ⟨Nat.le_of_ble_eq_true rfl, Nat.le_of_ble_eq_true rfl⟩) hK hX hN hP hD hS hA [0, 2] (by decide) rfl rfl (fun _ => rfl) (fun _ => rfl) (fun _ => rfl) (As := [.ref q0, .int (xs ((3 * t) + 1)), .ref qo]) (rest := []) rfl rfl hl.1 (Nat.le_of_ble_eq_true rfl) dL_law_817 ⟨(by show 200 + 24 * t + 24 ≤ 601024; omega), (by show 80000 + 2900 * t + 2900 ≤ 7293034; omega)⟩ (fun r_817 u_817 H locs hw_817 hP hD hS => ?_)
  have hP : va_P D vwCl (List.flatten [wJ κ qo 1 u_817.1, wN κ qm th kc cp cn rm kn lvm be, wX κ q0 q qh qr ql qe u_817.2]) H := hP
  have hD : va_D (fun q : Nat => s.heap.size ≤ q) (List.flatten [wJ κ qo 1 u_817.1, wN κ qm th kc cp cn rm kn lvm be, wX κ q0 q qh qr ql qe u_817.2]) := hD
  refine lv_istore (lv' := [(5, .int r_817), (0, .ref b), (1, .ref q0), (2, .ref (qm 0)), (3, .ref qo), (4, .int (nI (3 * t)))]) hx hb dL_law_820 hl (by decide) rfl (fun ls hl => ?_)
  refine lv_aload_n hx hb dL_law_822 rfl (lv_at hl 3 rfl) ?_
  refine lv_aload_n hx hb dL_law_823 rfl (lv_at hl 1 rfl) ?_
  refine lv_iload hx hb dL_law_824 (lv_at hl 5 rfl) ?_
  refine lv_iconst (v := 1) hx hb dL_law_826 (by decide) ?_
  refine lv_iadd hx hb dL_law_827 ?_
  refine lv_topi (nm_r (nI_add (3 * t) 1) ?_)
  refine va_sld hx hb hXs hbl hbA hS (vp_in_nI (show (3 * t) + 1 < L by omega) (by omega)) dL_law_828 ?_
  rw [nI_clamp (show (3 * t) + 1 < 2 ^ 31 by omega)]
  refine k_cSNi (D := D) (κ := κ) (qc := (RX7, TX7, 15)) (ci := 7) (q0 := 0) (Wl := [wJ κ qo 1 u_817.1, wN κ qm th kc cp cn rm kn lvm be, wX κ q0 q qh qr ql qe u_817.2]) (Wc := [wN κ qm th kc cp cn rm kn lvm be]) (W' := fun u_829 => [wN κ qm u_829.1 kc cp cn rm kn u_829.2 be]) (Wn := fun u_829 => [wJ κ qo 1 u_817.1, wN κ qm u_829.1 kc cp cn rm kn u_829.2 be, wX κ q0 q qh qr ql qe u_817.2]) ⟨hx, hb, hml, hown, hts⟩ (c_X7_level l D κ _ qm th kc cp cn rm kn lvm be (xs ((3 * t) + 1)) 400 (by omega) (by omega) (by omega) (p_hlt hI) (p_hfin hI _)) (cwV 1 hts gL_law_X7_level rfl rfl rfl (by decide +kernel) ⟨Nat.le_of_ble_eq_true rfl, Nat.le_of_ble_eq_true rfl⟩) hK hP hD hS hA [1] (by decide) rfl (List.flatten_singleton) (fun _ => List.flatten_singleton) rfl rfl (fun _ => rfl) (fun _ => rfl) (As := [.int (xs ((3 * t) + 1))]) (rest := []) rfl rfl hl.1 (Nat.le_of_ble_eq_true rfl) dL_law_829 ⟨(by show 200 + 24 * t + 24 + 0 ≤ 601024; omega), (by show 80000 + 2900 * t + 2900 + 0 ≤ 7293034; omega)⟩ (fun r_829 u_829 H locs hw_829 hP hD hS => ?_)
  have hP : va_P D vwCl (List.flatten [wJ κ qo 1 u_817.1, wN κ qm u_829.1 kc cp cn rm kn u_829.2 be, wX κ q0 q qh qr ql qe u_817.2]) H := hP
  have hD : va_D (fun q : Nat => s.heap.size ≤ q) (List.flatten [wJ κ qo 1 u_817.1, wN κ qm u_829.1 kc cp cn rm kn u_829.2 be, wX κ q0 q qh qr ql qe u_817.2]) := hD
  have hres := p_o_level (xs ((3 * t) + 1)) hZ lvm hw_817
  rw [← hw_829] at hres
  obtain ⟨g1, g2, g3⟩ := hres
  have hI2 := g3.2.1
  have hc2 := g3.2.2.1.2.1
  have hn2 := hI2.1.2.1
  have ho2 := hI2.1.2.2.1
  refine lv_istore (lv' := [(6, .int r_829), (5, .int r_817), (0, .ref b), (1, .ref q0), (2, .ref (qm 0)), (3, .ref qo), (4, .int (nI (3 * t)))]) hx hb dL_law_832 hl (by decide) rfl (fun ls hl => ?_)
  refine lv_aload_n hx hb dL_law_834 rfl (lv_at hl 4 rfl) ?_
  refine k_cRO (D := D) (κ := κ) (qc := (RX7, TX7, 15)) (ci := 7) (q0 := 0) ⟨hx, hb, hml, hown, hts⟩ (c_X7_thrown l D κ qm u_829.1 kc cp cn rm kn u_829.2 be (by omega) (by omega) (by omega)) (cwV 0 hts gL_law_X7_thrown rfl rfl rfl (by decide +kernel) ⟨Nat.le_of_ble_eq_true rfl, Nat.le_of_ble_eq_true rfl⟩) hK (k_sub1 (S := wN κ qm u_829.1 kc cp cn rm kn u_829.2 be) hP 1 rfl) rfl rfl (As := []) (rest := []) rfl rfl hl.1 (Nat.le_of_ble_eq_true rfl) dL_law_835 ⟨(by show 200 + 24 * t + 24 ≤ 601024; omega), (by show 80000 + 2900 * t + 2900 ≤ 7293034; omega)⟩ (fun r9 hr9 => ?_)
  refine lv_topi (nm_r hr9 ?_)
  refine lv_iload hx hb dL_law_838 (lv_at hl 1 rfl) ?_
  refine lv_icmp_eq (tgt := 845) hx hb dL_law_840 (by decide) (fun c_840 => ?_) (fun c_840 => ?_)
  · skip
    refine lv_iload hx hb dL_law_845 (lv_at hl 1 rfl) ?_
    refine lv_if_ne (tgt := 862) hx hb dL_law_847 (by decide) (fun c_847 => ?_) (fun c_847 => ?_)
    · skip
      refine lv_goto (tgt := 1058) hx hb dL_law_862 (by decide) ?_
      exact kk u_817.2 kc cp cn rm kn u_829.1 u_829.2 be u_817.1 H locs ls g3 hP hD hS (lv_sub hl [2, 3, 4, 5, 6] rfl)
    · skip
      refine lv_aload_n hx hb dL_law_850 rfl (lv_at hl 5 rfl) ?_
      refine lv_iconst (v := 0) hx hb dL_law_851 (by decide) ?_
      refine k_lald (D := D) (j := 0) hx hb hK.1 hP 0 1 rfl rfl (by omega) (by omega) dL_law_852 ?_
      refine lv_iload hx hb dL_law_853 (lv_at hl 0 rfl) ?_
      refine lv_i2l (v := Int32.toInt64 r_829) hx hb dL_law_855 rfl ?_
      refine W.lcmp hx hb dL_law_856 ?_
      refine lv_if_eq (tgt := 862) hx hb dL_law_857 (by decide) (fun c_857 => ?_) (fun c_857 => ?_)
      · skip
        refine lv_goto (tgt := 1058) hx hb dL_law_862 (by decide) ?_
        exact kk u_817.2 kc cp cn rm kn u_829.1 u_829.2 be u_817.1 H locs ls g3 hP hD hS (lv_sub hl [2, 3, 4, 5, 6] rfl)
      · skip
        exact absurd ((lg_cmp_eq _ _).mpr (g2 c_847)) c_857
  · skip
    exact absurd g1 c_840
set_option maxHeartbeats 4000000 in
set_option maxRecDepth 100000 in
theorem law_c_fan {p : Program} {l : Launch} {e : Env} {s : State} {m : MethodId} {below : List Frame} {meth : Method} {c : Code} {b L : Nat} {xs : Nat → Int32} {D : va_G} {κ : Nat → ClassId} (hst : l.stackTraces = false) (C0 : lw_At p s m meth c b L xs) (hK : k_K D κ s) (hX : k_X (fun q : Nat => s.heap.size ≤ q) s) (hN : k_NC s) (hL : L ≤ 1536) {t : Nat} (ht : 3 * t + 3 ≤ L) {q0 qo : Nat} {q qh qr ql qe qm : Nat → Nat} {so le gr ne si ou bo : Nat → Int32} {n om ob : Nat} {cs : Nat → Nat → Nat} {gs : Nat → KH} {made pl kp : Nat} {ro : Nat → Int64} {wo : Int32} {lv : Nat → Int32} {e0 : KE} {kc : KC} {cp : Nat → Int32} {cn : Nat} {rm : Nat → Int64} {kn th : Int32} {lvm be : Nat → Int32} {fo : Nat → Int64} (hZ : p_Z ((so, le, gr, ne, si, ou, bo, n, om, ob), (cs, gs, made, pl, kp), ro, wo, lv, e0) kc cp cn rm kn) {H : Heap} {locs : List Loc} (hP : va_P D vwCl (List.flatten [wJ κ qo 1 fo, wN κ qm th kc cp cn rm kn lvm be, wX κ q0 q qh qr ql qe ((so, le, gr, ne, si, ou, bo, n, om, ob), (cs, gs, made, pl, kp), ro, wo, lv, e0)]) H) (hD : va_D (fun q : Nat => s.heap.size ≤ q) (List.flatten [wJ κ qo 1 fo, wN κ qm th kc cp cn rm kn lvm be, wX κ q0 q qh qr ql qe ((so, le, gr, ne, si, ou, bo, n, om, ob), (cs, gs, made, pl, kp), ro, wo, lv, e0)])) (hS : va_S (fun q : Nat => s.heap.size ≤ q) s.heap H locs) {ls : Array Slot} (hl : lv_has ls 8 [(0, .ref b), (1, .ref q0), (2, .ref (qm 0)), (3, .ref qo), (4, .int (nI (3 * t)))]) (kk : w_go p l e s m below meth c b D κ t q0 qo q qh qr ql qe qm (200 + 24 * t + 24) (80000 + 2900 * t + 2900) 1058) : W p l e room_1 s m #[Value.ref b] below meth c H locs (200 + 24 * t) (80000 + 2900 * t) (lw_Z below #[Value.ref b] s) (F0 m 865 ls []) := by
  obtain ⟨hx, hb, hr, hml, hown, hts0, hXs, hbl, hlocks, hgv⟩ := C0
  have hts : ∀ w ∈ wsL_law, w.before #[Value.ref b] s = true := fun w hw => hts0 w (wsL_law_in w hw)
  have hA : ∀ q : Nat, s.heap.size ≤ q → (fun q : Nat => s.heap.size ≤ q) q := fun _ h => h
  have hbA : ¬ (fun q : Nat => s.heap.size ≤ q) b := Nat.not_le.mpr hbl
  obtain ⟨en, eo, hN9, hO9, hI⟩ := p_Zo hZ
  obtain ⟨ek, hcn, hpl, hpm, hma, hgs, hH9⟩ : kp = cn ∧ cn ≤ 30 ∧ pl < 30 ∧ pl ≤ made ∧ made ≤ 30 ∧ (∀ k, k < made → k_bG (gs k)) ∧ True := ⟨hZ.2.2.1.1, hZ.2.2.1.2.1, hZ.2.2.1.2.2.1, hZ.2.2.1.2.2.2.1, hZ.2.2.1.2.2.2.2.1, hZ.2.2.1.2.2.2.2.2.1, trivial⟩
  have hnd := hI.1.2.1
  have hoc := hI.1.2.2.1
  have hob := hO9.2.2.2
  have hwo : wo = 0 ∨ wo = 1 := by have e1 : wo = kn := hZ.2.2.2.1; rw [e1]; exact hZ.2.2.2.2.1
  have hown : s.vm.findClass RL = some m.cls := hown
  refine lv_aload_n hx hb dL_law_865 rfl (lv_at hl 1 rfl) ?_
  refine lv_aload_n hx hb dL_law_866 rfl (lv_at hl 0 rfl) ?_
  refine lv_iload hx hb dL_law_867 (lv_at hl 4 rfl) ?_
  refine lv_iconst (v := 1) hx hb dL_law_869 (by decide) ?_
  refine lv_iadd hx hb dL_law_870 ?_
  refine lv_topi (nm_r (nI_add (3 * t) 1) ?_)
  refine va_sld hx hb hXs hbl hbA hS (vp_in_nI (show (3 * t) + 1 < L by omega) (by omega)) dL_law_871 ?_
  rw [nI_clamp (show (3 * t) + 1 < 2 ^ 31 by omega)]
  refine lv_aload_n hx hb dL_law_872 rfl (lv_at hl 3 rfl) ?_
  refine k_cYW (D := D) (κ := κ) (Wl := [wJ κ qo 1 fo, wN κ qm th kc cp cn rm kn lvm be, wX κ q0 q qh qr ql qe ((so, le, gr, ne, si, ou, bo, n, om, ob), (cs, gs, made, pl, kp), ro, wo, lv, e0)]) (Wc := [wJ κ qo 1 fo, wX κ q0 q qh qr ql qe ((so, le, gr, ne, si, ou, bo, n, om, ob), (cs, gs, made, pl, kp), ro, wo, lv, e0)]) (W' := fun u_873 => [wJ κ qo 1 u_873.1, wX κ q0 q qh qr ql qe u_873.2]) (Wn := fun u_873 => [wJ κ qo 1 u_873.1, wN κ qm th kc cp cn rm kn lvm be, wX κ q0 q qh qr ql qe u_873.2]) ⟨hx, hb, hml, hown, hts⟩ (c_L_fan l D κ _ q0 qh qr ql qe q so le gr ne si ou bo n om ob cs gs made pl kp ro wo lv e0 qo fo (xs ((3 * t) + 1)) hst (by omega) (by omega) (by omega) hgs hpl hpm hma (by omega)) (vx_cwSW 3 hts gL_law_L_fan rfl rfl rfl (by decide +kernel) ⟨Nat.le_of_ble_eq_true rfl, Nat.le_of_ble_eq_true rfl⟩) hK hX hN hP hD hS hA [0, 2] (by decide) rfl rfl (fun _ => rfl) (fun _ => rfl) (fun _ => rfl) (As := [.ref q0, .int (xs ((3 * t) + 1)), .ref qo]) (rest := []) rfl rfl hl.1 (Nat.le_of_ble_eq_true rfl) dL_law_873 ⟨(by show 200 + 24 * t + 24 ≤ 601024; omega), (by show 80000 + 2900 * t + 2900 ≤ 7293034; omega)⟩ (fun r_873 u_873 H locs hw_873 hP hD hS => ?_)
  have hP : va_P D vwCl (List.flatten [wJ κ qo 1 u_873.1, wN κ qm th kc cp cn rm kn lvm be, wX κ q0 q qh qr ql qe u_873.2]) H := hP
  have hD : va_D (fun q : Nat => s.heap.size ≤ q) (List.flatten [wJ κ qo 1 u_873.1, wN κ qm th kc cp cn rm kn lvm be, wX κ q0 q qh qr ql qe u_873.2]) := hD
  refine lv_istore (lv' := [(5, .int r_873), (0, .ref b), (1, .ref q0), (2, .ref (qm 0)), (3, .ref qo), (4, .int (nI (3 * t)))]) hx hb dL_law_876 hl (by decide) rfl (fun ls hl => ?_)
  refine lv_aload_n hx hb dL_law_878 rfl (lv_at hl 3 rfl) ?_
  refine lv_aload_n hx hb dL_law_879 rfl (lv_at hl 1 rfl) ?_
  refine lv_iload hx hb dL_law_880 (lv_at hl 5 rfl) ?_
  refine lv_iconst (v := 1) hx hb dL_law_882 (by decide) ?_
  refine lv_iadd hx hb dL_law_883 ?_
  refine lv_topi (nm_r (nI_add (3 * t) 1) ?_)
  refine va_sld hx hb hXs hbl hbA hS (vp_in_nI (show (3 * t) + 1 < L by omega) (by omega)) dL_law_884 ?_
  rw [nI_clamp (show (3 * t) + 1 < 2 ^ 31 by omega)]
  refine k_cSNi (D := D) (κ := κ) (qc := (RX7, TX7, 15)) (ci := 7) (q0 := 0) (Wl := [wJ κ qo 1 u_873.1, wN κ qm th kc cp cn rm kn lvm be, wX κ q0 q qh qr ql qe u_873.2]) (Wc := [wN κ qm th kc cp cn rm kn lvm be]) (W' := fun u_885 => [wN κ qm u_885 kc cp cn rm kn lvm be]) (Wn := fun u_885 => [wJ κ qo 1 u_873.1, wN κ qm u_885 kc cp cn rm kn lvm be, wX κ q0 q qh qr ql qe u_873.2]) ⟨hx, hb, hml, hown, hts⟩ (c_X7_fan l D κ _ qm th kc cp cn rm kn lvm be (xs ((3 * t) + 1))  (by omega) (by omega) (by omega) hI.2.1 (fun j hj => by have := p_hlo hI j hj; omega)) (cwV 1 hts gL_law_X7_fan rfl rfl rfl (by decide +kernel) ⟨Nat.le_of_ble_eq_true rfl, Nat.le_of_ble_eq_true rfl⟩) hK hP hD hS hA [1] (by decide) rfl (List.flatten_singleton) (fun _ => List.flatten_singleton) rfl rfl (fun _ => rfl) (fun _ => rfl) (As := [.int (xs ((3 * t) + 1))]) (rest := []) rfl rfl hl.1 (Nat.le_of_ble_eq_true rfl) dL_law_885 ⟨(by show 200 + 24 * t + 24 + 0 ≤ 601024; omega), (by show 80000 + 2900 * t + 2900 + 0 ≤ 7293034; omega)⟩ (fun r_885 u_885 H locs hw_885 hP hD hS => ?_)
  have hP : va_P D vwCl (List.flatten [wJ κ qo 1 u_873.1, wN κ qm u_885 kc cp cn rm kn lvm be, wX κ q0 q qh qr ql qe u_873.2]) H := hP
  have hD : va_D (fun q : Nat => s.heap.size ≤ q) (List.flatten [wJ κ qo 1 u_873.1, wN κ qm u_885 kc cp cn rm kn lvm be, wX κ q0 q qh qr ql qe u_873.2]) := hD
  have hres := p_o_fan (xs ((3 * t) + 1)) hZ hw_873
  rw [← hw_885] at hres
  obtain ⟨g1, g2, g3⟩ := hres
  have hI2 := g3.2.1
  have hc2 := g3.2.2.1.2.1
  have hn2 := hI2.1.2.1
  have ho2 := hI2.1.2.2.1
  refine lv_istore (lv' := [(6, .int r_885), (5, .int r_873), (0, .ref b), (1, .ref q0), (2, .ref (qm 0)), (3, .ref qo), (4, .int (nI (3 * t)))]) hx hb dL_law_888 hl (by decide) rfl (fun ls hl => ?_)
  refine lv_aload_n hx hb dL_law_890 rfl (lv_at hl 4 rfl) ?_
  refine k_cRO (D := D) (κ := κ) (qc := (RX7, TX7, 15)) (ci := 7) (q0 := 0) ⟨hx, hb, hml, hown, hts⟩ (c_X7_thrown l D κ qm u_885 kc cp cn rm kn lvm be (by omega) (by omega) (by omega)) (cwV 0 hts gL_law_X7_thrown rfl rfl rfl (by decide +kernel) ⟨Nat.le_of_ble_eq_true rfl, Nat.le_of_ble_eq_true rfl⟩) hK (k_sub1 (S := wN κ qm u_885 kc cp cn rm kn lvm be) hP 1 rfl) rfl rfl (As := []) (rest := []) rfl rfl hl.1 (Nat.le_of_ble_eq_true rfl) dL_law_891 ⟨(by show 200 + 24 * t + 24 ≤ 601024; omega), (by show 80000 + 2900 * t + 2900 ≤ 7293034; omega)⟩ (fun r9 hr9 => ?_)
  refine lv_topi (nm_r hr9 ?_)
  refine lv_iload hx hb dL_law_894 (lv_at hl 1 rfl) ?_
  refine lv_icmp_eq (tgt := 901) hx hb dL_law_896 (by decide) (fun c_896 => ?_) (fun c_896 => ?_)
  · skip
    refine lv_iload hx hb dL_law_901 (lv_at hl 1 rfl) ?_
    refine lv_if_ne (tgt := 918) hx hb dL_law_903 (by decide) (fun c_903 => ?_) (fun c_903 => ?_)
    · skip
      refine lv_goto (tgt := 1058) hx hb dL_law_918 (by decide) ?_
      exact kk u_873.2 kc cp cn rm kn u_885 lvm be u_873.1 H locs ls g3 hP hD hS (lv_sub hl [2, 3, 4, 5, 6] rfl)
    · skip
      refine lv_aload_n hx hb dL_law_906 rfl (lv_at hl 5 rfl) ?_
      refine lv_iconst (v := 0) hx hb dL_law_907 (by decide) ?_
      refine k_lald (D := D) (j := 0) hx hb hK.1 hP 0 1 rfl rfl (by omega) (by omega) dL_law_908 ?_
      refine lv_iload hx hb dL_law_909 (lv_at hl 0 rfl) ?_
      refine lv_i2l (v := Int32.toInt64 r_885) hx hb dL_law_911 rfl ?_
      refine W.lcmp hx hb dL_law_912 ?_
      refine lv_if_eq (tgt := 918) hx hb dL_law_913 (by decide) (fun c_913 => ?_) (fun c_913 => ?_)
      · skip
        refine lv_goto (tgt := 1058) hx hb dL_law_918 (by decide) ?_
        exact kk u_873.2 kc cp cn rm kn u_885 lvm be u_873.1 H locs ls g3 hP hD hS (lv_sub hl [2, 3, 4, 5, 6] rfl)
      · skip
        exact absurd ((lg_cmp_eq _ _).mpr (g2 c_903)) c_913
  · skip
    exact absurd g1 c_896
set_option maxHeartbeats 4000000 in
set_option maxRecDepth 100000 in
theorem law_c_node {p : Program} {l : Launch} {e : Env} {s : State} {m : MethodId} {below : List Frame} {meth : Method} {c : Code} {b L : Nat} {xs : Nat → Int32} {D : va_G} {κ : Nat → ClassId} (hst : l.stackTraces = false) (C0 : lw_At p s m meth c b L xs) (hK : k_K D κ s) (hX : k_X (fun q : Nat => s.heap.size ≤ q) s) (hN : k_NC s) (hL : L ≤ 1536) {t : Nat} (ht : 3 * t + 3 ≤ L) {q0 qo : Nat} {q qh qr ql qe qm : Nat → Nat} {so le gr ne si ou bo : Nat → Int32} {n om ob : Nat} {cs : Nat → Nat → Nat} {gs : Nat → KH} {made pl kp : Nat} {ro : Nat → Int64} {wo : Int32} {lv : Nat → Int32} {e0 : KE} {kc : KC} {cp : Nat → Int32} {cn : Nat} {rm : Nat → Int64} {kn th : Int32} {lvm be : Nat → Int32} {fo : Nat → Int64} (hZ : p_Z ((so, le, gr, ne, si, ou, bo, n, om, ob), (cs, gs, made, pl, kp), ro, wo, lv, e0) kc cp cn rm kn) {H : Heap} {locs : List Loc} (hP : va_P D vwCl (List.flatten [wJ κ qo 1 fo, wN κ qm th kc cp cn rm kn lvm be, wX κ q0 q qh qr ql qe ((so, le, gr, ne, si, ou, bo, n, om, ob), (cs, gs, made, pl, kp), ro, wo, lv, e0)]) H) (hD : va_D (fun q : Nat => s.heap.size ≤ q) (List.flatten [wJ κ qo 1 fo, wN κ qm th kc cp cn rm kn lvm be, wX κ q0 q qh qr ql qe ((so, le, gr, ne, si, ou, bo, n, om, ob), (cs, gs, made, pl, kp), ro, wo, lv, e0)])) (hS : va_S (fun q : Nat => s.heap.size ≤ q) s.heap H locs) {ls : Array Slot} (hl : lv_has ls 8 [(0, .ref b), (1, .ref q0), (2, .ref (qm 0)), (3, .ref qo), (4, .int (nI (3 * t)))]) (kk : w_go p l e s m below meth c b D κ t q0 qo q qh qr ql qe qm (200 + 24 * t + 24) (80000 + 2900 * t + 2900) 1058) : W p l e room_1 s m #[Value.ref b] below meth c H locs (200 + 24 * t) (80000 + 2900 * t) (lw_Z below #[Value.ref b] s) (F0 m 921 ls []) := by
  obtain ⟨hx, hb, hr, hml, hown, hts0, hXs, hbl, hlocks, hgv⟩ := C0
  have hts : ∀ w ∈ wsL_law, w.before #[Value.ref b] s = true := fun w hw => hts0 w (wsL_law_in w hw)
  have hA : ∀ q : Nat, s.heap.size ≤ q → (fun q : Nat => s.heap.size ≤ q) q := fun _ h => h
  have hbA : ¬ (fun q : Nat => s.heap.size ≤ q) b := Nat.not_le.mpr hbl
  obtain ⟨en, eo, hN9, hO9, hI⟩ := p_Zo hZ
  obtain ⟨ek, hcn, hpl, hpm, hma, hgs, hH9⟩ : kp = cn ∧ cn ≤ 30 ∧ pl < 30 ∧ pl ≤ made ∧ made ≤ 30 ∧ (∀ k, k < made → k_bG (gs k)) ∧ True := ⟨hZ.2.2.1.1, hZ.2.2.1.2.1, hZ.2.2.1.2.2.1, hZ.2.2.1.2.2.2.1, hZ.2.2.1.2.2.2.2.1, hZ.2.2.1.2.2.2.2.2.1, trivial⟩
  have hnd := hI.1.2.1
  have hoc := hI.1.2.2.1
  have hob := hO9.2.2.2
  have hwo : wo = 0 ∨ wo = 1 := by have e1 : wo = kn := hZ.2.2.2.1; rw [e1]; exact hZ.2.2.2.2.1
  have hown : s.vm.findClass RL = some m.cls := hown
  refine lv_aload_n hx hb dL_law_921 rfl (lv_at hl 1 rfl) ?_
  refine lv_aload_n hx hb dL_law_922 rfl (lv_at hl 0 rfl) ?_
  refine lv_iload hx hb dL_law_923 (lv_at hl 4 rfl) ?_
  refine lv_iconst (v := 1) hx hb dL_law_925 (by decide) ?_
  refine lv_iadd hx hb dL_law_926 ?_
  refine lv_topi (nm_r (nI_add (3 * t) 1) ?_)
  refine va_sld hx hb hXs hbl hbA hS (vp_in_nI (show (3 * t) + 1 < L by omega) (by omega)) dL_law_927 ?_
  rw [nI_clamp (show (3 * t) + 1 < 2 ^ 31 by omega)]
  refine lv_aload_n hx hb dL_law_928 rfl (lv_at hl 0 rfl) ?_
  refine lv_iload hx hb dL_law_929 (lv_at hl 4 rfl) ?_
  refine lv_iconst (v := 2) hx hb dL_law_931 (by decide) ?_
  refine lv_iadd hx hb dL_law_932 ?_
  refine lv_topi (nm_r (nI_add (3 * t) 2) ?_)
  refine va_sld hx hb hXs hbl hbA hS (vp_in_nI (show (3 * t) + 2 < L by omega) (by omega)) dL_law_933 ?_
  rw [nI_clamp (show (3 * t) + 2 < 2 ^ 31 by omega)]
  refine lv_aload_n hx hb dL_law_934 rfl (lv_at hl 3 rfl) ?_
  refine k_cYW (D := D) (κ := κ) (Wl := [wJ κ qo 1 fo, wN κ qm th kc cp cn rm kn lvm be, wX κ q0 q qh qr ql qe ((so, le, gr, ne, si, ou, bo, n, om, ob), (cs, gs, made, pl, kp), ro, wo, lv, e0)]) (Wc := [wJ κ qo 1 fo, wX κ q0 q qh qr ql qe ((so, le, gr, ne, si, ou, bo, n, om, ob), (cs, gs, made, pl, kp), ro, wo, lv, e0)]) (W' := fun u_935 => [wJ κ qo 1 u_935.1, wX κ q0 q qh qr ql qe u_935.2]) (Wn := fun u_935 => [wJ κ qo 1 u_935.1, wN κ qm th kc cp cn rm kn lvm be, wX κ q0 q qh qr ql qe u_935.2]) ⟨hx, hb, hml, hown, hts⟩ (c_L_node l D κ _ q0 qh qr ql qe q so le gr ne si ou bo n om ob cs gs made pl kp ro wo lv e0 qo fo (xs ((3 * t) + 1)) (xs ((3 * t) + 2)) hst (by omega) (by omega) (by omega) hgs hpl hpm hma (by omega)) (vx_cwSW 4 hts gL_law_L_node rfl rfl rfl (by decide +kernel) ⟨Nat.le_of_ble_eq_true rfl, Nat.le_of_ble_eq_true rfl⟩) hK hX hN hP hD hS hA [0, 2] (by decide) rfl rfl (fun _ => rfl) (fun _ => rfl) (fun _ => rfl) (As := [.ref q0, .int (xs ((3 * t) + 1)), .int (xs ((3 * t) + 2)), .ref qo]) (rest := []) rfl rfl hl.1 (Nat.le_of_ble_eq_true rfl) dL_law_935 ⟨(by show 200 + 24 * t + 24 ≤ 601024; omega), (by show 80000 + 2900 * t + 2900 ≤ 7293034; omega)⟩ (fun r_935 u_935 H locs hw_935 hP hD hS => ?_)
  have hP : va_P D vwCl (List.flatten [wJ κ qo 1 u_935.1, wN κ qm th kc cp cn rm kn lvm be, wX κ q0 q qh qr ql qe u_935.2]) H := hP
  have hD : va_D (fun q : Nat => s.heap.size ≤ q) (List.flatten [wJ κ qo 1 u_935.1, wN κ qm th kc cp cn rm kn lvm be, wX κ q0 q qh qr ql qe u_935.2]) := hD
  refine lv_istore (lv' := [(5, .int r_935), (0, .ref b), (1, .ref q0), (2, .ref (qm 0)), (3, .ref qo), (4, .int (nI (3 * t)))]) hx hb dL_law_938 hl (by decide) rfl (fun ls hl => ?_)
  refine lv_aload_n hx hb dL_law_940 rfl (lv_at hl 3 rfl) ?_
  refine lv_aload_n hx hb dL_law_941 rfl (lv_at hl 1 rfl) ?_
  refine lv_iload hx hb dL_law_942 (lv_at hl 5 rfl) ?_
  refine lv_iconst (v := 1) hx hb dL_law_944 (by decide) ?_
  refine lv_iadd hx hb dL_law_945 ?_
  refine lv_topi (nm_r (nI_add (3 * t) 1) ?_)
  refine va_sld hx hb hXs hbl hbA hS (vp_in_nI (show (3 * t) + 1 < L by omega) (by omega)) dL_law_946 ?_
  rw [nI_clamp (show (3 * t) + 1 < 2 ^ 31 by omega)]
  refine lv_aload_n hx hb dL_law_947 rfl (lv_at hl 1 rfl) ?_
  refine lv_iload hx hb dL_law_948 (lv_at hl 5 rfl) ?_
  refine lv_iconst (v := 2) hx hb dL_law_950 (by decide) ?_
  refine lv_iadd hx hb dL_law_951 ?_
  refine lv_topi (nm_r (nI_add (3 * t) 2) ?_)
  refine va_sld hx hb hXs hbl hbA hS (vp_in_nI (show (3 * t) + 2 < L by omega) (by omega)) dL_law_952 ?_
  rw [nI_clamp (show (3 * t) + 2 < 2 ^ 31 by omega)]
  refine k_cSNi (D := D) (κ := κ) (qc := (RX7, TX7, 15)) (ci := 7) (q0 := 0) (Wl := [wJ κ qo 1 u_935.1, wN κ qm th kc cp cn rm kn lvm be, wX κ q0 q qh qr ql qe u_935.2]) (Wc := [wN κ qm th kc cp cn rm kn lvm be]) (W' := fun u_953 => [wN κ qm u_953 kc cp cn rm kn lvm be]) (Wn := fun u_953 => [wJ κ qo 1 u_935.1, wN κ qm u_953 kc cp cn rm kn lvm be, wX κ q0 q qh qr ql qe u_935.2]) ⟨hx, hb, hml, hown, hts⟩ (c_X7_node l D κ _ qm th kc cp cn rm kn lvm be (xs ((3 * t) + 1)) (xs ((3 * t) + 2))  (by omega) (by omega) (by omega)) (cwV 2 hts gL_law_X7_node rfl rfl rfl (by decide +kernel) ⟨Nat.le_of_ble_eq_true rfl, Nat.le_of_ble_eq_true rfl⟩) hK hP hD hS hA [1] (by decide) rfl (List.flatten_singleton) (fun _ => List.flatten_singleton) rfl rfl (fun _ => rfl) (fun _ => rfl) (As := [.int (xs ((3 * t) + 1)), .int (xs ((3 * t) + 2))]) (rest := []) rfl rfl hl.1 (Nat.le_of_ble_eq_true rfl) dL_law_953 ⟨(by show 200 + 24 * t + 24 + 0 ≤ 601024; omega), (by show 80000 + 2900 * t + 2900 + 0 ≤ 7293034; omega)⟩ (fun r_953 u_953 H locs hw_953 hP hD hS => ?_)
  have hP : va_P D vwCl (List.flatten [wJ κ qo 1 u_935.1, wN κ qm u_953 kc cp cn rm kn lvm be, wX κ q0 q qh qr ql qe u_935.2]) H := hP
  have hD : va_D (fun q : Nat => s.heap.size ≤ q) (List.flatten [wJ κ qo 1 u_935.1, wN κ qm u_953 kc cp cn rm kn lvm be, wX κ q0 q qh qr ql qe u_935.2]) := hD
  have hres := p_o_node (xs ((3 * t) + 1)) (xs ((3 * t) + 2)) hZ hw_935
  rw [← hw_953] at hres
  obtain ⟨g1, g2, g3⟩ := hres
  have hI2 := g3.2.1
  have hc2 := g3.2.2.1.2.1
  have hn2 := hI2.1.2.1
  have ho2 := hI2.1.2.2.1
  refine lv_istore (lv' := [(6, .int r_953), (5, .int r_935), (0, .ref b), (1, .ref q0), (2, .ref (qm 0)), (3, .ref qo), (4, .int (nI (3 * t)))]) hx hb dL_law_956 hl (by decide) rfl (fun ls hl => ?_)
  refine lv_aload_n hx hb dL_law_958 rfl (lv_at hl 4 rfl) ?_
  refine k_cRO (D := D) (κ := κ) (qc := (RX7, TX7, 15)) (ci := 7) (q0 := 0) ⟨hx, hb, hml, hown, hts⟩ (c_X7_thrown l D κ qm u_953 kc cp cn rm kn lvm be (by omega) (by omega) (by omega)) (cwV 0 hts gL_law_X7_thrown rfl rfl rfl (by decide +kernel) ⟨Nat.le_of_ble_eq_true rfl, Nat.le_of_ble_eq_true rfl⟩) hK (k_sub1 (S := wN κ qm u_953 kc cp cn rm kn lvm be) hP 1 rfl) rfl rfl (As := []) (rest := []) rfl rfl hl.1 (Nat.le_of_ble_eq_true rfl) dL_law_959 ⟨(by show 200 + 24 * t + 24 ≤ 601024; omega), (by show 80000 + 2900 * t + 2900 ≤ 7293034; omega)⟩ (fun r9 hr9 => ?_)
  refine lv_topi (nm_r hr9 ?_)
  refine lv_iload hx hb dL_law_962 (lv_at hl 1 rfl) ?_
  refine lv_icmp_eq (tgt := 969) hx hb dL_law_964 (by decide) (fun c_964 => ?_) (fun c_964 => ?_)
  · skip
    refine lv_iload hx hb dL_law_969 (lv_at hl 1 rfl) ?_
    refine lv_if_ne (tgt := 986) hx hb dL_law_971 (by decide) (fun c_971 => ?_) (fun c_971 => ?_)
    · skip
      refine lv_goto (tgt := 1058) hx hb dL_law_986 (by decide) ?_
      exact kk u_935.2 kc cp cn rm kn u_953 lvm be u_935.1 H locs ls g3 hP hD hS (lv_sub hl [2, 3, 4, 5, 6] rfl)
    · skip
      refine lv_aload_n hx hb dL_law_974 rfl (lv_at hl 5 rfl) ?_
      refine lv_iconst (v := 0) hx hb dL_law_975 (by decide) ?_
      refine k_lald (D := D) (j := 0) hx hb hK.1 hP 0 1 rfl rfl (by omega) (by omega) dL_law_976 ?_
      refine lv_iload hx hb dL_law_977 (lv_at hl 0 rfl) ?_
      refine lv_i2l (v := Int32.toInt64 r_953) hx hb dL_law_979 rfl ?_
      refine W.lcmp hx hb dL_law_980 ?_
      refine lv_if_eq (tgt := 986) hx hb dL_law_981 (by decide) (fun c_981 => ?_) (fun c_981 => ?_)
      · skip
        refine lv_goto (tgt := 1058) hx hb dL_law_986 (by decide) ?_
        exact kk u_935.2 kc cp cn rm kn u_953 lvm be u_935.1 H locs ls g3 hP hD hS (lv_sub hl [2, 3, 4, 5, 6] rfl)
      · skip
        exact absurd ((lg_cmp_eq _ _).mpr (g2 c_971)) c_981
  · skip
    exact absurd g1 c_964
set_option maxHeartbeats 4000000 in
set_option maxRecDepth 100000 in
theorem law_c_size {p : Program} {l : Launch} {e : Env} {s : State} {m : MethodId} {below : List Frame} {meth : Method} {c : Code} {b L : Nat} {xs : Nat → Int32} {D : va_G} {κ : Nat → ClassId} (hst : l.stackTraces = false) (C0 : lw_At p s m meth c b L xs) (hK : k_K D κ s) (hX : k_X (fun q : Nat => s.heap.size ≤ q) s) (hN : k_NC s) (hL : L ≤ 1536) {t : Nat} (ht : 3 * t + 3 ≤ L) {q0 qo : Nat} {q qh qr ql qe qm : Nat → Nat} {so le gr ne si ou bo : Nat → Int32} {n om ob : Nat} {cs : Nat → Nat → Nat} {gs : Nat → KH} {made pl kp : Nat} {ro : Nat → Int64} {wo : Int32} {lv : Nat → Int32} {e0 : KE} {kc : KC} {cp : Nat → Int32} {cn : Nat} {rm : Nat → Int64} {kn th : Int32} {lvm be : Nat → Int32} {fo : Nat → Int64} (hZ : p_Z ((so, le, gr, ne, si, ou, bo, n, om, ob), (cs, gs, made, pl, kp), ro, wo, lv, e0) kc cp cn rm kn) {H : Heap} {locs : List Loc} (hP : va_P D vwCl (List.flatten [wJ κ qo 1 fo, wN κ qm th kc cp cn rm kn lvm be, wX κ q0 q qh qr ql qe ((so, le, gr, ne, si, ou, bo, n, om, ob), (cs, gs, made, pl, kp), ro, wo, lv, e0)]) H) (hD : va_D (fun q : Nat => s.heap.size ≤ q) (List.flatten [wJ κ qo 1 fo, wN κ qm th kc cp cn rm kn lvm be, wX κ q0 q qh qr ql qe ((so, le, gr, ne, si, ou, bo, n, om, ob), (cs, gs, made, pl, kp), ro, wo, lv, e0)])) (hS : va_S (fun q : Nat => s.heap.size ≤ q) s.heap H locs) {ls : Array Slot} (hl : lv_has ls 8 [(0, .ref b), (1, .ref q0), (2, .ref (qm 0)), (3, .ref qo), (4, .int (nI (3 * t)))]) (kk : w_go p l e s m below meth c b D κ t q0 qo q qh qr ql qe qm (200 + 24 * t + 24) (80000 + 2900 * t + 2900) 1058) : W p l e room_1 s m #[Value.ref b] below meth c H locs (200 + 24 * t) (80000 + 2900 * t) (lw_Z below #[Value.ref b] s) (F0 m 989 ls []) := by
  obtain ⟨hx, hb, hr, hml, hown, hts0, hXs, hbl, hlocks, hgv⟩ := C0
  have hts : ∀ w ∈ wsL_law, w.before #[Value.ref b] s = true := fun w hw => hts0 w (wsL_law_in w hw)
  have hA : ∀ q : Nat, s.heap.size ≤ q → (fun q : Nat => s.heap.size ≤ q) q := fun _ h => h
  have hbA : ¬ (fun q : Nat => s.heap.size ≤ q) b := Nat.not_le.mpr hbl
  obtain ⟨en, eo, hN9, hO9, hI⟩ := p_Zo hZ
  obtain ⟨ek, hcn, hpl, hpm, hma, hgs, hH9⟩ : kp = cn ∧ cn ≤ 30 ∧ pl < 30 ∧ pl ≤ made ∧ made ≤ 30 ∧ (∀ k, k < made → k_bG (gs k)) ∧ True := ⟨hZ.2.2.1.1, hZ.2.2.1.2.1, hZ.2.2.1.2.2.1, hZ.2.2.1.2.2.2.1, hZ.2.2.1.2.2.2.2.1, hZ.2.2.1.2.2.2.2.2.1, trivial⟩
  have hnd := hI.1.2.1
  have hoc := hI.1.2.2.1
  have hob := hO9.2.2.2
  have hwo : wo = 0 ∨ wo = 1 := by have e1 : wo = kn := hZ.2.2.2.1; rw [e1]; exact hZ.2.2.2.2.1
  have hown : s.vm.findClass RL = some m.cls := hown
  refine lv_aload_n hx hb dL_law_989 rfl (lv_at hl 1 rfl) ?_
  refine k_cSNi (D := D) (κ := κ) (qc := (RX6, TX6, 5)) (ci := 6) (q0 := 0) (Wl := [wJ κ qo 1 fo, wN κ qm th kc cp cn rm kn lvm be, wX κ q0 q qh qr ql qe ((so, le, gr, ne, si, ou, bo, n, om, ob), (cs, gs, made, pl, kp), ro, wo, lv, e0)]) (Wc := [wX κ q0 q qh qr ql qe ((so, le, gr, ne, si, ou, bo, n, om, ob), (cs, gs, made, pl, kp), ro, wo, lv, e0)]) (W' := fun u_990 => [wX κ q0 q qh qr ql qe u_990]) (Wn := fun u_990 => [wJ κ qo 1 fo, wN κ qm th kc cp cn rm kn lvm be, wX κ q0 q qh qr ql qe u_990]) ⟨hx, hb, hml, hown, hts⟩ (c_X6_size l D κ _ q0 qh qr ql qe q so le gr ne si ou bo n om ob cs gs made pl kp ro wo lv e0  (by omega) (by omega) (by omega) hgs hpl hpm hma (by omega) ) (cwV 0 hts gL_law_X6_size rfl rfl rfl (by decide +kernel) ⟨Nat.le_of_ble_eq_true rfl, Nat.le_of_ble_eq_true rfl⟩) hK hP hD hS hA [2] (by decide) rfl (List.flatten_singleton) (fun _ => List.flatten_singleton) rfl rfl (fun _ => rfl) (fun _ => rfl) (As := []) (rest := []) rfl rfl hl.1 (Nat.le_of_ble_eq_true rfl) dL_law_990 ⟨(by show 200 + 24 * t + 24 ≤ 601024; omega), (by show 80000 + 2900 * t + 2900 ≤ 7293034; omega)⟩ (fun r_990 u_990 H locs hw_990 hP hD hS => ?_)
  have hP : va_P D vwCl (List.flatten [wJ κ qo 1 fo, wN κ qm th kc cp cn rm kn lvm be, wX κ q0 q qh qr ql qe u_990]) H := hP
  have hD : va_D (fun q : Nat => s.heap.size ≤ q) (List.flatten [wJ κ qo 1 fo, wN κ qm th kc cp cn rm kn lvm be, wX κ q0 q qh qr ql qe u_990]) := hD
  refine lv_aload_n hx hb dL_law_993 rfl (lv_at hl 2 rfl) ?_
  refine k_cSNi (D := D) (κ := κ) (qc := (RX7, TX7, 15)) (ci := 7) (q0 := 0) (Wl := [wJ κ qo 1 fo, wN κ qm th kc cp cn rm kn lvm be, wX κ q0 q qh qr ql qe u_990]) (Wc := [wN κ qm th kc cp cn rm kn lvm be]) (W' := fun u_994 => [wN κ qm u_994 kc cp cn rm kn lvm be]) (Wn := fun u_994 => [wJ κ qo 1 fo, wN κ qm u_994 kc cp cn rm kn lvm be, wX κ q0 q qh qr ql qe u_990]) ⟨hx, hb, hml, hown, hts⟩ (c_X7_size l D κ _ qm th kc cp cn rm kn lvm be   (by omega) (by omega) (by omega)) (cwV 0 hts gL_law_X7_size rfl rfl rfl (by decide +kernel) ⟨Nat.le_of_ble_eq_true rfl, Nat.le_of_ble_eq_true rfl⟩) hK hP hD hS hA [1] (by decide) rfl (List.flatten_singleton) (fun _ => List.flatten_singleton) rfl rfl (fun _ => rfl) (fun _ => rfl) (As := []) (rest := [.int r_990]) rfl rfl hl.1 (Nat.le_of_ble_eq_true rfl) dL_law_994 ⟨(by show 200 + 24 * t + 24 + 0 ≤ 601024; omega), (by show 80000 + 2900 * t + 2900 + 0 ≤ 7293034; omega)⟩ (fun r_994 u_994 H locs hw_994 hP hD hS => ?_)
  have hP : va_P D vwCl (List.flatten [wJ κ qo 1 fo, wN κ qm u_994 kc cp cn rm kn lvm be, wX κ q0 q qh qr ql qe u_990]) H := hP
  have hD : va_D (fun q : Nat => s.heap.size ≤ q) (List.flatten [wJ κ qo 1 fo, wN κ qm u_994 kc cp cn rm kn lvm be, wX κ q0 q qh qr ql qe u_990]) := hD
  obtain ⟨g1, g3⟩ := p_o_size hZ hw_990
  refine lv_icmp_eq (tgt := 1058) hx hb dL_law_997 (by decide) (fun c_997 => ?_) (fun c_997 => ?_)
  · skip
    exact kk u_990 kc cp cn rm kn u_994 lvm be fo H locs ls g3 hP hD hS (lv_sub hl [0, 1, 2, 3, 4] rfl)
  · skip
    exact absurd (g1.trans hw_994.1.symm) c_997
set_option maxHeartbeats 4000000 in
set_option maxRecDepth 100000 in
theorem law_c_count {p : Program} {l : Launch} {e : Env} {s : State} {m : MethodId} {below : List Frame} {meth : Method} {c : Code} {b L : Nat} {xs : Nat → Int32} {D : va_G} {κ : Nat → ClassId} (hst : l.stackTraces = false) (C0 : lw_At p s m meth c b L xs) (hK : k_K D κ s) (hX : k_X (fun q : Nat => s.heap.size ≤ q) s) (hN : k_NC s) (hL : L ≤ 1536) {t : Nat} (ht : 3 * t + 3 ≤ L) {q0 qo : Nat} {q qh qr ql qe qm : Nat → Nat} {so le gr ne si ou bo : Nat → Int32} {n om ob : Nat} {cs : Nat → Nat → Nat} {gs : Nat → KH} {made pl kp : Nat} {ro : Nat → Int64} {wo : Int32} {lv : Nat → Int32} {e0 : KE} {kc : KC} {cp : Nat → Int32} {cn : Nat} {rm : Nat → Int64} {kn th : Int32} {lvm be : Nat → Int32} {fo : Nat → Int64} (hZ : p_Z ((so, le, gr, ne, si, ou, bo, n, om, ob), (cs, gs, made, pl, kp), ro, wo, lv, e0) kc cp cn rm kn) {H : Heap} {locs : List Loc} (hP : va_P D vwCl (List.flatten [wJ κ qo 1 fo, wN κ qm th kc cp cn rm kn lvm be, wX κ q0 q qh qr ql qe ((so, le, gr, ne, si, ou, bo, n, om, ob), (cs, gs, made, pl, kp), ro, wo, lv, e0)]) H) (hD : va_D (fun q : Nat => s.heap.size ≤ q) (List.flatten [wJ κ qo 1 fo, wN κ qm th kc cp cn rm kn lvm be, wX κ q0 q qh qr ql qe ((so, le, gr, ne, si, ou, bo, n, om, ob), (cs, gs, made, pl, kp), ro, wo, lv, e0)])) (hS : va_S (fun q : Nat => s.heap.size ≤ q) s.heap H locs) {ls : Array Slot} (hl : lv_has ls 8 [(0, .ref b), (1, .ref q0), (2, .ref (qm 0)), (3, .ref qo), (4, .int (nI (3 * t)))]) (kk : w_go p l e s m below meth c b D κ t q0 qo q qh qr ql qe qm (200 + 24 * t + 24) (80000 + 2900 * t + 2900) 1058) : W p l e room_1 s m #[Value.ref b] below meth c H locs (200 + 24 * t) (80000 + 2900 * t) (lw_Z below #[Value.ref b] s) (F0 m 1002 ls []) := by
  obtain ⟨hx, hb, hr, hml, hown, hts0, hXs, hbl, hlocks, hgv⟩ := C0
  have hts : ∀ w ∈ wsL_law, w.before #[Value.ref b] s = true := fun w hw => hts0 w (wsL_law_in w hw)
  have hA : ∀ q : Nat, s.heap.size ≤ q → (fun q : Nat => s.heap.size ≤ q) q := fun _ h => h
  have hbA : ¬ (fun q : Nat => s.heap.size ≤ q) b := Nat.not_le.mpr hbl
  obtain ⟨en, eo, hN9, hO9, hI⟩ := p_Zo hZ
  obtain ⟨ek, hcn, hpl, hpm, hma, hgs, hH9⟩ : kp = cn ∧ cn ≤ 30 ∧ pl < 30 ∧ pl ≤ made ∧ made ≤ 30 ∧ (∀ k, k < made → k_bG (gs k)) ∧ True := ⟨hZ.2.2.1.1, hZ.2.2.1.2.1, hZ.2.2.1.2.2.1, hZ.2.2.1.2.2.2.1, hZ.2.2.1.2.2.2.2.1, hZ.2.2.1.2.2.2.2.2.1, trivial⟩
  have hnd := hI.1.2.1
  have hoc := hI.1.2.2.1
  have hob := hO9.2.2.2
  have hwo : wo = 0 ∨ wo = 1 := by have e1 : wo = kn := hZ.2.2.2.1; rw [e1]; exact hZ.2.2.2.2.1
  have hown : s.vm.findClass RL = some m.cls := hown
  refine lv_aload_n hx hb dL_law_1002 rfl (lv_at hl 1 rfl) ?_
  refine lv_aload_n hx hb dL_law_1003 rfl (lv_at hl 0 rfl) ?_
  refine lv_iload hx hb dL_law_1004 (lv_at hl 4 rfl) ?_
  refine lv_iconst (v := 1) hx hb dL_law_1006 (by decide) ?_
  refine lv_iadd hx hb dL_law_1007 ?_
  refine lv_topi (nm_r (nI_add (3 * t) 1) ?_)
  refine va_sld hx hb hXs hbl hbA hS (vp_in_nI (show (3 * t) + 1 < L by omega) (by omega)) dL_law_1008 ?_
  rw [nI_clamp (show (3 * t) + 1 < 2 ^ 31 by omega)]
  refine lv_aload_n hx hb dL_law_1009 rfl (lv_at hl 3 rfl) ?_
  refine k_cYW (D := D) (κ := κ) (Wl := [wJ κ qo 1 fo, wN κ qm th kc cp cn rm kn lvm be, wX κ q0 q qh qr ql qe ((so, le, gr, ne, si, ou, bo, n, om, ob), (cs, gs, made, pl, kp), ro, wo, lv, e0)]) (Wc := [wJ κ qo 1 fo, wX κ q0 q qh qr ql qe ((so, le, gr, ne, si, ou, bo, n, om, ob), (cs, gs, made, pl, kp), ro, wo, lv, e0)]) (W' := fun u_1010 => [wJ κ qo 1 u_1010.1, wX κ q0 q qh qr ql qe u_1010.2]) (Wn := fun u_1010 => [wJ κ qo 1 u_1010.1, wN κ qm th kc cp cn rm kn lvm be, wX κ q0 q qh qr ql qe u_1010.2]) ⟨hx, hb, hml, hown, hts⟩ (c_L_count l D κ _ q0 qh qr ql qe q so le gr ne si ou bo n om ob cs gs made pl kp ro wo lv e0 qo fo (xs ((3 * t) + 1)) hst (by omega) (by omega) (by omega) hgs hpl hpm hma (by omega)) (vx_cwSW 3 hts gL_law_L_count rfl rfl rfl (by decide +kernel) ⟨Nat.le_of_ble_eq_true rfl, Nat.le_of_ble_eq_true rfl⟩) hK hX hN hP hD hS hA [0, 2] (by decide) rfl rfl (fun _ => rfl) (fun _ => rfl) (fun _ => rfl) (As := [.ref q0, .int (xs ((3 * t) + 1)), .ref qo]) (rest := []) rfl rfl hl.1 (Nat.le_of_ble_eq_true rfl) dL_law_1010 ⟨(by show 200 + 24 * t + 24 ≤ 601024; omega), (by show 80000 + 2900 * t + 2900 ≤ 7293034; omega)⟩ (fun r_1010 u_1010 H locs hw_1010 hP hD hS => ?_)
  have hP : va_P D vwCl (List.flatten [wJ κ qo 1 u_1010.1, wN κ qm th kc cp cn rm kn lvm be, wX κ q0 q qh qr ql qe u_1010.2]) H := hP
  have hD : va_D (fun q : Nat => s.heap.size ≤ q) (List.flatten [wJ κ qo 1 u_1010.1, wN κ qm th kc cp cn rm kn lvm be, wX κ q0 q qh qr ql qe u_1010.2]) := hD
  refine lv_istore (lv' := [(5, .int r_1010), (0, .ref b), (1, .ref q0), (2, .ref (qm 0)), (3, .ref qo), (4, .int (nI (3 * t)))]) hx hb dL_law_1013 hl (by decide) rfl (fun ls hl => ?_)
  refine lv_aload_n hx hb dL_law_1015 rfl (lv_at hl 3 rfl) ?_
  refine lv_aload_n hx hb dL_law_1016 rfl (lv_at hl 1 rfl) ?_
  refine lv_iload hx hb dL_law_1017 (lv_at hl 5 rfl) ?_
  refine lv_iconst (v := 1) hx hb dL_law_1019 (by decide) ?_
  refine lv_iadd hx hb dL_law_1020 ?_
  refine lv_topi (nm_r (nI_add (3 * t) 1) ?_)
  refine va_sld hx hb hXs hbl hbA hS (vp_in_nI (show (3 * t) + 1 < L by omega) (by omega)) dL_law_1021 ?_
  rw [nI_clamp (show (3 * t) + 1 < 2 ^ 31 by omega)]
  refine k_cSNi (D := D) (κ := κ) (qc := (RX7, TX7, 15)) (ci := 7) (q0 := 0) (Wl := [wJ κ qo 1 u_1010.1, wN κ qm th kc cp cn rm kn lvm be, wX κ q0 q qh qr ql qe u_1010.2]) (Wc := [wN κ qm th kc cp cn rm kn lvm be]) (W' := fun u_1022 => [wN κ qm u_1022.1 kc cp cn rm kn u_1022.2 be]) (Wn := fun u_1022 => [wJ κ qo 1 u_1010.1, wN κ qm u_1022.1 kc cp cn rm kn u_1022.2 be, wX κ q0 q qh qr ql qe u_1010.2]) ⟨hx, hb, hml, hown, hts⟩ (c_X7_count l D κ _ qm th kc cp cn rm kn lvm be (xs ((3 * t) + 1)) 400 (by omega) (by omega) (by omega) (p_hlt hI) (p_hfin hI _)) (cwV 1 hts gL_law_X7_count rfl rfl rfl (by decide +kernel) ⟨Nat.le_of_ble_eq_true rfl, Nat.le_of_ble_eq_true rfl⟩) hK hP hD hS hA [1] (by decide) rfl (List.flatten_singleton) (fun _ => List.flatten_singleton) rfl rfl (fun _ => rfl) (fun _ => rfl) (As := [.int (xs ((3 * t) + 1))]) (rest := []) rfl rfl hl.1 (Nat.le_of_ble_eq_true rfl) dL_law_1022 ⟨(by show 200 + 24 * t + 24 + 0 ≤ 601024; omega), (by show 80000 + 2900 * t + 2900 + 0 ≤ 7293034; omega)⟩ (fun r_1022 u_1022 H locs hw_1022 hP hD hS => ?_)
  have hP : va_P D vwCl (List.flatten [wJ κ qo 1 u_1010.1, wN κ qm u_1022.1 kc cp cn rm kn u_1022.2 be, wX κ q0 q qh qr ql qe u_1010.2]) H := hP
  have hD : va_D (fun q : Nat => s.heap.size ≤ q) (List.flatten [wJ κ qo 1 u_1010.1, wN κ qm u_1022.1 kc cp cn rm kn u_1022.2 be, wX κ q0 q qh qr ql qe u_1010.2]) := hD
  have hres := p_o_count (xs ((3 * t) + 1)) hZ lvm hw_1010
  rw [← hw_1022] at hres
  obtain ⟨g1, g2, g3⟩ := hres
  have hI2 := g3.2.1
  have hc2 := g3.2.2.1.2.1
  have hn2 := hI2.1.2.1
  have ho2 := hI2.1.2.2.1
  refine lv_istore (lv' := [(6, .int r_1022), (5, .int r_1010), (0, .ref b), (1, .ref q0), (2, .ref (qm 0)), (3, .ref qo), (4, .int (nI (3 * t)))]) hx hb dL_law_1025 hl (by decide) rfl (fun ls hl => ?_)
  refine lv_aload_n hx hb dL_law_1027 rfl (lv_at hl 4 rfl) ?_
  refine k_cRO (D := D) (κ := κ) (qc := (RX7, TX7, 15)) (ci := 7) (q0 := 0) ⟨hx, hb, hml, hown, hts⟩ (c_X7_thrown l D κ qm u_1022.1 kc cp cn rm kn u_1022.2 be (by omega) (by omega) (by omega)) (cwV 0 hts gL_law_X7_thrown rfl rfl rfl (by decide +kernel) ⟨Nat.le_of_ble_eq_true rfl, Nat.le_of_ble_eq_true rfl⟩) hK (k_sub1 (S := wN κ qm u_1022.1 kc cp cn rm kn u_1022.2 be) hP 1 rfl) rfl rfl (As := []) (rest := []) rfl rfl hl.1 (Nat.le_of_ble_eq_true rfl) dL_law_1028 ⟨(by show 200 + 24 * t + 24 ≤ 601024; omega), (by show 80000 + 2900 * t + 2900 ≤ 7293034; omega)⟩ (fun r9 hr9 => ?_)
  refine lv_topi (nm_r hr9 ?_)
  refine lv_iload hx hb dL_law_1031 (lv_at hl 1 rfl) ?_
  refine lv_icmp_eq (tgt := 1038) hx hb dL_law_1033 (by decide) (fun c_1033 => ?_) (fun c_1033 => ?_)
  · skip
    refine lv_iload hx hb dL_law_1038 (lv_at hl 1 rfl) ?_
    refine lv_if_ne (tgt := 1055) hx hb dL_law_1040 (by decide) (fun c_1040 => ?_) (fun c_1040 => ?_)
    · skip
      refine lv_goto (tgt := 1058) hx hb dL_law_1055 (by decide) ?_
      exact kk u_1010.2 kc cp cn rm kn u_1022.1 u_1022.2 be u_1010.1 H locs ls g3 hP hD hS (lv_sub hl [2, 3, 4, 5, 6] rfl)
    · skip
      refine lv_aload_n hx hb dL_law_1043 rfl (lv_at hl 5 rfl) ?_
      refine lv_iconst (v := 0) hx hb dL_law_1044 (by decide) ?_
      refine k_lald (D := D) (j := 0) hx hb hK.1 hP 0 1 rfl rfl (by omega) (by omega) dL_law_1045 ?_
      refine lv_iload hx hb dL_law_1046 (lv_at hl 0 rfl) ?_
      refine lv_i2l (v := Int32.toInt64 r_1022) hx hb dL_law_1048 rfl ?_
      refine W.lcmp hx hb dL_law_1049 ?_
      refine lv_if_eq (tgt := 1055) hx hb dL_law_1050 (by decide) (fun c_1050 => ?_) (fun c_1050 => ?_)
      · skip
        refine lv_goto (tgt := 1058) hx hb dL_law_1055 (by decide) ?_
        exact kk u_1010.2 kc cp cn rm kn u_1022.1 u_1022.2 be u_1010.1 H locs ls g3 hP hD hS (lv_sub hl [2, 3, 4, 5, 6] rfl)
      · skip
        exact absurd ((lg_cmp_eq _ _).mpr (g2 c_1040)) c_1050
  · skip
    exact absurd g1 c_1033
