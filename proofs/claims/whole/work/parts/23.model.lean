/-! THE REFERENCE, fourth: the calls of its face -/
abbrev KX : Type := Int32 × KC × (Nat → Int32) × Nat × Int32
theorem m_wrong_ok {c : KC} {x : Int32} (hn : mnd c ≤ 400) (h1 : ¬ m_wrong c x = 1) (h2 : m_wrong c x ≤ 0) : ∃ a, a < 2 * mnd c ∧ x = nI a ∧ mso c (a / 2) ≠ 5 := by
  unfold m_wrong at h1 h2
  by_cases g0 : x < 0
  · rw [if_pos g0] at h1; exact absurd rfl h1
  obtain ⟨a, ha, rfl⟩ := nI_of g0
  rw [if_neg g0, nI_clamp ha, m_was_nI hn (by omega)] at h1 h2
  by_cases g1 : a / 2 < mnd c
  · rw [if_pos g1, if_neg (by decide)] at h2
    by_cases g2 : mso c (a / 2) = 5
    · rw [if_pos g2] at h2; exact absurd h2 (by decide)
    · exact ⟨a, by omega, rfl, g2⟩
  · rw [if_neg g1, if_pos rfl] at h1; exact absurd rfl h1
theorem m_wl_ok {c : KC} {x : Int32} (hn : mnd c ≤ 400) (h1 : ¬ m_wl c x = 1) (h2 : m_wl c x ≤ 0) : ∃ a, a < 2 * mnd c ∧ x = nI a ∧ mso c (a / 2) = 3 := by
  unfold m_wl at h1 h2
  by_cases g0 : x < 0
  · rw [if_pos g0] at h1; exact absurd rfl h1
  obtain ⟨a, ha, rfl⟩ := nI_of g0
  rw [if_neg g0, nI_clamp ha, m_was_nI hn (by omega)] at h1 h2
  by_cases g1 : a / 2 < mnd c
  · rw [if_pos g1, if_neg (by decide)] at h2
    by_cases g2 : mso c (a / 2) = 3
    · exact ⟨a, by omega, rfl, g2⟩
    · rw [if_neg g2] at h2; exact absurd h2 (by decide)
  · rw [if_neg g1, if_pos rfl] at h1; exact absurd rfl h1
theorem m_was_ok {n : Nat} {x : Int32} (hn : n ≤ 400) (h : ¬ m_was n x = 0) : ∃ a, a < n ∧ x = nI a := by
  unfold m_was at h
  by_cases g0 : x < 0
  · rw [if_pos g0] at h; exact absurd rfl h
  obtain ⟨a, ha, rfl⟩ := nI_of g0
  rw [if_neg g0] at h
  by_cases g1 : nI n ≤ nI a
  · rw [if_pos g1] at h; exact absurd rfl h
  · exact ⟨a, Nat.lt_of_not_le (fun q => g1 ((nI_leI (by omega) ha).mpr q)), rfl⟩
theorem m_save_le (c : KC) (cp : Nat → Int32) {cn : Nat} (h : cn ≤ 30) : (m_save c cp cn).2 ≤ 30 := by
  unfold m_save
  split
  · exact Nat.le_refl 30
  · show cn + 1 ≤ 30
    omega
theorem m_le1 {x : Int32} (h : x ≤ 0) : ¬ x = 1 := fun e => by rw [e] at h; exact absurd h (by decide)
def m_sv (c0 c : KC) (cp : Nat → Int32) (cn : Nat) : KX := (0, c, (m_save c0 cp cn).1, (m_save c0 cp cn).2, 0)
def m_one (i x : Nat) (c : KC) : KC := (mso c, k_un (mon c) i x, mtw c, mst c, mnd c, mou c, mbo c, moc c)
def m_out (x : Nat) (c : KC) : KC := (mso c, mon c, mtw c, mst c, mnd c, k_un (mou c) (moc c) x, upd (mbo c) (moc c) 0, moc c + 1)
def m_input (kc : KC) (cp : Nat → Int32) (cn : Nat) (kn : Int32) : Int32 × KX := if mnd kc = 400 then (0, 1, kc, cp, cn, kn) else (nI (2 * mnd kc), m_sv kc (m_new 1 0 0 kc) cp cn)
def m_and (kc : KC) (cp : Nat → Int32) (cn : Nat) (kn : Int32) (p0 p1 : Int32) : Int32 × KX :=
  if m_wrong kc p0 = 1 then (0, 1, kc, cp, cn, kn) else if m_wrong kc p1 = 1 then (0, 1, kc, cp, cn, kn) else if 0 < m_wrong kc p0 then (0, 2, kc, cp, cn, kn) else if m_wrong kc p1 ≤ 0 then
    (if m_simple kc p0.toNatClampNeg p1.toNatClampNeg (-1) < 0 then (if mnd kc = 400 then (0, 3, kc, cp, cn, kn) else (nI (2 * mnd kc), m_sv kc (m_new 2 (if p1.toNatClampNeg ≤ p0.toNatClampNeg then p1.toNatClampNeg else p0.toNatClampNeg) (if p1.toNatClampNeg ≤ p0.toNatClampNeg then p0.toNatClampNeg else p1.toNatClampNeg) kc) cp cn)) else (m_simple kc p0.toNatClampNeg p1.toNatClampNeg (-1), 0, kc, cp, cn, kn)) else (0, 2, kc, cp, cn, kn)
def m_output (kc : KC) (cp : Nat → Int32) (cn : Nat) (kn : Int32) (p0 : Int32) : Int32 × KX :=
  if m_wrong kc p0 ≤ 0 then (if moc kc = 40 then (0, 3, kc, cp, cn, kn) else (nI (moc kc), m_sv kc (m_out p0.toNatClampNeg kc) cp cn)) else (0, m_wrong kc p0, kc, cp, cn, kn)
def m_latch (kc : KC) (cp : Nat → Int32) (cn : Nat) (kn : Int32) (p0 : Int32) : Int32 × KX :=
  if p0 = 0 then (if mnd kc = 400 then (0, 2, kc, cp, cn, kn) else (nI (2 * mnd kc), m_sv kc (m_new 3 0 0 kc) cp cn)) else if p0 = 1 then (if mnd kc = 400 then (0, 2, kc, cp, cn, kn) else (nI (2 * mnd kc), m_sv kc (m_new 3 0 0 kc) cp cn)) else (0, 1, kc, cp, cn, kn)
def m_next (kc : KC) (cp : Nat → Int32) (cn : Nat) (kn : Int32) (p0 p1 : Int32) : Int32 × KX :=
  if m_wl kc p0 = 1 then (0, 1, kc, cp, cn, kn) else if m_wrong kc p1 = 1 then (0, 1, kc, cp, cn, kn) else if 0 < m_wl kc p0 then (0, 2, kc, cp, cn, kn) else if m_wrong kc p1 ≤ 0 then
    (if mon kc (p0.toNatClampNeg / 2) = p1.toNatClampNeg then (0, 0, kc, cp, cn, kn) else (1, m_sv kc (m_one (p0.toNatClampNeg / 2) p1.toNatClampNeg kc) cp cn)) else (0, 2, kc, cp, cn, kn)
def m_nextOf (kc : KC) (p0 : Int32) : Int32 × Int32 := if m_wl kc p0 ≤ 0 then (nI (mon kc (p0.toNatClampNeg / 2)), m_wl kc p0) else (0, m_wl kc p0)
def m_outputAt (kc : KC) (p0 : Int32) : Int32 × Int32 := if p0 < 0 then (0, 1) else if nI (moc kc) ≤ p0 then (0, 1) else if mbo kc p0.toNatClampNeg = 0 then (nI (mou kc p0.toNatClampNeg), 0) else (-1, 0)
def m_row (kc : KC) (kn : Int32) (ro : Nat → Int64) (p0 : Int32) : Int64 × Int32 := if m_was (mnd kc) p0 = 0 then (0, 1) else if kn = 0 then (0, 2) else if mso kc p0.toNatClampNeg = 5 then (0, 3) else (ro p0.toNatClampNeg, 0)
def m_lvF (K : Nat) (kc : KC) (lv : Nat → Int32) : Nat → Int32 := k_it (m_fF kc) K 1 (k_fillF lv 0 (mnd kc))
def m_level (K : Nat) (kc : KC) (lv : Nat → Int32) (p0 : Int32) : Int32 × Int32 × (Nat → Int32) := if m_was (mnd kc) p0 = 0 then (0, 1, lv) else if mso kc p0.toNatClampNeg = 5 then (0, 2, lv) else (m_lvF K kc lv p0.toNatClampNeg, 0, m_lvF K kc lv)
def m_count (K : Nat) (kc : KC) (lv : Nat → Int32) (cn : Nat) (p0 : Int32) : Int32 × Int32 × (Nat → Int32) :=
  if p0 < 0 then (0, 1, lv) else if 5 < p0 then (0, 1, lv) else if p0 = 0 then (nI (mnd kc), 0, m_lvF K kc lv) else if p0 = 1 then (m_cnt kc 1 (mnd kc), 0, m_lvF K kc lv) else if p0 = 2 then (nI (moc kc), 0, m_lvF K kc lv) else if p0 = 3 then (m_cnt kc 3 (mnd kc), 0, m_lvF K kc lv) else if p0 = 4 then (nI cn, 0, m_lvF K kc lv) else (m_gr (m_lvF K kc lv) (mnd kc), 0, m_lvF K kc lv)
def m_fn1 (kc : KC) (a : Nat) (x : Int32) (i : Nat) : Int32 := (if (mso kc) i = 2 then if (((mon kc) i) / 2) = a then x + 1 else x else if (mso kc) i = 3 then if (((mon kc) i) / 2) = a then x + 1 else x else x)
def m_fn2 (kc : KC) (a : Nat) (x : Int32) (i : Nat) : Int32 := (if (mso kc) i = 2 then if (((mtw kc) i) / 2) = a then x + 1 else x else x)
def m_fnU (kc : KC) (a : Nat) : Nat → Int32
  | 0 => 0
  | i + 1 => m_fn2 kc a (m_fn1 kc a (m_fnU kc a i) i) i
def m_fnO (kc : KC) (a : Nat) : Nat → Int32
  | 0 => m_fnU kc a (mnd kc)
  | i + 1 => if mou kc i / 2 = a then m_fnO kc a i + 1 else m_fnO kc a i
def m_fan (kc : KC) (p0 : Int32) : Int32 × Int32 := if m_was (mnd kc) p0 = 0 then (0, 1) else if mso kc p0.toNatClampNeg = 5 then (0, 2) else (m_fnO kc p0.toNatClampNeg (moc kc), 0)
def m_node (kc : KC) (p0 p1 : Int32) : Int32 × Int32 :=
  if m_was (mnd kc) p0 = 0 then (0, 1) else if p1 < 0 then (0, 2) else if p1 ≤ 3 then
    (if p1 = 0 then (mso kc p0.toNatClampNeg, 0) else if p1 = 3 then (mst kc p0.toNatClampNeg, 0) else if mso kc p0.toNatClampNeg = 2 then (if p1 = 1 then (nI (mon kc p0.toNatClampNeg), 0) else (nI (mtw kc p0.toNatClampNeg), 0)) else (-1, 0)) else (0, 2)
theorem iwX7_input_7 : ∀ w ∈ wsX70, w ∈ wsX7_input := by decide +kernel
set_option maxHeartbeats 4000000 in
set_option maxRecDepth 100000 in
theorem c_X7_input (l : Launch) (D : va_G) (κ : Nat → ClassId) (sz : Nat) (q : Nat → Nat) (th : Int32) (kc : KC) (cp : Nat → Int32) (cn : Nat) (ro : Nat → Int64) (kn : Int32) (lv be : Nat → Int32)  (hnd : mnd kc ≤ 400) (hoc : moc kc ≤ 40) (hcn : cn ≤ 30) : k_mui (S := KX) l yX7_input wsX7_input 1 23 0 0 D κ [.ref (q 0)] (wN κ q th kc cp cn ro kn lv be) sz (fun r u => (r, u) = m_input kc cp cn kn) (fun u => wN κ q u.1 u.2.1 u.2.2.1 u.2.2.2.1 ro u.2.2.2.2 lv be) := by
  refine Met.ofW (cc := cX7_input) (maxL := 1) (ret := (some .int)) (by decide) rfl ?_
  intro p e s m args below meth c s₁ B hml hv
  obtain ⟨rfl, hsz, hK, hP, hD0⟩ := hv
  have hx := B.exec
  have hb := B.bytes
  have hr := B.returns
  have hts := atoms_spec (ws := wsX7_input) B.pre
  have hown : s.vm.findClass RX7 = some m.cls := findClass_of_methodNamed B.named
  have hlocks := B.notSynchronized
  subst hsz
  have hD := hD0.self (sz := s.heap.size)
  generalize hAe : va_A (wN κ q th kc cp cn ro kn lv be) s.heap.size = A at hD ⊢
  have hA : ∀ q : Nat, s.heap.size ≤ q → A q := fun q h => by rw [← hAe]; exact Or.inr h
  have hS : va_S A s.heap s.heap [] := va_S.rf
  have hP : va_P D vwCl (wN κ q th kc cp cn ro kn lv be) s.heap := hP
  have hl := lv_entry ([.ref (q 0)]) (n := 1) (Nat.le_of_ble_eq_true rfl)
  rw [lg_entry_eq]
  generalize (lg_sl ([.ref (q 0)]) ++ List.replicate (1 - (lg_sl ([.ref (q 0)])).length) Slot.unset).toArray = ls at hl ⊢
  have hl : lv_has ls 1 [(0, .ref (q 0))] := hl
  refine lv_aload_n hx hb dX7_input_0 rfl (lv_at hl 0 rfl) ?_
  refine lv_aload_n hx hb dX7_input_1 rfl (lv_at hl 0 rfl) ?_
  refine va_get (D := D) (ci := 7) (v := .int (nI (mnd kc))) (C := RX7) (T := TX7) (N := 15) hx hb hts (iwX7_input_7) hown hK.1 hP 0 rfl rfl 5 (by decide) (hts (.fieldLink RX7 43 "InverterGraphsModel" "nodes" "I") (by decide +kernel)) (fun _ h9 => h9) rfl dX7_input_2 ?_
  refine lv_sipush (v := 400) hx hb dX7_input_5 (by decide) ?_
  refine lv_icmp_ne (tgt := 15) hx hb dX7_input_8 (by decide) (fun c_8 => ?_) (fun c_8 => ?_)
  · skip
    have c_8 : ¬ ((mnd kc) = 400) := fun h9 => c_8 ((nI_eq (a := (mnd kc)) (b := 400) (by omega) (by omega)).mpr h9)
    refine lv_iconst (v := 0) hx hb dX7_input_15 (by decide) ?_
    refine va_put (D := D) (ci := 7) (v := .int 0) (ty := .int) (C := RX7) (T := TX7) (N := 15) hx hb hts (iwX7_input_7) tyX7 tyX7_ok nmX7 hown hK.1 hP hD hS 0 rfl rfl 0 (by decide) (hts (.fieldLink RX7 47 "InverterGraphsModel" "thrown" "I") (by decide +kernel)) (fun _ h9 => h9) rfl (by decide +kernel) rfl rfl (Nat.le_of_ble_eq_true rfl) dX7_input_16 (fun H locs hP hD hS => ?_)
    have hP : va_P D vwCl (wN κ q 0 kc cp cn ro kn lv be) H := hP
    have hD : va_D A (wN κ q 0 kc cp cn ro kn lv be) := hD
    refine lv_aload_n hx hb dX7_input_19 rfl (lv_at hl 0 rfl) ?_
    refine va_get (D := D) (ci := 7) (v := .int 0) (C := RX7) (T := TX7) (N := 15) hx hb hts (iwX7_input_7) hown hK.1 hP 0 rfl rfl 0 (by decide) (hts (.fieldLink RX7 47 "InverterGraphsModel" "thrown" "I") (by decide +kernel)) (fun _ h9 => h9) rfl dX7_input_20 ?_
    refine lv_if_le (tgt := 28) hx hb dX7_input_23 (by decide) (fun c_23 => ?_) (fun c_23 => ?_)
    · skip
      refine lv_aload_n hx hb dX7_input_28 rfl (lv_at hl 0 rfl) ?_
      refine k_cWUv (D := D) (κ := κ) (qc := (RX7, TX7, 15)) (ci := 7) (q0 := 0) ⟨hx, hb, hml, hown, hts⟩ (c_X7_save l D κ _ q 0 kc cp cn ro kn lv be  (by omega) (by omega) (by omega)) (cwV 0 hts gX7_input_X7_save rfl rfl rfl (by decide +kernel) ⟨Nat.le_of_ble_eq_true rfl, Nat.le_of_ble_eq_true rfl⟩) hK hP hD hS hA rfl rfl (As := []) (rest := []) rfl rfl hl.1 (Nat.le_of_ble_eq_true rfl) dX7_input_29 ⟨Nat.le_of_ble_eq_true rfl, Nat.le_of_ble_eq_true rfl⟩ (fun u_29 H locs hw9 hP hD hS => ?_)
      have hu_29 := hw9
      have hq_29 : u_29.2 ≤ 30 := by rw [hu_29]; exact m_save_le _ _ (by omega)
      have hP : va_P D vwCl (wN κ q 0 kc u_29.1 u_29.2 ro 0 lv be) H := hP
      have hD : va_D A (wN κ q 0 kc u_29.1 u_29.2 ro 0 lv be) := hD
      refine lv_iconst (v := 2) hx hb dX7_input_32 (by decide) ?_
      refine lv_aload_n hx hb dX7_input_33 rfl (lv_at hl 0 rfl) ?_
      refine lv_iconst (v := 1) hx hb dX7_input_34 (by decide) ?_
      refine lv_iconst (v := 0) hx hb dX7_input_35 (by decide) ?_
      refine lv_iconst (v := 0) hx hb dX7_input_36 (by decide) ?_
      refine k_cWUi (D := D) (κ := κ) (qc := (RX7, TX7, 15)) (ci := 7) (q0 := 0) ⟨hx, hb, hml, hown, hts⟩ (c_X7_newNode l D κ _ q 0 kc u_29.1 u_29.2 ro 0 lv be 1 0 0 (by omega) (by omega) (by omega) (by omega)) (cwV 3 hts gX7_input_X7_newNode rfl rfl rfl (by decide +kernel) ⟨Nat.le_of_ble_eq_true rfl, Nat.le_of_ble_eq_true rfl⟩) hK hP hD hS hA rfl rfl (As := [.int 1, .int 0, .int 0]) (rest := [.int 2]) rfl rfl hl.1 (Nat.le_of_ble_eq_true rfl) dX7_input_37 ⟨Nat.le_of_ble_eq_true rfl, Nat.le_of_ble_eq_true rfl⟩ (fun r _ H locs hr hP hD hS => ?_)
      have hP : va_P D vwCl (wN κ q 0 (m_new 1 0 0 kc) u_29.1 u_29.2 ro 0 lv be) H := hP
      have hD : va_D A (wN κ q 0 (m_new 1 0 0 kc) u_29.1 u_29.2 ro 0 lv be) := hD
      subst hr
      refine lv_imul hx hb dX7_input_40 ?_
      refine lv_topi (nm_r (pk_mul 2 (mnd kc)) ?_)
      exact W.iret (v := nI (2 * (mnd kc))) hx hb hr (fun t ht hW => ⟨⟨nI (2 * (mnd kc)), (0, m_new 1 0 0 kc, u_29.1, u_29.2, 0), rfl, (by unfold m_input; rw [if_neg c_8]; unfold m_sv; rw [← hu_29] <;> rfl), by rw [ht]; exact hP, hD⟩, hS.F ht⟩) hS.2.2 dX7_input_41
    · skip
      exfalso; revert c_23; decide
  · skip
    have c_8 : (mnd kc) = 400 := (nI_eq (a := (mnd kc)) (b := 400) (by omega) (by omega)).mp c_8
    refine lv_iconst (v := 1) hx hb dX7_input_11 (by decide) ?_
    refine lv_goto (tgt := 16) hx hb dX7_input_12 (by decide) ?_
    refine va_put (D := D) (ci := 7) (v := .int 1) (ty := .int) (C := RX7) (T := TX7) (N := 15) hx hb hts (iwX7_input_7) tyX7 tyX7_ok nmX7 hown hK.1 hP hD hS 0 rfl rfl 0 (by decide) (hts (.fieldLink RX7 47 "InverterGraphsModel" "thrown" "I") (by decide +kernel)) (fun _ h9 => h9) rfl (by decide +kernel) rfl rfl (Nat.le_of_ble_eq_true rfl) dX7_input_16 (fun H locs hP hD hS => ?_)
    have hP : va_P D vwCl (wN κ q 1 kc cp cn ro kn lv be) H := hP
    have hD : va_D A (wN κ q 1 kc cp cn ro kn lv be) := hD
    refine lv_aload_n hx hb dX7_input_19 rfl (lv_at hl 0 rfl) ?_
    refine va_get (D := D) (ci := 7) (v := .int 1) (C := RX7) (T := TX7) (N := 15) hx hb hts (iwX7_input_7) hown hK.1 hP 0 rfl rfl 0 (by decide) (hts (.fieldLink RX7 47 "InverterGraphsModel" "thrown" "I") (by decide +kernel)) (fun _ h9 => h9) rfl dX7_input_20 ?_
    refine lv_if_le (tgt := 28) hx hb dX7_input_23 (by decide) (fun c_23 => ?_) (fun c_23 => ?_)
    · skip
      exfalso; revert c_23; decide
    · skip
      refine lv_iconst (v := 0) hx hb dX7_input_26 (by decide) ?_
      exact W.iret (v := 0) hx hb hr (fun t ht hW => ⟨⟨0, (1, kc, cp, cn, kn), rfl, (by unfold m_input; rw [if_pos c_8]), by rw [ht]; exact hP, hD⟩, hS.F ht⟩) hS.2.2 dX7_input_27
theorem iwX7_and_7 : ∀ w ∈ wsX70, w ∈ wsX7_and := by decide +kernel
set_option maxHeartbeats 4000000 in
set_option maxRecDepth 100000 in
theorem c_X7_and (l : Launch) (D : va_G) (κ : Nat → ClassId) (sz : Nat) (q : Nat → Nat) (th : Int32) (kc : KC) (cp : Nat → Int32) (cn : Nat) (ro : Nat → Int64) (kn : Int32) (lv be : Nat → Int32) (p0 p1 : Int32) (hnd : mnd kc ≤ 400) (hoc : moc kc ≤ 40) (hcn : cn ≤ 30) (hlt : ∀ j, j < mnd kc → mso kc j = 2 → mon kc j < 2 * mnd kc ∧ mtw kc j < 2 * mnd kc) : k_mui (S := KX) l yX7_and wsX7_and 2 42 0 0 D κ [.ref (q 0), .int p0, .int p1] (wN κ q th kc cp cn ro kn lv be) sz (fun r u => (r, u) = m_and kc cp cn kn p0 p1) (fun u => wN κ q u.1 u.2.1 u.2.2.1 u.2.2.2.1 ro u.2.2.2.2 lv be) := by
  refine Met.ofW (cc := cX7_and) (maxL := 5) (ret := (some .int)) (by decide) rfl ?_
  intro p e s m args below meth c s₁ B hml hv
  obtain ⟨rfl, hsz, hK, hP, hD0⟩ := hv
  have hx := B.exec
  have hb := B.bytes
  have hr := B.returns
  have hts := atoms_spec (ws := wsX7_and) B.pre
  have hown : s.vm.findClass RX7 = some m.cls := findClass_of_methodNamed B.named
  have hlocks := B.notSynchronized
  subst hsz
  have hD := hD0.self (sz := s.heap.size)
  generalize hAe : va_A (wN κ q th kc cp cn ro kn lv be) s.heap.size = A at hD ⊢
  have hA : ∀ q : Nat, s.heap.size ≤ q → A q := fun q h => by rw [← hAe]; exact Or.inr h
  have hS : va_S A s.heap s.heap [] := va_S.rf
  have hP : va_P D vwCl (wN κ q th kc cp cn ro kn lv be) s.heap := hP
  have hl := lv_entry ([.ref (q 0), .int p0, .int p1]) (n := 5) (Nat.le_of_ble_eq_true rfl)
  rw [lg_entry_eq]
  generalize (lg_sl ([.ref (q 0), .int p0, .int p1]) ++ List.replicate (5 - (lg_sl ([.ref (q 0), .int p0, .int p1])).length) Slot.unset).toArray = ls at hl ⊢
  have hl : lv_has ls 5 [(0, .ref (q 0)), (1, .int p0), (2, .int p1)] := hl
  refine lv_aload_n hx hb dX7_and_0 rfl (lv_at hl 0 rfl) ?_
  refine lv_iload_n hx hb dX7_and_1 rfl (lv_at hl 1 rfl) ?_
  refine k_cRO (D := D) (κ := κ) (qc := (RX7, TX7, 15)) (ci := 7) (q0 := 0) ⟨hx, hb, hml, hown, hts⟩ (c_X7_wrong l D κ q th kc cp cn ro kn lv be p0 (by omega) (by omega) (by omega) ) (cwV 1 hts gX7_and_X7_wrong rfl rfl rfl (by decide +kernel) ⟨Nat.le_of_ble_eq_true rfl, Nat.le_of_ble_eq_true rfl⟩) hK hP rfl rfl (As := [.int p0]) (rest := []) rfl rfl hl.1 (Nat.le_of_ble_eq_true rfl) dX7_and_2 ⟨Nat.le_of_ble_eq_true rfl, Nat.le_of_ble_eq_true rfl⟩ (fun r hr => ?_)
  subst hr
  refine lv_iconst (v := 1) hx hb dX7_and_5 (by decide) ?_
  refine lv_icmp_eq (tgt := 18) hx hb dX7_and_6 (by decide) (fun c_6 => ?_) (fun c_6 => ?_)
  · skip
    refine lv_iconst (v := 1) hx hb dX7_and_18 (by decide) ?_
    refine lv_goto (tgt := 43) hx hb dX7_and_19 (by decide) ?_
    refine lv_istore_n (lv' := [(3, .int 1), (0, .ref (q 0)), (1, .int p0), (2, .int p1)]) hx hb dX7_and_43 rfl hl (by decide) rfl (fun ls hl => ?_)
    refine lv_aload_n hx hb dX7_and_44 rfl (lv_at hl 1 rfl) ?_
    refine lv_iload_n hx hb dX7_and_45 rfl (lv_at hl 0 rfl) ?_
    refine va_put (D := D) (ci := 7) (v := .int 1) (ty := .int) (C := RX7) (T := TX7) (N := 15) hx hb hts (iwX7_and_7) tyX7 tyX7_ok nmX7 hown hK.1 hP hD hS 0 rfl rfl 0 (by decide) (hts (.fieldLink RX7 47 "InverterGraphsModel" "thrown" "I") (by decide +kernel)) (fun _ h9 => h9) rfl (by decide +kernel) rfl rfl (Nat.le_of_ble_eq_true rfl) dX7_and_46 (fun H locs hP hD hS => ?_)
    have hP : va_P D vwCl (wN κ q 1 kc cp cn ro kn lv be) H := hP
    have hD : va_D A (wN κ q 1 kc cp cn ro kn lv be) := hD
    refine lv_aload_n hx hb dX7_and_49 rfl (lv_at hl 1 rfl) ?_
    refine va_get (D := D) (ci := 7) (v := .int 1) (C := RX7) (T := TX7) (N := 15) hx hb hts (iwX7_and_7) hown hK.1 hP 0 rfl rfl 0 (by decide) (hts (.fieldLink RX7 47 "InverterGraphsModel" "thrown" "I") (by decide +kernel)) (fun _ h9 => h9) rfl dX7_and_50 ?_
    refine lv_if_le (tgt := 58) hx hb dX7_and_53 (by decide) (fun c_53 => ?_) (fun c_53 => ?_)
    · skip
      exfalso; revert c_53; decide
    · skip
      refine lv_iconst (v := 0) hx hb dX7_and_56 (by decide) ?_
      exact W.iret (v := 0) hx hb hr (fun t ht hW => ⟨⟨0, (1, kc, cp, cn, kn), rfl, (by unfold m_and; rw [if_pos c_6]), by rw [ht]; exact hP, hD⟩, hS.F ht⟩) hS.2.2 dX7_and_57
  · skip
    refine lv_aload_n hx hb dX7_and_9 rfl (lv_at hl 0 rfl) ?_
    refine lv_iload_n hx hb dX7_and_10 rfl (lv_at hl 2 rfl) ?_
    refine k_cRO (D := D) (κ := κ) (qc := (RX7, TX7, 15)) (ci := 7) (q0 := 0) ⟨hx, hb, hml, hown, hts⟩ (c_X7_wrong l D κ q th kc cp cn ro kn lv be p1 (by omega) (by omega) (by omega) ) (cwV 1 hts gX7_and_X7_wrong rfl rfl rfl (by decide +kernel) ⟨Nat.le_of_ble_eq_true rfl, Nat.le_of_ble_eq_true rfl⟩) hK hP rfl rfl (As := [.int p1]) (rest := []) rfl rfl hl.1 (Nat.le_of_ble_eq_true rfl) dX7_and_11 ⟨Nat.le_of_ble_eq_true rfl, Nat.le_of_ble_eq_true rfl⟩ (fun r hr => ?_)
    subst hr
    refine lv_iconst (v := 1) hx hb dX7_and_14 (by decide) ?_
    refine lv_icmp_ne (tgt := 22) hx hb dX7_and_15 (by decide) (fun c_15 => ?_) (fun c_15 => ?_)
    · skip
      refine lv_aload_n hx hb dX7_and_22 rfl (lv_at hl 0 rfl) ?_
      refine lv_iload_n hx hb dX7_and_23 rfl (lv_at hl 1 rfl) ?_
      refine k_cRO (D := D) (κ := κ) (qc := (RX7, TX7, 15)) (ci := 7) (q0 := 0) ⟨hx, hb, hml, hown, hts⟩ (c_X7_wrong l D κ q th kc cp cn ro kn lv be p0 (by omega) (by omega) (by omega) ) (cwV 1 hts gX7_and_X7_wrong rfl rfl rfl (by decide +kernel) ⟨Nat.le_of_ble_eq_true rfl, Nat.le_of_ble_eq_true rfl⟩) hK hP rfl rfl (As := [.int p0]) (rest := []) rfl rfl hl.1 (Nat.le_of_ble_eq_true rfl) dX7_and_24 ⟨Nat.le_of_ble_eq_true rfl, Nat.le_of_ble_eq_true rfl⟩ (fun r hr => ?_)
      subst hr
      refine lv_if_gt (tgt := 38) hx hb dX7_and_27 (by decide) (fun c_27 => ?_) (fun c_27 => ?_)
      · skip
        refine lv_iconst (v := 2) hx hb dX7_and_38 (by decide) ?_
        refine lv_goto (tgt := 43) hx hb dX7_and_39 (by decide) ?_
        refine lv_istore_n (lv' := [(3, .int 2), (0, .ref (q 0)), (1, .int p0), (2, .int p1)]) hx hb dX7_and_43 rfl hl (by decide) rfl (fun ls hl => ?_)
        refine lv_aload_n hx hb dX7_and_44 rfl (lv_at hl 1 rfl) ?_
        refine lv_iload_n hx hb dX7_and_45 rfl (lv_at hl 0 rfl) ?_
        refine va_put (D := D) (ci := 7) (v := .int 2) (ty := .int) (C := RX7) (T := TX7) (N := 15) hx hb hts (iwX7_and_7) tyX7 tyX7_ok nmX7 hown hK.1 hP hD hS 0 rfl rfl 0 (by decide) (hts (.fieldLink RX7 47 "InverterGraphsModel" "thrown" "I") (by decide +kernel)) (fun _ h9 => h9) rfl (by decide +kernel) rfl rfl (Nat.le_of_ble_eq_true rfl) dX7_and_46 (fun H locs hP hD hS => ?_)
        have hP : va_P D vwCl (wN κ q 2 kc cp cn ro kn lv be) H := hP
        have hD : va_D A (wN κ q 2 kc cp cn ro kn lv be) := hD
        refine lv_aload_n hx hb dX7_and_49 rfl (lv_at hl 1 rfl) ?_
        refine va_get (D := D) (ci := 7) (v := .int 2) (C := RX7) (T := TX7) (N := 15) hx hb hts (iwX7_and_7) hown hK.1 hP 0 rfl rfl 0 (by decide) (hts (.fieldLink RX7 47 "InverterGraphsModel" "thrown" "I") (by decide +kernel)) (fun _ h9 => h9) rfl dX7_and_50 ?_
        refine lv_if_le (tgt := 58) hx hb dX7_and_53 (by decide) (fun c_53 => ?_) (fun c_53 => ?_)
        · skip
          exfalso; revert c_53; decide
        · skip
          refine lv_iconst (v := 0) hx hb dX7_and_56 (by decide) ?_
          exact W.iret (v := 0) hx hb hr (fun t ht hW => ⟨⟨0, (2, kc, cp, cn, kn), rfl, (by unfold m_and; rw [if_neg c_6, if_neg c_15, if_pos c_27]), by rw [ht]; exact hP, hD⟩, hS.F ht⟩) hS.2.2 dX7_and_57
      · skip
        refine lv_aload_n hx hb dX7_and_30 rfl (lv_at hl 0 rfl) ?_
        refine lv_iload_n hx hb dX7_and_31 rfl (lv_at hl 2 rfl) ?_
        refine k_cRO (D := D) (κ := κ) (qc := (RX7, TX7, 15)) (ci := 7) (q0 := 0) ⟨hx, hb, hml, hown, hts⟩ (c_X7_wrong l D κ q th kc cp cn ro kn lv be p1 (by omega) (by omega) (by omega) ) (cwV 1 hts gX7_and_X7_wrong rfl rfl rfl (by decide +kernel) ⟨Nat.le_of_ble_eq_true rfl, Nat.le_of_ble_eq_true rfl⟩) hK hP rfl rfl (As := [.int p1]) (rest := []) rfl rfl hl.1 (Nat.le_of_ble_eq_true rfl) dX7_and_32 ⟨Nat.le_of_ble_eq_true rfl, Nat.le_of_ble_eq_true rfl⟩ (fun r hr => ?_)
        subst hr
        refine lv_if_le (tgt := 42) hx hb dX7_and_35 (by decide) (fun c_35 => ?_) (fun c_35 => ?_)
        · skip
          refine lv_iconst (v := 0) hx hb dX7_and_42 (by decide) ?_
          refine lv_istore_n (lv' := [(3, .int 0), (0, .ref (q 0)), (1, .int p0), (2, .int p1)]) hx hb dX7_and_43 rfl hl (by decide) rfl (fun ls hl => ?_)
          refine lv_aload_n hx hb dX7_and_44 rfl (lv_at hl 1 rfl) ?_
          refine lv_iload_n hx hb dX7_and_45 rfl (lv_at hl 0 rfl) ?_
          refine va_put (D := D) (ci := 7) (v := .int 0) (ty := .int) (C := RX7) (T := TX7) (N := 15) hx hb hts (iwX7_and_7) tyX7 tyX7_ok nmX7 hown hK.1 hP hD hS 0 rfl rfl 0 (by decide) (hts (.fieldLink RX7 47 "InverterGraphsModel" "thrown" "I") (by decide +kernel)) (fun _ h9 => h9) rfl (by decide +kernel) rfl rfl (Nat.le_of_ble_eq_true rfl) dX7_and_46 (fun H locs hP hD hS => ?_)
          have hP : va_P D vwCl (wN κ q 0 kc cp cn ro kn lv be) H := hP
          have hD : va_D A (wN κ q 0 kc cp cn ro kn lv be) := hD
          refine lv_aload_n hx hb dX7_and_49 rfl (lv_at hl 1 rfl) ?_
          refine va_get (D := D) (ci := 7) (v := .int 0) (C := RX7) (T := TX7) (N := 15) hx hb hts (iwX7_and_7) hown hK.1 hP 0 rfl rfl 0 (by decide) (hts (.fieldLink RX7 47 "InverterGraphsModel" "thrown" "I") (by decide +kernel)) (fun _ h9 => h9) rfl dX7_and_50 ?_
          refine lv_if_le (tgt := 58) hx hb dX7_and_53 (by decide) (fun c_53 => ?_) (fun c_53 => ?_)
          · skip
            obtain ⟨a, hva, rfl, -⟩ := m_wrong_ok hnd c_6 (Int32.not_lt.mp c_27)
            obtain ⟨b, hvb, rfl, -⟩ := m_wrong_ok hnd (m_le1 c_35) c_35
            refine lv_aload_n hx hb dX7_and_58 rfl (lv_at hl 1 rfl) ?_
            refine lv_iload_n hx hb dX7_and_59 rfl (lv_at hl 2 rfl) ?_
            refine lv_iload_n hx hb dX7_and_60 rfl (lv_at hl 3 rfl) ?_
            refine lv_iconst (v := (-1)) hx hb dX7_and_61 (by decide) ?_
            refine k_cRO (D := D) (κ := κ) (qc := (RX7, TX7, 15)) (ci := 7) (q0 := 0) ⟨hx, hb, hml, hown, hts⟩ (c_X7_simple l D κ q 0 kc cp cn ro kn lv be a b (-1) (by omega) (by omega) (by omega) (by omega) (by omega) (by assumption)) (cwV 3 hts gX7_and_X7_simple rfl rfl rfl (by decide +kernel) ⟨Nat.le_of_ble_eq_true rfl, Nat.le_of_ble_eq_true rfl⟩) hK hP rfl rfl (As := [.int (nI a), .int (nI b), .int (-1)]) (rest := []) rfl rfl hl.1 (Nat.le_of_ble_eq_true rfl) dX7_and_62 ⟨Nat.le_of_ble_eq_true rfl, Nat.le_of_ble_eq_true rfl⟩ (fun r hr => ?_)
            subst hr
            refine lv_istore (lv' := [(4, .int (m_simple kc a b (-1))), (3, .int 0), (0, .ref (q 0)), (1, .int (nI a)), (2, .int (nI b))]) hx hb dX7_and_65 hl (by decide) rfl (fun ls hl => ?_)
            refine lv_iload hx hb dX7_and_67 (lv_at hl 0 rfl) ?_
            refine lv_if_lt (tgt := 75) hx hb dX7_and_69 (by decide) (fun c_69 => ?_) (fun c_69 => ?_)
            · skip
              refine lv_aload_n hx hb dX7_and_75 rfl (lv_at hl 2 rfl) ?_
              refine lv_aload_n hx hb dX7_and_76 rfl (lv_at hl 2 rfl) ?_
              refine va_get (D := D) (ci := 7) (v := .int (nI (mnd kc))) (C := RX7) (T := TX7) (N := 15) hx hb hts (iwX7_and_7) hown hK.1 hP 0 rfl rfl 5 (by decide) (hts (.fieldLink RX7 43 "InverterGraphsModel" "nodes" "I") (by decide +kernel)) (fun _ h9 => h9) rfl dX7_and_77 ?_
              refine lv_sipush (v := 400) hx hb dX7_and_80 (by decide) ?_
              refine lv_icmp_ne (tgt := 90) hx hb dX7_and_83 (by decide) (fun c_83 => ?_) (fun c_83 => ?_)
              · skip
                have c_83 : ¬ ((mnd kc) = 400) := fun h9 => c_83 ((nI_eq (a := (mnd kc)) (b := 400) (by omega) (by omega)).mpr h9)
                refine lv_iconst (v := 0) hx hb dX7_and_90 (by decide) ?_
                refine va_put (D := D) (ci := 7) (v := .int 0) (ty := .int) (C := RX7) (T := TX7) (N := 15) hx hb hts (iwX7_and_7) tyX7 tyX7_ok nmX7 hown hK.1 hP hD hS 0 rfl rfl 0 (by decide) (hts (.fieldLink RX7 47 "InverterGraphsModel" "thrown" "I") (by decide +kernel)) (fun _ h9 => h9) rfl (by decide +kernel) rfl rfl (Nat.le_of_ble_eq_true rfl) dX7_and_91 (fun H locs hP hD hS => ?_)
                have hP : va_P D vwCl (wN κ q 0 kc cp cn ro kn lv be) H := hP
                have hD : va_D A (wN κ q 0 kc cp cn ro kn lv be) := hD
                refine lv_aload_n hx hb dX7_and_94 rfl (lv_at hl 2 rfl) ?_
                refine va_get (D := D) (ci := 7) (v := .int 0) (C := RX7) (T := TX7) (N := 15) hx hb hts (iwX7_and_7) hown hK.1 hP 0 rfl rfl 0 (by decide) (hts (.fieldLink RX7 47 "InverterGraphsModel" "thrown" "I") (by decide +kernel)) (fun _ h9 => h9) rfl dX7_and_95 ?_
                refine lv_if_le (tgt := 103) hx hb dX7_and_98 (by decide) (fun c_98 => ?_) (fun c_98 => ?_)
                · skip
                  refine lv_aload_n hx hb dX7_and_103 rfl (lv_at hl 2 rfl) ?_
                  refine k_cWUv (D := D) (κ := κ) (qc := (RX7, TX7, 15)) (ci := 7) (q0 := 0) ⟨hx, hb, hml, hown, hts⟩ (c_X7_save l D κ _ q 0 kc cp cn ro kn lv be  (by omega) (by omega) (by omega)) (cwV 0 hts gX7_and_X7_save rfl rfl rfl (by decide +kernel) ⟨Nat.le_of_ble_eq_true rfl, Nat.le_of_ble_eq_true rfl⟩) hK hP hD hS hA rfl rfl (As := []) (rest := []) rfl rfl hl.1 (Nat.le_of_ble_eq_true rfl) dX7_and_104 ⟨Nat.le_of_ble_eq_true rfl, Nat.le_of_ble_eq_true rfl⟩ (fun u_104 H locs hw9 hP hD hS => ?_)
                  have hu_104 := hw9
                  have hq_104 : u_104.2 ≤ 30 := by rw [hu_104]; exact m_save_le _ _ (by omega)
                  have hP : va_P D vwCl (wN κ q 0 kc u_104.1 u_104.2 ro 0 lv be) H := hP
                  have hD : va_D A (wN κ q 0 kc u_104.1 u_104.2 ro 0 lv be) := hD
                  refine lv_iconst (v := 2) hx hb dX7_and_107 (by decide) ?_
                  refine lv_aload_n hx hb dX7_and_108 rfl (lv_at hl 2 rfl) ?_
                  refine lv_iconst (v := 2) hx hb dX7_and_109 (by decide) ?_
                  refine lv_iload_n hx hb dX7_and_110 rfl (lv_at hl 3 rfl) ?_
                  refine lv_iload_n hx hb dX7_and_111 rfl (lv_at hl 4 rfl) ?_
                  refine lv_icmp_ge (tgt := 119) hx hb dX7_and_112 (by decide) (fun c_112 => ?_) (fun c_112 => ?_)
                  · skip
                    have c_112 : b ≤ a := (nI_leI (a := b) (b := a) (by omega) (by omega)).mp c_112
                    refine lv_iload_n hx hb dX7_and_119 rfl (lv_at hl 4 rfl) ?_
                    refine lv_iload_n hx hb dX7_and_120 rfl (lv_at hl 3 rfl) ?_
                    refine lv_iload_n hx hb dX7_and_121 rfl (lv_at hl 4 rfl) ?_
                    refine lv_icmp_ge (tgt := 129) hx hb dX7_and_122 (by decide) (fun c_122 => ?_) (fun c_122 => ?_)
                    · skip
                      have c_122 : b ≤ a := (nI_leI (a := b) (b := a) (by omega) (by omega)).mp c_122
                      refine lv_iload_n hx hb dX7_and_129 rfl (lv_at hl 3 rfl) ?_
                      refine k_cWUi (D := D) (κ := κ) (qc := (RX7, TX7, 15)) (ci := 7) (q0 := 0) ⟨hx, hb, hml, hown, hts⟩ (c_X7_newNode l D κ _ q 0 kc u_104.1 u_104.2 ro 0 lv be 2 b a (by omega) (by omega) (by omega) (by omega)) (cwV 3 hts gX7_and_X7_newNode rfl rfl rfl (by decide +kernel) ⟨Nat.le_of_ble_eq_true rfl, Nat.le_of_ble_eq_true rfl⟩) hK hP hD hS hA rfl rfl (As := [.int 2, .int (nI b), .int (nI a)]) (rest := [.int 2]) rfl rfl hl.1 (Nat.le_of_ble_eq_true rfl) dX7_and_130 ⟨Nat.le_of_ble_eq_true rfl, Nat.le_of_ble_eq_true rfl⟩ (fun r _ H locs hr hP hD hS => ?_)
                      have hP : va_P D vwCl (wN κ q 0 (m_new 2 b a kc) u_104.1 u_104.2 ro 0 lv be) H := hP
                      have hD : va_D A (wN κ q 0 (m_new 2 b a kc) u_104.1 u_104.2 ro 0 lv be) := hD
                      subst hr
                      refine lv_imul hx hb dX7_and_133 ?_
                      refine lv_topi (nm_r (pk_mul 2 (mnd kc)) ?_)
                      exact W.iret (v := nI (2 * (mnd kc))) hx hb hr (fun t ht hW => ⟨⟨nI (2 * (mnd kc)), (0, m_new 2 b a kc, u_104.1, u_104.2, 0), rfl, (by unfold m_and; rw [nI_clamp (show a < 2 ^ 31 by omega), nI_clamp (show b < 2 ^ 31 by omega), if_neg c_6, if_neg c_15, if_neg c_27, if_pos c_35, if_pos c_69, if_neg c_83, if_pos c_112, if_pos c_112]; unfold m_sv; rw [← hu_104] <;> rfl), by rw [ht]; exact hP, hD⟩, hS.F ht⟩) hS.2.2 dX7_and_134
                    · skip
                      have c_122 : ¬ (b ≤ a) := fun h9 => c_122 ((nI_leI (a := b) (b := a) (by omega) (by omega)).mpr h9)
                      exfalso; omega
                  · skip
                    have c_112 : ¬ (b ≤ a) := fun h9 => c_112 ((nI_leI (a := b) (b := a) (by omega) (by omega)).mpr h9)
                    refine lv_iload_n hx hb dX7_and_115 rfl (lv_at hl 3 rfl) ?_
                    refine lv_goto (tgt := 120) hx hb dX7_and_116 (by decide) ?_
                    refine lv_iload_n hx hb dX7_and_120 rfl (lv_at hl 3 rfl) ?_
                    refine lv_iload_n hx hb dX7_and_121 rfl (lv_at hl 4 rfl) ?_
                    refine lv_icmp_ge (tgt := 129) hx hb dX7_and_122 (by decide) (fun c_122 => ?_) (fun c_122 => ?_)
                    · skip
                      have c_122 : b ≤ a := (nI_leI (a := b) (b := a) (by omega) (by omega)).mp c_122
                      exfalso; omega
                    · skip
                      have c_122 : ¬ (b ≤ a) := fun h9 => c_122 ((nI_leI (a := b) (b := a) (by omega) (by omega)).mpr h9)
                      refine lv_iload_n hx hb dX7_and_125 rfl (lv_at hl 4 rfl) ?_
                      refine lv_goto (tgt := 130) hx hb dX7_and_126 (by decide) ?_
                      refine k_cWUi (D := D) (κ := κ) (qc := (RX7, TX7, 15)) (ci := 7) (q0 := 0) ⟨hx, hb, hml, hown, hts⟩ (c_X7_newNode l D κ _ q 0 kc u_104.1 u_104.2 ro 0 lv be 2 a b (by omega) (by omega) (by omega) (by omega)) (cwV 3 hts gX7_and_X7_newNode rfl rfl rfl (by decide +kernel) ⟨Nat.le_of_ble_eq_true rfl, Nat.le_of_ble_eq_true rfl⟩) hK hP hD hS hA rfl rfl (As := [.int 2, .int (nI a), .int (nI b)]) (rest := [.int 2]) rfl rfl hl.1 (Nat.le_of_ble_eq_true rfl) dX7_and_130 ⟨Nat.le_of_ble_eq_true rfl, Nat.le_of_ble_eq_true rfl⟩ (fun r _ H locs hr hP hD hS => ?_)
                      have hP : va_P D vwCl (wN κ q 0 (m_new 2 a b kc) u_104.1 u_104.2 ro 0 lv be) H := hP
                      have hD : va_D A (wN κ q 0 (m_new 2 a b kc) u_104.1 u_104.2 ro 0 lv be) := hD
                      subst hr
                      refine lv_imul hx hb dX7_and_133 ?_
                      refine lv_topi (nm_r (pk_mul 2 (mnd kc)) ?_)
                      exact W.iret (v := nI (2 * (mnd kc))) hx hb hr (fun t ht hW => ⟨⟨nI (2 * (mnd kc)), (0, m_new 2 a b kc, u_104.1, u_104.2, 0), rfl, (by unfold m_and; rw [nI_clamp (show a < 2 ^ 31 by omega), nI_clamp (show b < 2 ^ 31 by omega), if_neg c_6, if_neg c_15, if_neg c_27, if_pos c_35, if_pos c_69, if_neg c_83, if_neg c_112, if_neg c_112]; unfold m_sv; rw [← hu_104] <;> rfl), by rw [ht]; exact hP, hD⟩, hS.F ht⟩) hS.2.2 dX7_and_134
                · skip
                  exfalso; revert c_98; decide
              · skip
                have c_83 : (mnd kc) = 400 := (nI_eq (a := (mnd kc)) (b := 400) (by omega) (by omega)).mp c_83
                refine lv_iconst (v := 3) hx hb dX7_and_86 (by decide) ?_
                refine lv_goto (tgt := 91) hx hb dX7_and_87 (by decide) ?_
                refine va_put (D := D) (ci := 7) (v := .int 3) (ty := .int) (C := RX7) (T := TX7) (N := 15) hx hb hts (iwX7_and_7) tyX7 tyX7_ok nmX7 hown hK.1 hP hD hS 0 rfl rfl 0 (by decide) (hts (.fieldLink RX7 47 "InverterGraphsModel" "thrown" "I") (by decide +kernel)) (fun _ h9 => h9) rfl (by decide +kernel) rfl rfl (Nat.le_of_ble_eq_true rfl) dX7_and_91 (fun H locs hP hD hS => ?_)
                have hP : va_P D vwCl (wN κ q 3 kc cp cn ro kn lv be) H := hP
                have hD : va_D A (wN κ q 3 kc cp cn ro kn lv be) := hD
                refine lv_aload_n hx hb dX7_and_94 rfl (lv_at hl 2 rfl) ?_
                refine va_get (D := D) (ci := 7) (v := .int 3) (C := RX7) (T := TX7) (N := 15) hx hb hts (iwX7_and_7) hown hK.1 hP 0 rfl rfl 0 (by decide) (hts (.fieldLink RX7 47 "InverterGraphsModel" "thrown" "I") (by decide +kernel)) (fun _ h9 => h9) rfl dX7_and_95 ?_
                refine lv_if_le (tgt := 103) hx hb dX7_and_98 (by decide) (fun c_98 => ?_) (fun c_98 => ?_)
                · skip
                  exfalso; revert c_98; decide
                · skip
                  refine lv_iconst (v := 0) hx hb dX7_and_101 (by decide) ?_
                  exact W.iret (v := 0) hx hb hr (fun t ht hW => ⟨⟨0, (3, kc, cp, cn, kn), rfl, (by unfold m_and; rw [nI_clamp (show a < 2 ^ 31 by omega), nI_clamp (show b < 2 ^ 31 by omega), if_neg c_6, if_neg c_15, if_neg c_27, if_pos c_35, if_pos c_69, if_pos c_83]), by rw [ht]; exact hP, hD⟩, hS.F ht⟩) hS.2.2 dX7_and_102
            · skip
              refine lv_iload hx hb dX7_and_72 (lv_at hl 0 rfl) ?_
              exact W.iret (v := m_simple kc a b (-1)) hx hb hr (fun t ht hW => ⟨⟨m_simple kc a b (-1), (0, kc, cp, cn, kn), rfl, (by unfold m_and; rw [nI_clamp (show a < 2 ^ 31 by omega), nI_clamp (show b < 2 ^ 31 by omega), if_neg c_6, if_neg c_15, if_neg c_27, if_pos c_35, if_neg c_69]), by rw [ht]; exact hP, hD⟩, hS.F ht⟩) hS.2.2 dX7_and_74
          · skip
            exfalso; revert c_53; decide
        · skip
          refine lv_iconst (v := 2) hx hb dX7_and_38 (by decide) ?_
          refine lv_goto (tgt := 43) hx hb dX7_and_39 (by decide) ?_
          refine lv_istore_n (lv' := [(3, .int 2), (0, .ref (q 0)), (1, .int p0), (2, .int p1)]) hx hb dX7_and_43 rfl hl (by decide) rfl (fun ls hl => ?_)
          refine lv_aload_n hx hb dX7_and_44 rfl (lv_at hl 1 rfl) ?_
          refine lv_iload_n hx hb dX7_and_45 rfl (lv_at hl 0 rfl) ?_
          refine va_put (D := D) (ci := 7) (v := .int 2) (ty := .int) (C := RX7) (T := TX7) (N := 15) hx hb hts (iwX7_and_7) tyX7 tyX7_ok nmX7 hown hK.1 hP hD hS 0 rfl rfl 0 (by decide) (hts (.fieldLink RX7 47 "InverterGraphsModel" "thrown" "I") (by decide +kernel)) (fun _ h9 => h9) rfl (by decide +kernel) rfl rfl (Nat.le_of_ble_eq_true rfl) dX7_and_46 (fun H locs hP hD hS => ?_)
          have hP : va_P D vwCl (wN κ q 2 kc cp cn ro kn lv be) H := hP
          have hD : va_D A (wN κ q 2 kc cp cn ro kn lv be) := hD
          refine lv_aload_n hx hb dX7_and_49 rfl (lv_at hl 1 rfl) ?_
          refine va_get (D := D) (ci := 7) (v := .int 2) (C := RX7) (T := TX7) (N := 15) hx hb hts (iwX7_and_7) hown hK.1 hP 0 rfl rfl 0 (by decide) (hts (.fieldLink RX7 47 "InverterGraphsModel" "thrown" "I") (by decide +kernel)) (fun _ h9 => h9) rfl dX7_and_50 ?_
          refine lv_if_le (tgt := 58) hx hb dX7_and_53 (by decide) (fun c_53 => ?_) (fun c_53 => ?_)
          · skip
            exfalso; revert c_53; decide
          · skip
            refine lv_iconst (v := 0) hx hb dX7_and_56 (by decide) ?_
            exact W.iret (v := 0) hx hb hr (fun t ht hW => ⟨⟨0, (2, kc, cp, cn, kn), rfl, (by unfold m_and; rw [if_neg c_6, if_neg c_15, if_neg c_27, if_neg c_35]), by rw [ht]; exact hP, hD⟩, hS.F ht⟩) hS.2.2 dX7_and_57
    · skip
      refine lv_iconst (v := 1) hx hb dX7_and_18 (by decide) ?_
      refine lv_goto (tgt := 43) hx hb dX7_and_19 (by decide) ?_
      refine lv_istore_n (lv' := [(3, .int 1), (0, .ref (q 0)), (1, .int p0), (2, .int p1)]) hx hb dX7_and_43 rfl hl (by decide) rfl (fun ls hl => ?_)
      refine lv_aload_n hx hb dX7_and_44 rfl (lv_at hl 1 rfl) ?_
      refine lv_iload_n hx hb dX7_and_45 rfl (lv_at hl 0 rfl) ?_
      refine va_put (D := D) (ci := 7) (v := .int 1) (ty := .int) (C := RX7) (T := TX7) (N := 15) hx hb hts (iwX7_and_7) tyX7 tyX7_ok nmX7 hown hK.1 hP hD hS 0 rfl rfl 0 (by decide) (hts (.fieldLink RX7 47 "InverterGraphsModel" "thrown" "I") (by decide +kernel)) (fun _ h9 => h9) rfl (by decide +kernel) rfl rfl (Nat.le_of_ble_eq_true rfl) dX7_and_46 (fun H locs hP hD hS => ?_)
      have hP : va_P D vwCl (wN κ q 1 kc cp cn ro kn lv be) H := hP
      have hD : va_D A (wN κ q 1 kc cp cn ro kn lv be) := hD
      refine lv_aload_n hx hb dX7_and_49 rfl (lv_at hl 1 rfl) ?_
      refine va_get (D := D) (ci := 7) (v := .int 1) (C := RX7) (T := TX7) (N := 15) hx hb hts (iwX7_and_7) hown hK.1 hP 0 rfl rfl 0 (by decide) (hts (.fieldLink RX7 47 "InverterGraphsModel" "thrown" "I") (by decide +kernel)) (fun _ h9 => h9) rfl dX7_and_50 ?_
      refine lv_if_le (tgt := 58) hx hb dX7_and_53 (by decide) (fun c_53 => ?_) (fun c_53 => ?_)
      · skip
        exfalso; revert c_53; decide
      · skip
        refine lv_iconst (v := 0) hx hb dX7_and_56 (by decide) ?_
        exact W.iret (v := 0) hx hb hr (fun t ht hW => ⟨⟨0, (1, kc, cp, cn, kn), rfl, (by unfold m_and; rw [if_neg c_6, if_pos c_15]), by rw [ht]; exact hP, hD⟩, hS.F ht⟩) hS.2.2 dX7_and_57
theorem iwX7_output_7 : ∀ w ∈ wsX70, w ∈ wsX7_output := by decide +kernel
set_option maxHeartbeats 4000000 in
set_option maxRecDepth 100000 in
theorem c_X7_output (l : Launch) (D : va_G) (κ : Nat → ClassId) (sz : Nat) (q : Nat → Nat) (th : Int32) (kc : KC) (cp : Nat → Int32) (cn : Nat) (ro : Nat → Int64) (kn : Int32) (lv be : Nat → Int32) (p0 : Int32) (hnd : mnd kc ≤ 400) (hoc : moc kc ≤ 40) (hcn : cn ≤ 30) : k_mui (S := KX) l yX7_output wsX7_output 2 42 0 0 D κ [.ref (q 0), .int p0] (wN κ q th kc cp cn ro kn lv be) sz (fun r u => (r, u) = m_output kc cp cn kn p0) (fun u => wN κ q u.1 u.2.1 u.2.2.1 u.2.2.2.1 ro u.2.2.2.2 lv be) := by
  refine Met.ofW (cc := cX7_output) (maxL := 2) (ret := (some .int)) (by decide) rfl ?_
  intro p e s m args below meth c s₁ B hml hv
  obtain ⟨rfl, hsz, hK, hP, hD0⟩ := hv
  have hx := B.exec
  have hb := B.bytes
  have hr := B.returns
  have hts := atoms_spec (ws := wsX7_output) B.pre
  have hown : s.vm.findClass RX7 = some m.cls := findClass_of_methodNamed B.named
  have hlocks := B.notSynchronized
  subst hsz
  have hD := hD0.self (sz := s.heap.size)
  generalize hAe : va_A (wN κ q th kc cp cn ro kn lv be) s.heap.size = A at hD ⊢
  have hA : ∀ q : Nat, s.heap.size ≤ q → A q := fun q h => by rw [← hAe]; exact Or.inr h
  have hS : va_S A s.heap s.heap [] := va_S.rf
  have hP : va_P D vwCl (wN κ q th kc cp cn ro kn lv be) s.heap := hP
  have hl := lv_entry ([.ref (q 0), .int p0]) (n := 2) (Nat.le_of_ble_eq_true rfl)
  rw [lg_entry_eq]
  generalize (lg_sl ([.ref (q 0), .int p0]) ++ List.replicate (2 - (lg_sl ([.ref (q 0), .int p0])).length) Slot.unset).toArray = ls at hl ⊢
  have hl : lv_has ls 2 [(0, .ref (q 0)), (1, .int p0)] := hl
  refine lv_aload_n hx hb dX7_output_0 rfl (lv_at hl 0 rfl) ?_
  refine lv_aload_n hx hb dX7_output_1 rfl (lv_at hl 0 rfl) ?_
  refine lv_iload_n hx hb dX7_output_2 rfl (lv_at hl 1 rfl) ?_
  refine k_cRO (D := D) (κ := κ) (qc := (RX7, TX7, 15)) (ci := 7) (q0 := 0) ⟨hx, hb, hml, hown, hts⟩ (c_X7_wrong l D κ q th kc cp cn ro kn lv be p0 (by omega) (by omega) (by omega) ) (cwV 1 hts gX7_output_X7_wrong rfl rfl rfl (by decide +kernel) ⟨Nat.le_of_ble_eq_true rfl, Nat.le_of_ble_eq_true rfl⟩) hK hP rfl rfl (As := [.int p0]) (rest := [.ref (q 0)]) rfl rfl hl.1 (Nat.le_of_ble_eq_true rfl) dX7_output_3 ⟨Nat.le_of_ble_eq_true rfl, Nat.le_of_ble_eq_true rfl⟩ (fun r hr => ?_)
  subst hr
  refine lv_if_le (tgt := 17) hx hb dX7_output_6 (by decide) (fun c_6 => ?_) (fun c_6 => ?_)
  · skip
    refine lv_aload_n hx hb dX7_output_17 rfl (lv_at hl 0 rfl) ?_
    refine va_get (D := D) (ci := 7) (v := .int (nI (moc kc))) (C := RX7) (T := TX7) (N := 15) hx hb hts (iwX7_output_7) hown hK.1 hP 0 rfl rfl 8 (by decide) (hts (.fieldLink RX7 54 "InverterGraphsModel" "outputCount" "I") (by decide +kernel)) (fun _ h9 => h9) rfl dX7_output_18 ?_
    refine lv_bipush (v := 40) hx hb dX7_output_21 (by decide) ?_
    refine lv_icmp_ne (tgt := 30) hx hb dX7_output_23 (by decide) (fun c_23 => ?_) (fun c_23 => ?_)
    · skip
      have c_23 : ¬ ((moc kc) = 40) := fun h9 => c_23 ((nI_eq (a := (moc kc)) (b := 40) (by omega) (by omega)).mpr h9)
      refine lv_iconst (v := 0) hx hb dX7_output_30 (by decide) ?_
      refine va_put (D := D) (ci := 7) (v := .int 0) (ty := .int) (C := RX7) (T := TX7) (N := 15) hx hb hts (iwX7_output_7) tyX7 tyX7_ok nmX7 hown hK.1 hP hD hS 0 rfl rfl 0 (by decide) (hts (.fieldLink RX7 47 "InverterGraphsModel" "thrown" "I") (by decide +kernel)) (fun _ h9 => h9) rfl (by decide +kernel) rfl rfl (Nat.le_of_ble_eq_true rfl) dX7_output_31 (fun H locs hP hD hS => ?_)
      have hP : va_P D vwCl (wN κ q 0 kc cp cn ro kn lv be) H := hP
      have hD : va_D A (wN κ q 0 kc cp cn ro kn lv be) := hD
      refine lv_aload_n hx hb dX7_output_34 rfl (lv_at hl 0 rfl) ?_
      refine va_get (D := D) (ci := 7) (v := .int 0) (C := RX7) (T := TX7) (N := 15) hx hb hts (iwX7_output_7) hown hK.1 hP 0 rfl rfl 0 (by decide) (hts (.fieldLink RX7 47 "InverterGraphsModel" "thrown" "I") (by decide +kernel)) (fun _ h9 => h9) rfl dX7_output_35 ?_
      refine lv_if_le (tgt := 43) hx hb dX7_output_38 (by decide) (fun c_38 => ?_) (fun c_38 => ?_)
      · skip
        obtain ⟨a, hva, rfl, -⟩ := m_wrong_ok hnd (m_le1 c_6) c_6
        refine lv_aload_n hx hb dX7_output_43 rfl (lv_at hl 0 rfl) ?_
        refine k_cWUv (D := D) (κ := κ) (qc := (RX7, TX7, 15)) (ci := 7) (q0 := 0) ⟨hx, hb, hml, hown, hts⟩ (c_X7_save l D κ _ q 0 kc cp cn ro kn lv be  (by omega) (by omega) (by omega)) (cwV 0 hts gX7_output_X7_save rfl rfl rfl (by decide +kernel) ⟨Nat.le_of_ble_eq_true rfl, Nat.le_of_ble_eq_true rfl⟩) hK hP hD hS hA rfl rfl (As := []) (rest := []) rfl rfl hl.1 (Nat.le_of_ble_eq_true rfl) dX7_output_44 ⟨Nat.le_of_ble_eq_true rfl, Nat.le_of_ble_eq_true rfl⟩ (fun u_44 H locs hw9 hP hD hS => ?_)
        have hu_44 := hw9
        have hq_44 : u_44.2 ≤ 30 := by rw [hu_44]; exact m_save_le _ _ (by omega)
        have hP : va_P D vwCl (wN κ q 0 kc u_44.1 u_44.2 ro 0 lv be) H := hP
        have hD : va_D A (wN κ q 0 kc u_44.1 u_44.2 ro 0 lv be) := hD
        refine lv_aload_n hx hb dX7_output_47 rfl (lv_at hl 0 rfl) ?_
        refine va_get (D := D) (ci := 7) (v := .ref (q 5)) (C := RX7) (T := TX7) (N := 15) hx hb hts (iwX7_output_7) hown hK.1 hP 0 rfl rfl 6 (by decide) (hts (.fieldLink RX7 22 "InverterGraphsModel" "outputs" "[I") (by decide +kernel)) (fun _ h9 => h9) rfl dX7_output_48 ?_
        refine lv_aload_n hx hb dX7_output_51 rfl (lv_at hl 0 rfl) ?_
        refine va_get (D := D) (ci := 7) (v := .int (nI (moc kc))) (C := RX7) (T := TX7) (N := 15) hx hb hts (iwX7_output_7) hown hK.1 hP 0 rfl rfl 8 (by decide) (hts (.fieldLink RX7 54 "InverterGraphsModel" "outputCount" "I") (by decide +kernel)) (fun _ h9 => h9) rfl dX7_output_52 ?_
        refine lv_iload_n hx hb dX7_output_55 rfl (lv_at hl 1 rfl) ?_
        refine k_iastN (D := D) (j := moc kc) (x := a) hx hb hK.1 hP hD hS 5 0 rfl rfl (by omega) (by omega) dX7_output_56 (fun H locs hP hD hS => ?_)
        have hP : va_P D vwCl (wN κ q 0 (mso kc, mon kc, mtw kc, mst kc, mnd kc, k_un (mou kc) (moc kc) a, mbo kc, moc kc) u_44.1 u_44.2 ro 0 lv be) H := hP
        have hD : va_D A (wN κ q 0 (mso kc, mon kc, mtw kc, mst kc, mnd kc, k_un (mou kc) (moc kc) a, mbo kc, moc kc) u_44.1 u_44.2 ro 0 lv be) := hD
        refine lv_aload_n hx hb dX7_output_57 rfl (lv_at hl 0 rfl) ?_
        refine va_get (D := D) (ci := 7) (v := .ref (q 6)) (C := RX7) (T := TX7) (N := 15) hx hb hts (iwX7_output_7) hown hK.1 hP 0 rfl rfl 7 (by decide) (hts (.fieldLink RX7 25 "InverterGraphsModel" "boxed" "[Z") (by decide +kernel)) (fun _ h9 => h9) rfl dX7_output_58 ?_
        refine lv_aload_n hx hb dX7_output_61 rfl (lv_at hl 0 rfl) ?_
        refine va_get (D := D) (ci := 7) (v := .int (nI (moc kc))) (C := RX7) (T := TX7) (N := 15) hx hb hts (iwX7_output_7) hown hK.1 hP 0 rfl rfl 8 (by decide) (hts (.fieldLink RX7 54 "InverterGraphsModel" "outputCount" "I") (by decide +kernel)) (fun _ h9 => h9) rfl dX7_output_62 ?_
        refine lv_iconst (v := 0) hx hb dX7_output_65 (by decide) ?_
        refine k_zast (D := D) (j := moc kc) hx hb hK.1 hP hD hS 6 2 rfl rfl (by omega) (by omega) (rfl) dX7_output_66 (fun H locs hP hD hS => ?_)
        have hP : va_P D vwCl (wN κ q 0 (mso kc, mon kc, mtw kc, mst kc, mnd kc, k_un (mou kc) (moc kc) a, upd (mbo kc) (moc kc) 0, moc kc) u_44.1 u_44.2 ro 0 lv be) H := hP
        have hD : va_D A (wN κ q 0 (mso kc, mon kc, mtw kc, mst kc, mnd kc, k_un (mou kc) (moc kc) a, upd (mbo kc) (moc kc) 0, moc kc) u_44.1 u_44.2 ro 0 lv be) := hD
        refine lv_aload_n hx hb dX7_output_67 rfl (lv_at hl 0 rfl) ?_
        refine lv_dup hx hb dX7_output_68 rfl ?_
        refine va_get (D := D) (ci := 7) (v := .int (nI (moc kc))) (C := RX7) (T := TX7) (N := 15) hx hb hts (iwX7_output_7) hown hK.1 hP 0 rfl rfl 8 (by decide) (hts (.fieldLink RX7 54 "InverterGraphsModel" "outputCount" "I") (by decide +kernel)) (fun _ h9 => h9) rfl dX7_output_69 ?_
        refine lv_iconst (v := 1) hx hb dX7_output_72 (by decide) ?_
        refine lv_iadd hx hb dX7_output_73 ?_
        refine lv_topi (nm_r (nI_add (moc kc) 1) ?_)
        refine va_put (D := D) (ci := 7) (v := .int (nI ((moc kc) + 1))) (ty := .int) (C := RX7) (T := TX7) (N := 15) hx hb hts (iwX7_output_7) tyX7 tyX7_ok nmX7 hown hK.1 hP hD hS 0 rfl rfl 8 (by decide) (hts (.fieldLink RX7 54 "InverterGraphsModel" "outputCount" "I") (by decide +kernel)) (fun _ h9 => h9) rfl (by decide +kernel) rfl rfl (Nat.le_of_ble_eq_true rfl) dX7_output_74 (fun H locs hP hD hS => ?_)
        have hP : va_P D vwCl (wN κ q 0 (mso kc, mon kc, mtw kc, mst kc, mnd kc, k_un (mou kc) (moc kc) a, upd (mbo kc) (moc kc) 0, (moc kc) + 1) u_44.1 u_44.2 ro 0 lv be) H := hP
        have hD : va_D A (wN κ q 0 (mso kc, mon kc, mtw kc, mst kc, mnd kc, k_un (mou kc) (moc kc) a, upd (mbo kc) (moc kc) 0, (moc kc) + 1) u_44.1 u_44.2 ro 0 lv be) := hD
        refine lv_aload_n hx hb dX7_output_77 rfl (lv_at hl 0 rfl) ?_
        refine va_get (D := D) (ci := 7) (v := .int (nI ((moc kc) + 1))) (C := RX7) (T := TX7) (N := 15) hx hb hts (iwX7_output_7) hown hK.1 hP 0 rfl rfl 8 (by decide) (hts (.fieldLink RX7 54 "InverterGraphsModel" "outputCount" "I") (by decide +kernel)) (fun _ h9 => h9) rfl dX7_output_78 ?_
        refine lv_iconst (v := 1) hx hb dX7_output_81 (by decide) ?_
        refine lv_isub hx hb dX7_output_82 ?_
        refine lv_topi (nm_r (pk_sub (a := (moc kc) + 1) (b := 1) (by omega)) ?_)
        exact W.iret (v := nI (((moc kc) + 1) - 1)) hx hb hr (fun t ht hW => ⟨⟨nI (((moc kc) + 1) - 1), (0, (mso kc, mon kc, mtw kc, mst kc, mnd kc, k_un (mou kc) (moc kc) a, upd (mbo kc) (moc kc) 0, (moc kc) + 1), u_44.1, u_44.2, 0), rfl, (by unfold m_output; rw [nI_clamp (show a < 2 ^ 31 by omega), if_pos c_6, if_neg c_23]; unfold m_sv; rw [← hu_44] <;> rfl), by rw [ht]; exact hP, hD⟩, hS.F ht⟩) hS.2.2 dX7_output_83
      · skip
        exfalso; revert c_38; decide
    · skip
      have c_23 : (moc kc) = 40 := (nI_eq (a := (moc kc)) (b := 40) (by omega) (by omega)).mp c_23
      refine lv_iconst (v := 3) hx hb dX7_output_26 (by decide) ?_
      refine lv_goto (tgt := 31) hx hb dX7_output_27 (by decide) ?_
      refine va_put (D := D) (ci := 7) (v := .int 3) (ty := .int) (C := RX7) (T := TX7) (N := 15) hx hb hts (iwX7_output_7) tyX7 tyX7_ok nmX7 hown hK.1 hP hD hS 0 rfl rfl 0 (by decide) (hts (.fieldLink RX7 47 "InverterGraphsModel" "thrown" "I") (by decide +kernel)) (fun _ h9 => h9) rfl (by decide +kernel) rfl rfl (Nat.le_of_ble_eq_true rfl) dX7_output_31 (fun H locs hP hD hS => ?_)
      have hP : va_P D vwCl (wN κ q 3 kc cp cn ro kn lv be) H := hP
      have hD : va_D A (wN κ q 3 kc cp cn ro kn lv be) := hD
      refine lv_aload_n hx hb dX7_output_34 rfl (lv_at hl 0 rfl) ?_
      refine va_get (D := D) (ci := 7) (v := .int 3) (C := RX7) (T := TX7) (N := 15) hx hb hts (iwX7_output_7) hown hK.1 hP 0 rfl rfl 0 (by decide) (hts (.fieldLink RX7 47 "InverterGraphsModel" "thrown" "I") (by decide +kernel)) (fun _ h9 => h9) rfl dX7_output_35 ?_
      refine lv_if_le (tgt := 43) hx hb dX7_output_38 (by decide) (fun c_38 => ?_) (fun c_38 => ?_)
      · skip
        exfalso; revert c_38; decide
      · skip
        refine lv_iconst (v := 0) hx hb dX7_output_41 (by decide) ?_
        exact W.iret (v := 0) hx hb hr (fun t ht hW => ⟨⟨0, (3, kc, cp, cn, kn), rfl, (by unfold m_output; rw [if_pos c_6, if_pos c_23]), by rw [ht]; exact hP, hD⟩, hS.F ht⟩) hS.2.2 dX7_output_42
  · skip
    refine lv_aload_n hx hb dX7_output_9 rfl (lv_at hl 0 rfl) ?_
    refine lv_iload_n hx hb dX7_output_10 rfl (lv_at hl 1 rfl) ?_
    refine k_cRO (D := D) (κ := κ) (qc := (RX7, TX7, 15)) (ci := 7) (q0 := 0) ⟨hx, hb, hml, hown, hts⟩ (c_X7_wrong l D κ q th kc cp cn ro kn lv be p0 (by omega) (by omega) (by omega) ) (cwV 1 hts gX7_output_X7_wrong rfl rfl rfl (by decide +kernel) ⟨Nat.le_of_ble_eq_true rfl, Nat.le_of_ble_eq_true rfl⟩) hK hP rfl rfl (As := [.int p0]) (rest := [.ref (q 0)]) rfl rfl hl.1 (Nat.le_of_ble_eq_true rfl) dX7_output_11 ⟨Nat.le_of_ble_eq_true rfl, Nat.le_of_ble_eq_true rfl⟩ (fun r hr => ?_)
    subst hr
    refine lv_goto (tgt := 31) hx hb dX7_output_14 (by decide) ?_
    refine va_put (D := D) (ci := 7) (v := .int (m_wrong kc p0)) (ty := .int) (C := RX7) (T := TX7) (N := 15) hx hb hts (iwX7_output_7) tyX7 tyX7_ok nmX7 hown hK.1 hP hD hS 0 rfl rfl 0 (by decide) (hts (.fieldLink RX7 47 "InverterGraphsModel" "thrown" "I") (by decide +kernel)) (fun _ h9 => h9) rfl (by decide +kernel) rfl rfl (Nat.le_of_ble_eq_true rfl) dX7_output_31 (fun H locs hP hD hS => ?_)
    have hP : va_P D vwCl (wN κ q (m_wrong kc p0) kc cp cn ro kn lv be) H := hP
    have hD : va_D A (wN κ q (m_wrong kc p0) kc cp cn ro kn lv be) := hD
    refine lv_aload_n hx hb dX7_output_34 rfl (lv_at hl 0 rfl) ?_
    refine va_get (D := D) (ci := 7) (v := .int (m_wrong kc p0)) (C := RX7) (T := TX7) (N := 15) hx hb hts (iwX7_output_7) hown hK.1 hP 0 rfl rfl 0 (by decide) (hts (.fieldLink RX7 47 "InverterGraphsModel" "thrown" "I") (by decide +kernel)) (fun _ h9 => h9) rfl dX7_output_35 ?_
    refine lv_if_le (tgt := 43) hx hb dX7_output_38 (by decide) (fun c_38 => ?_) (fun c_38 => ?_)
    · skip
      exfalso; exact c_6 c_38
    · skip
      refine lv_iconst (v := 0) hx hb dX7_output_41 (by decide) ?_
      exact W.iret (v := 0) hx hb hr (fun t ht hW => ⟨⟨0, (m_wrong kc p0, kc, cp, cn, kn), rfl, (by unfold m_output; rw [if_neg c_6]), by rw [ht]; exact hP, hD⟩, hS.F ht⟩) hS.2.2 dX7_output_42
theorem iwX7_latch_7 : ∀ w ∈ wsX70, w ∈ wsX7_latch := by decide +kernel
set_option maxHeartbeats 4000000 in
set_option maxRecDepth 100000 in
theorem c_X7_latch (l : Launch) (D : va_G) (κ : Nat → ClassId) (sz : Nat) (q : Nat → Nat) (th : Int32) (kc : KC) (cp : Nat → Int32) (cn : Nat) (ro : Nat → Int64) (kn : Int32) (lv be : Nat → Int32) (p0 : Int32) (hnd : mnd kc ≤ 400) (hoc : moc kc ≤ 40) (hcn : cn ≤ 30) : k_mui (S := KX) l yX7_latch wsX7_latch 1 23 0 0 D κ [.ref (q 0), .int p0] (wN κ q th kc cp cn ro kn lv be) sz (fun r u => (r, u) = m_latch kc cp cn kn p0) (fun u => wN κ q u.1 u.2.1 u.2.2.1 u.2.2.2.1 ro u.2.2.2.2 lv be) := by
  refine Met.ofW (cc := cX7_latch) (maxL := 2) (ret := (some .int)) (by decide) rfl ?_
  intro p e s m args below meth c s₁ B hml hv
  obtain ⟨rfl, hsz, hK, hP, hD0⟩ := hv
  have hx := B.exec
  have hb := B.bytes
  have hr := B.returns
  have hts := atoms_spec (ws := wsX7_latch) B.pre
  have hown : s.vm.findClass RX7 = some m.cls := findClass_of_methodNamed B.named
  have hlocks := B.notSynchronized
  subst hsz
  have hD := hD0.self (sz := s.heap.size)
  generalize hAe : va_A (wN κ q th kc cp cn ro kn lv be) s.heap.size = A at hD ⊢
  have hA : ∀ q : Nat, s.heap.size ≤ q → A q := fun q h => by rw [← hAe]; exact Or.inr h
  have hS : va_S A s.heap s.heap [] := va_S.rf
  have hP : va_P D vwCl (wN κ q th kc cp cn ro kn lv be) s.heap := hP
  have hl := lv_entry ([.ref (q 0), .int p0]) (n := 2) (Nat.le_of_ble_eq_true rfl)
  rw [lg_entry_eq]
  generalize (lg_sl ([.ref (q 0), .int p0]) ++ List.replicate (2 - (lg_sl ([.ref (q 0), .int p0])).length) Slot.unset).toArray = ls at hl ⊢
  have hl : lv_has ls 2 [(0, .ref (q 0)), (1, .int p0)] := hl
  refine lv_aload_n hx hb dX7_latch_0 rfl (lv_at hl 0 rfl) ?_
  refine lv_iload_n hx hb dX7_latch_1 rfl (lv_at hl 1 rfl) ?_
  refine lv_if_eq (tgt := 14) hx hb dX7_latch_2 (by decide) (fun c_2 => ?_) (fun c_2 => ?_)
  · skip
    refine lv_aload_n hx hb dX7_latch_14 rfl (lv_at hl 0 rfl) ?_
    refine va_get (D := D) (ci := 7) (v := .int (nI (mnd kc))) (C := RX7) (T := TX7) (N := 15) hx hb hts (iwX7_latch_7) hown hK.1 hP 0 rfl rfl 5 (by decide) (hts (.fieldLink RX7 43 "InverterGraphsModel" "nodes" "I") (by decide +kernel)) (fun _ h9 => h9) rfl dX7_latch_15 ?_
    refine lv_sipush (v := 400) hx hb dX7_latch_18 (by decide) ?_
    refine lv_icmp_ne (tgt := 28) hx hb dX7_latch_21 (by decide) (fun c_21 => ?_) (fun c_21 => ?_)
    · skip
      have c_21 : ¬ ((mnd kc) = 400) := fun h9 => c_21 ((nI_eq (a := (mnd kc)) (b := 400) (by omega) (by omega)).mpr h9)
      refine lv_iconst (v := 0) hx hb dX7_latch_28 (by decide) ?_
      refine va_put (D := D) (ci := 7) (v := .int 0) (ty := .int) (C := RX7) (T := TX7) (N := 15) hx hb hts (iwX7_latch_7) tyX7 tyX7_ok nmX7 hown hK.1 hP hD hS 0 rfl rfl 0 (by decide) (hts (.fieldLink RX7 47 "InverterGraphsModel" "thrown" "I") (by decide +kernel)) (fun _ h9 => h9) rfl (by decide +kernel) rfl rfl (Nat.le_of_ble_eq_true rfl) dX7_latch_29 (fun H locs hP hD hS => ?_)
      have hP : va_P D vwCl (wN κ q 0 kc cp cn ro kn lv be) H := hP
      have hD : va_D A (wN κ q 0 kc cp cn ro kn lv be) := hD
      refine lv_aload_n hx hb dX7_latch_32 rfl (lv_at hl 0 rfl) ?_
      refine va_get (D := D) (ci := 7) (v := .int 0) (C := RX7) (T := TX7) (N := 15) hx hb hts (iwX7_latch_7) hown hK.1 hP 0 rfl rfl 0 (by decide) (hts (.fieldLink RX7 47 "InverterGraphsModel" "thrown" "I") (by decide +kernel)) (fun _ h9 => h9) rfl dX7_latch_33 ?_
      refine lv_if_le (tgt := 41) hx hb dX7_latch_36 (by decide) (fun c_36 => ?_) (fun c_36 => ?_)
      · skip
        refine lv_aload_n hx hb dX7_latch_41 rfl (lv_at hl 0 rfl) ?_
        refine k_cWUv (D := D) (κ := κ) (qc := (RX7, TX7, 15)) (ci := 7) (q0 := 0) ⟨hx, hb, hml, hown, hts⟩ (c_X7_save l D κ _ q 0 kc cp cn ro kn lv be  (by omega) (by omega) (by omega)) (cwV 0 hts gX7_latch_X7_save rfl rfl rfl (by decide +kernel) ⟨Nat.le_of_ble_eq_true rfl, Nat.le_of_ble_eq_true rfl⟩) hK hP hD hS hA rfl rfl (As := []) (rest := []) rfl rfl hl.1 (Nat.le_of_ble_eq_true rfl) dX7_latch_42 ⟨Nat.le_of_ble_eq_true rfl, Nat.le_of_ble_eq_true rfl⟩ (fun u_42 H locs hw9 hP hD hS => ?_)
        have hu_42 := hw9
        have hq_42 : u_42.2 ≤ 30 := by rw [hu_42]; exact m_save_le _ _ (by omega)
        have hP : va_P D vwCl (wN κ q 0 kc u_42.1 u_42.2 ro 0 lv be) H := hP
        have hD : va_D A (wN κ q 0 kc u_42.1 u_42.2 ro 0 lv be) := hD
        refine lv_iconst (v := 2) hx hb dX7_latch_45 (by decide) ?_
        refine lv_aload_n hx hb dX7_latch_46 rfl (lv_at hl 0 rfl) ?_
        refine lv_iconst (v := 3) hx hb dX7_latch_47 (by decide) ?_
        refine lv_iconst (v := 0) hx hb dX7_latch_48 (by decide) ?_
        refine lv_iconst (v := 0) hx hb dX7_latch_49 (by decide) ?_
        refine k_cWUi (D := D) (κ := κ) (qc := (RX7, TX7, 15)) (ci := 7) (q0 := 0) ⟨hx, hb, hml, hown, hts⟩ (c_X7_newNode l D κ _ q 0 kc u_42.1 u_42.2 ro 0 lv be 3 0 0 (by omega) (by omega) (by omega) (by omega)) (cwV 3 hts gX7_latch_X7_newNode rfl rfl rfl (by decide +kernel) ⟨Nat.le_of_ble_eq_true rfl, Nat.le_of_ble_eq_true rfl⟩) hK hP hD hS hA rfl rfl (As := [.int 3, .int 0, .int 0]) (rest := [.int 2]) rfl rfl hl.1 (Nat.le_of_ble_eq_true rfl) dX7_latch_50 ⟨Nat.le_of_ble_eq_true rfl, Nat.le_of_ble_eq_true rfl⟩ (fun r _ H locs hr hP hD hS => ?_)
        have hP : va_P D vwCl (wN κ q 0 (m_new 3 0 0 kc) u_42.1 u_42.2 ro 0 lv be) H := hP
        have hD : va_D A (wN κ q 0 (m_new 3 0 0 kc) u_42.1 u_42.2 ro 0 lv be) := hD
        subst hr
        refine lv_imul hx hb dX7_latch_53 ?_
        refine lv_topi (nm_r (pk_mul 2 (mnd kc)) ?_)
        exact W.iret (v := nI (2 * (mnd kc))) hx hb hr (fun t ht hW => ⟨⟨nI (2 * (mnd kc)), (0, m_new 3 0 0 kc, u_42.1, u_42.2, 0), rfl, (by unfold m_latch; rw [if_pos c_2, if_neg c_21]; unfold m_sv; rw [← hu_42] <;> rfl), by rw [ht]; exact hP, hD⟩, hS.F ht⟩) hS.2.2 dX7_latch_54
      · skip
        exfalso; revert c_36; decide
    · skip
      have c_21 : (mnd kc) = 400 := (nI_eq (a := (mnd kc)) (b := 400) (by omega) (by omega)).mp c_21
      refine lv_iconst (v := 2) hx hb dX7_latch_24 (by decide) ?_
      refine lv_goto (tgt := 29) hx hb dX7_latch_25 (by decide) ?_
      refine va_put (D := D) (ci := 7) (v := .int 2) (ty := .int) (C := RX7) (T := TX7) (N := 15) hx hb hts (iwX7_latch_7) tyX7 tyX7_ok nmX7 hown hK.1 hP hD hS 0 rfl rfl 0 (by decide) (hts (.fieldLink RX7 47 "InverterGraphsModel" "thrown" "I") (by decide +kernel)) (fun _ h9 => h9) rfl (by decide +kernel) rfl rfl (Nat.le_of_ble_eq_true rfl) dX7_latch_29 (fun H locs hP hD hS => ?_)
      have hP : va_P D vwCl (wN κ q 2 kc cp cn ro kn lv be) H := hP
      have hD : va_D A (wN κ q 2 kc cp cn ro kn lv be) := hD
      refine lv_aload_n hx hb dX7_latch_32 rfl (lv_at hl 0 rfl) ?_
      refine va_get (D := D) (ci := 7) (v := .int 2) (C := RX7) (T := TX7) (N := 15) hx hb hts (iwX7_latch_7) hown hK.1 hP 0 rfl rfl 0 (by decide) (hts (.fieldLink RX7 47 "InverterGraphsModel" "thrown" "I") (by decide +kernel)) (fun _ h9 => h9) rfl dX7_latch_33 ?_
      refine lv_if_le (tgt := 41) hx hb dX7_latch_36 (by decide) (fun c_36 => ?_) (fun c_36 => ?_)
      · skip
        exfalso; revert c_36; decide
      · skip
        refine lv_iconst (v := 0) hx hb dX7_latch_39 (by decide) ?_
        exact W.iret (v := 0) hx hb hr (fun t ht hW => ⟨⟨0, (2, kc, cp, cn, kn), rfl, (by unfold m_latch; rw [if_pos c_2, if_pos c_21]), by rw [ht]; exact hP, hD⟩, hS.F ht⟩) hS.2.2 dX7_latch_40
  · skip
    refine lv_iload_n hx hb dX7_latch_5 rfl (lv_at hl 1 rfl) ?_
    refine lv_iconst (v := 1) hx hb dX7_latch_6 (by decide) ?_
    refine lv_icmp_eq (tgt := 14) hx hb dX7_latch_7 (by decide) (fun c_7 => ?_) (fun c_7 => ?_)
    · skip
      refine lv_aload_n hx hb dX7_latch_14 rfl (lv_at hl 0 rfl) ?_
      refine va_get (D := D) (ci := 7) (v := .int (nI (mnd kc))) (C := RX7) (T := TX7) (N := 15) hx hb hts (iwX7_latch_7) hown hK.1 hP 0 rfl rfl 5 (by decide) (hts (.fieldLink RX7 43 "InverterGraphsModel" "nodes" "I") (by decide +kernel)) (fun _ h9 => h9) rfl dX7_latch_15 ?_
      refine lv_sipush (v := 400) hx hb dX7_latch_18 (by decide) ?_
      refine lv_icmp_ne (tgt := 28) hx hb dX7_latch_21 (by decide) (fun c_21 => ?_) (fun c_21 => ?_)
      · skip
        have c_21 : ¬ ((mnd kc) = 400) := fun h9 => c_21 ((nI_eq (a := (mnd kc)) (b := 400) (by omega) (by omega)).mpr h9)
        refine lv_iconst (v := 0) hx hb dX7_latch_28 (by decide) ?_
        refine va_put (D := D) (ci := 7) (v := .int 0) (ty := .int) (C := RX7) (T := TX7) (N := 15) hx hb hts (iwX7_latch_7) tyX7 tyX7_ok nmX7 hown hK.1 hP hD hS 0 rfl rfl 0 (by decide) (hts (.fieldLink RX7 47 "InverterGraphsModel" "thrown" "I") (by decide +kernel)) (fun _ h9 => h9) rfl (by decide +kernel) rfl rfl (Nat.le_of_ble_eq_true rfl) dX7_latch_29 (fun H locs hP hD hS => ?_)
        have hP : va_P D vwCl (wN κ q 0 kc cp cn ro kn lv be) H := hP
        have hD : va_D A (wN κ q 0 kc cp cn ro kn lv be) := hD
        refine lv_aload_n hx hb dX7_latch_32 rfl (lv_at hl 0 rfl) ?_
        refine va_get (D := D) (ci := 7) (v := .int 0) (C := RX7) (T := TX7) (N := 15) hx hb hts (iwX7_latch_7) hown hK.1 hP 0 rfl rfl 0 (by decide) (hts (.fieldLink RX7 47 "InverterGraphsModel" "thrown" "I") (by decide +kernel)) (fun _ h9 => h9) rfl dX7_latch_33 ?_
        refine lv_if_le (tgt := 41) hx hb dX7_latch_36 (by decide) (fun c_36 => ?_) (fun c_36 => ?_)
        · skip
          refine lv_aload_n hx hb dX7_latch_41 rfl (lv_at hl 0 rfl) ?_
          refine k_cWUv (D := D) (κ := κ) (qc := (RX7, TX7, 15)) (ci := 7) (q0 := 0) ⟨hx, hb, hml, hown, hts⟩ (c_X7_save l D κ _ q 0 kc cp cn ro kn lv be  (by omega) (by omega) (by omega)) (cwV 0 hts gX7_latch_X7_save rfl rfl rfl (by decide +kernel) ⟨Nat.le_of_ble_eq_true rfl, Nat.le_of_ble_eq_true rfl⟩) hK hP hD hS hA rfl rfl (As := []) (rest := []) rfl rfl hl.1 (Nat.le_of_ble_eq_true rfl) dX7_latch_42 ⟨Nat.le_of_ble_eq_true rfl, Nat.le_of_ble_eq_true rfl⟩ (fun u_42 H locs hw9 hP hD hS => ?_)
          have hu_42 := hw9
          have hq_42 : u_42.2 ≤ 30 := by rw [hu_42]; exact m_save_le _ _ (by omega)
          have hP : va_P D vwCl (wN κ q 0 kc u_42.1 u_42.2 ro 0 lv be) H := hP
          have hD : va_D A (wN κ q 0 kc u_42.1 u_42.2 ro 0 lv be) := hD
          refine lv_iconst (v := 2) hx hb dX7_latch_45 (by decide) ?_
          refine lv_aload_n hx hb dX7_latch_46 rfl (lv_at hl 0 rfl) ?_
          refine lv_iconst (v := 3) hx hb dX7_latch_47 (by decide) ?_
          refine lv_iconst (v := 0) hx hb dX7_latch_48 (by decide) ?_
          refine lv_iconst (v := 0) hx hb dX7_latch_49 (by decide) ?_
          refine k_cWUi (D := D) (κ := κ) (qc := (RX7, TX7, 15)) (ci := 7) (q0 := 0) ⟨hx, hb, hml, hown, hts⟩ (c_X7_newNode l D κ _ q 0 kc u_42.1 u_42.2 ro 0 lv be 3 0 0 (by omega) (by omega) (by omega) (by omega)) (cwV 3 hts gX7_latch_X7_newNode rfl rfl rfl (by decide +kernel) ⟨Nat.le_of_ble_eq_true rfl, Nat.le_of_ble_eq_true rfl⟩) hK hP hD hS hA rfl rfl (As := [.int 3, .int 0, .int 0]) (rest := [.int 2]) rfl rfl hl.1 (Nat.le_of_ble_eq_true rfl) dX7_latch_50 ⟨Nat.le_of_ble_eq_true rfl, Nat.le_of_ble_eq_true rfl⟩ (fun r _ H locs hr hP hD hS => ?_)
          have hP : va_P D vwCl (wN κ q 0 (m_new 3 0 0 kc) u_42.1 u_42.2 ro 0 lv be) H := hP
          have hD : va_D A (wN κ q 0 (m_new 3 0 0 kc) u_42.1 u_42.2 ro 0 lv be) := hD
          subst hr
          refine lv_imul hx hb dX7_latch_53 ?_
          refine lv_topi (nm_r (pk_mul 2 (mnd kc)) ?_)
          exact W.iret (v := nI (2 * (mnd kc))) hx hb hr (fun t ht hW => ⟨⟨nI (2 * (mnd kc)), (0, m_new 3 0 0 kc, u_42.1, u_42.2, 0), rfl, (by unfold m_latch; rw [if_neg c_2, if_pos c_7, if_neg c_21]; unfold m_sv; rw [← hu_42] <;> rfl), by rw [ht]; exact hP, hD⟩, hS.F ht⟩) hS.2.2 dX7_latch_54
        · skip
          exfalso; revert c_36; decide
      · skip
        have c_21 : (mnd kc) = 400 := (nI_eq (a := (mnd kc)) (b := 400) (by omega) (by omega)).mp c_21
        refine lv_iconst (v := 2) hx hb dX7_latch_24 (by decide) ?_
        refine lv_goto (tgt := 29) hx hb dX7_latch_25 (by decide) ?_
        refine va_put (D := D) (ci := 7) (v := .int 2) (ty := .int) (C := RX7) (T := TX7) (N := 15) hx hb hts (iwX7_latch_7) tyX7 tyX7_ok nmX7 hown hK.1 hP hD hS 0 rfl rfl 0 (by decide) (hts (.fieldLink RX7 47 "InverterGraphsModel" "thrown" "I") (by decide +kernel)) (fun _ h9 => h9) rfl (by decide +kernel) rfl rfl (Nat.le_of_ble_eq_true rfl) dX7_latch_29 (fun H locs hP hD hS => ?_)
        have hP : va_P D vwCl (wN κ q 2 kc cp cn ro kn lv be) H := hP
        have hD : va_D A (wN κ q 2 kc cp cn ro kn lv be) := hD
        refine lv_aload_n hx hb dX7_latch_32 rfl (lv_at hl 0 rfl) ?_
        refine va_get (D := D) (ci := 7) (v := .int 2) (C := RX7) (T := TX7) (N := 15) hx hb hts (iwX7_latch_7) hown hK.1 hP 0 rfl rfl 0 (by decide) (hts (.fieldLink RX7 47 "InverterGraphsModel" "thrown" "I") (by decide +kernel)) (fun _ h9 => h9) rfl dX7_latch_33 ?_
        refine lv_if_le (tgt := 41) hx hb dX7_latch_36 (by decide) (fun c_36 => ?_) (fun c_36 => ?_)
        · skip
          exfalso; revert c_36; decide
        · skip
          refine lv_iconst (v := 0) hx hb dX7_latch_39 (by decide) ?_
          exact W.iret (v := 0) hx hb hr (fun t ht hW => ⟨⟨0, (2, kc, cp, cn, kn), rfl, (by unfold m_latch; rw [if_neg c_2, if_pos c_7, if_pos c_21]), by rw [ht]; exact hP, hD⟩, hS.F ht⟩) hS.2.2 dX7_latch_40
    · skip
      refine lv_iconst (v := 1) hx hb dX7_latch_10 (by decide) ?_
      refine lv_goto (tgt := 29) hx hb dX7_latch_11 (by decide) ?_
      refine va_put (D := D) (ci := 7) (v := .int 1) (ty := .int) (C := RX7) (T := TX7) (N := 15) hx hb hts (iwX7_latch_7) tyX7 tyX7_ok nmX7 hown hK.1 hP hD hS 0 rfl rfl 0 (by decide) (hts (.fieldLink RX7 47 "InverterGraphsModel" "thrown" "I") (by decide +kernel)) (fun _ h9 => h9) rfl (by decide +kernel) rfl rfl (Nat.le_of_ble_eq_true rfl) dX7_latch_29 (fun H locs hP hD hS => ?_)
      have hP : va_P D vwCl (wN κ q 1 kc cp cn ro kn lv be) H := hP
      have hD : va_D A (wN κ q 1 kc cp cn ro kn lv be) := hD
      refine lv_aload_n hx hb dX7_latch_32 rfl (lv_at hl 0 rfl) ?_
      refine va_get (D := D) (ci := 7) (v := .int 1) (C := RX7) (T := TX7) (N := 15) hx hb hts (iwX7_latch_7) hown hK.1 hP 0 rfl rfl 0 (by decide) (hts (.fieldLink RX7 47 "InverterGraphsModel" "thrown" "I") (by decide +kernel)) (fun _ h9 => h9) rfl dX7_latch_33 ?_
      refine lv_if_le (tgt := 41) hx hb dX7_latch_36 (by decide) (fun c_36 => ?_) (fun c_36 => ?_)
      · skip
        exfalso; revert c_36; decide
      · skip
        refine lv_iconst (v := 0) hx hb dX7_latch_39 (by decide) ?_
        exact W.iret (v := 0) hx hb hr (fun t ht hW => ⟨⟨0, (1, kc, cp, cn, kn), rfl, (by unfold m_latch; rw [if_neg c_2, if_neg c_7]), by rw [ht]; exact hP, hD⟩, hS.F ht⟩) hS.2.2 dX7_latch_40
theorem iwX7_next_7 : ∀ w ∈ wsX70, w ∈ wsX7_next := by decide +kernel
set_option maxHeartbeats 4000000 in
set_option maxRecDepth 100000 in
theorem c_X7_next (l : Launch) (D : va_G) (κ : Nat → ClassId) (sz : Nat) (q : Nat → Nat) (th : Int32) (kc : KC) (cp : Nat → Int32) (cn : Nat) (ro : Nat → Int64) (kn : Int32) (lv be : Nat → Int32) (p0 p1 : Int32) (hnd : mnd kc ≤ 400) (hoc : moc kc ≤ 40) (hcn : cn ≤ 30) (hla : ∀ j, j < mnd kc → mso kc j = 3 → mon kc j < 2 * mnd kc) : k_mui (S := KX) l yX7_next wsX7_next 2 42 0 0 D κ [.ref (q 0), .int p0, .int p1] (wN κ q th kc cp cn ro kn lv be) sz (fun r u => (r, u) = m_next kc cp cn kn p0 p1) (fun u => wN κ q u.1 u.2.1 u.2.2.1 u.2.2.2.1 ro u.2.2.2.2 lv be) := by
  refine Met.ofW (cc := cX7_next) (maxL := 4) (ret := (some .boolean)) (by decide) rfl ?_
  intro p e s m args below meth c s₁ B hml hv
  obtain ⟨rfl, hsz, hK, hP, hD0⟩ := hv
  have hx := B.exec
  have hb := B.bytes
  have hr := B.returns
  have hts := atoms_spec (ws := wsX7_next) B.pre
  have hown : s.vm.findClass RX7 = some m.cls := findClass_of_methodNamed B.named
  have hlocks := B.notSynchronized
  subst hsz
  have hD := hD0.self (sz := s.heap.size)
  generalize hAe : va_A (wN κ q th kc cp cn ro kn lv be) s.heap.size = A at hD ⊢
  have hA : ∀ q : Nat, s.heap.size ≤ q → A q := fun q h => by rw [← hAe]; exact Or.inr h
  have hS : va_S A s.heap s.heap [] := va_S.rf
  have hP : va_P D vwCl (wN κ q th kc cp cn ro kn lv be) s.heap := hP
  have hl := lv_entry ([.ref (q 0), .int p0, .int p1]) (n := 4) (Nat.le_of_ble_eq_true rfl)
  rw [lg_entry_eq]
  generalize (lg_sl ([.ref (q 0), .int p0, .int p1]) ++ List.replicate (4 - (lg_sl ([.ref (q 0), .int p0, .int p1])).length) Slot.unset).toArray = ls at hl ⊢
  have hl : lv_has ls 4 [(0, .ref (q 0)), (1, .int p0), (2, .int p1)] := hl
  refine lv_aload_n hx hb dX7_next_0 rfl (lv_at hl 0 rfl) ?_
  refine lv_iload_n hx hb dX7_next_1 rfl (lv_at hl 1 rfl) ?_
  refine k_cRO (D := D) (κ := κ) (qc := (RX7, TX7, 15)) (ci := 7) (q0 := 0) ⟨hx, hb, hml, hown, hts⟩ (c_X7_wrongLatch l D κ q th kc cp cn ro kn lv be p0 (by omega) (by omega) (by omega) ) (cwV 1 hts gX7_next_X7_wrongLatch rfl rfl rfl (by decide +kernel) ⟨Nat.le_of_ble_eq_true rfl, Nat.le_of_ble_eq_true rfl⟩) hK hP rfl rfl (As := [.int p0]) (rest := []) rfl rfl hl.1 (Nat.le_of_ble_eq_true rfl) dX7_next_2 ⟨Nat.le_of_ble_eq_true rfl, Nat.le_of_ble_eq_true rfl⟩ (fun r hr => ?_)
  subst hr
  refine lv_iconst (v := 1) hx hb dX7_next_5 (by decide) ?_
  refine lv_icmp_eq (tgt := 18) hx hb dX7_next_6 (by decide) (fun c_6 => ?_) (fun c_6 => ?_)
  · skip
    refine lv_iconst (v := 1) hx hb dX7_next_18 (by decide) ?_
    refine lv_goto (tgt := 23) hx hb dX7_next_19 (by decide) ?_
    refine lv_istore_n (lv' := [(3, .int 1), (0, .ref (q 0)), (1, .int p0), (2, .int p1)]) hx hb dX7_next_23 rfl hl (by decide) rfl (fun ls hl => ?_)
    refine lv_aload_n hx hb dX7_next_24 rfl (lv_at hl 1 rfl) ?_
    refine lv_iload_n hx hb dX7_next_25 rfl (lv_at hl 0 rfl) ?_
    refine lv_if_eq (tgt := 33) hx hb dX7_next_26 (by decide) (fun c_26 => ?_) (fun c_26 => ?_)
    · skip
      exfalso; revert c_26; decide
    · skip
      refine lv_iconst (v := 1) hx hb dX7_next_29 (by decide) ?_
      refine lv_goto (tgt := 54) hx hb dX7_next_30 (by decide) ?_
      refine va_put (D := D) (ci := 7) (v := .int 1) (ty := .int) (C := RX7) (T := TX7) (N := 15) hx hb hts (iwX7_next_7) tyX7 tyX7_ok nmX7 hown hK.1 hP hD hS 0 rfl rfl 0 (by decide) (hts (.fieldLink RX7 47 "InverterGraphsModel" "thrown" "I") (by decide +kernel)) (fun _ h9 => h9) rfl (by decide +kernel) rfl rfl (Nat.le_of_ble_eq_true rfl) dX7_next_54 (fun H locs hP hD hS => ?_)
      have hP : va_P D vwCl (wN κ q 1 kc cp cn ro kn lv be) H := hP
      have hD : va_D A (wN κ q 1 kc cp cn ro kn lv be) := hD
      refine lv_aload_n hx hb dX7_next_57 rfl (lv_at hl 1 rfl) ?_
      refine va_get (D := D) (ci := 7) (v := .int 1) (C := RX7) (T := TX7) (N := 15) hx hb hts (iwX7_next_7) hown hK.1 hP 0 rfl rfl 0 (by decide) (hts (.fieldLink RX7 47 "InverterGraphsModel" "thrown" "I") (by decide +kernel)) (fun _ h9 => h9) rfl dX7_next_58 ?_
      refine lv_if_gt (tgt := 76) hx hb dX7_next_61 (by decide) (fun c_61 => ?_) (fun c_61 => ?_)
      · skip
        refine lv_iconst (v := 0) hx hb dX7_next_76 (by decide) ?_
        exact W.zret (ty := .boolean) (v := 0) hx hb hr rfl (fun t ht hW => ⟨⟨0, (1, kc, cp, cn, kn), rfl, (by unfold m_next; rw [if_pos c_6]), by rw [ht]; exact hP, hD⟩, hS.F ht⟩) hS.2.2 dX7_next_77
      · skip
        exfalso; revert c_61; decide
  · skip
    refine lv_aload_n hx hb dX7_next_9 rfl (lv_at hl 0 rfl) ?_
    refine lv_iload_n hx hb dX7_next_10 rfl (lv_at hl 2 rfl) ?_
    refine k_cRO (D := D) (κ := κ) (qc := (RX7, TX7, 15)) (ci := 7) (q0 := 0) ⟨hx, hb, hml, hown, hts⟩ (c_X7_wrong l D κ q th kc cp cn ro kn lv be p1 (by omega) (by omega) (by omega) ) (cwV 1 hts gX7_next_X7_wrong rfl rfl rfl (by decide +kernel) ⟨Nat.le_of_ble_eq_true rfl, Nat.le_of_ble_eq_true rfl⟩) hK hP rfl rfl (As := [.int p1]) (rest := []) rfl rfl hl.1 (Nat.le_of_ble_eq_true rfl) dX7_next_11 ⟨Nat.le_of_ble_eq_true rfl, Nat.le_of_ble_eq_true rfl⟩ (fun r hr => ?_)
    subst hr
    refine lv_iconst (v := 1) hx hb dX7_next_14 (by decide) ?_
    refine lv_icmp_ne (tgt := 22) hx hb dX7_next_15 (by decide) (fun c_15 => ?_) (fun c_15 => ?_)
    · skip
      refine lv_iconst (v := 0) hx hb dX7_next_22 (by decide) ?_
      refine lv_istore_n (lv' := [(3, .int 0), (0, .ref (q 0)), (1, .int p0), (2, .int p1)]) hx hb dX7_next_23 rfl hl (by decide) rfl (fun ls hl => ?_)
      refine lv_aload_n hx hb dX7_next_24 rfl (lv_at hl 1 rfl) ?_
      refine lv_iload_n hx hb dX7_next_25 rfl (lv_at hl 0 rfl) ?_
      refine lv_if_eq (tgt := 33) hx hb dX7_next_26 (by decide) (fun c_26 => ?_) (fun c_26 => ?_)
      · skip
        refine lv_aload_n hx hb dX7_next_33 rfl (lv_at hl 1 rfl) ?_
        refine lv_iload_n hx hb dX7_next_34 rfl (lv_at hl 2 rfl) ?_
        refine k_cRO (D := D) (κ := κ) (qc := (RX7, TX7, 15)) (ci := 7) (q0 := 0) ⟨hx, hb, hml, hown, hts⟩ (c_X7_wrongLatch l D κ q th kc cp cn ro kn lv be p0 (by omega) (by omega) (by omega) ) (cwV 1 hts gX7_next_X7_wrongLatch rfl rfl rfl (by decide +kernel) ⟨Nat.le_of_ble_eq_true rfl, Nat.le_of_ble_eq_true rfl⟩) hK hP rfl rfl (As := [.int p0]) (rest := [.ref (q 0)]) rfl rfl hl.1 (Nat.le_of_ble_eq_true rfl) dX7_next_35 ⟨Nat.le_of_ble_eq_true rfl, Nat.le_of_ble_eq_true rfl⟩ (fun r hr => ?_)
        subst hr
        refine lv_if_gt (tgt := 49) hx hb dX7_next_38 (by decide) (fun c_38 => ?_) (fun c_38 => ?_)
        · skip
          refine lv_iconst (v := 2) hx hb dX7_next_49 (by decide) ?_
          refine lv_goto (tgt := 54) hx hb dX7_next_50 (by decide) ?_
          refine va_put (D := D) (ci := 7) (v := .int 2) (ty := .int) (C := RX7) (T := TX7) (N := 15) hx hb hts (iwX7_next_7) tyX7 tyX7_ok nmX7 hown hK.1 hP hD hS 0 rfl rfl 0 (by decide) (hts (.fieldLink RX7 47 "InverterGraphsModel" "thrown" "I") (by decide +kernel)) (fun _ h9 => h9) rfl (by decide +kernel) rfl rfl (Nat.le_of_ble_eq_true rfl) dX7_next_54 (fun H locs hP hD hS => ?_)
          have hP : va_P D vwCl (wN κ q 2 kc cp cn ro kn lv be) H := hP
          have hD : va_D A (wN κ q 2 kc cp cn ro kn lv be) := hD
          refine lv_aload_n hx hb dX7_next_57 rfl (lv_at hl 1 rfl) ?_
          refine va_get (D := D) (ci := 7) (v := .int 2) (C := RX7) (T := TX7) (N := 15) hx hb hts (iwX7_next_7) hown hK.1 hP 0 rfl rfl 0 (by decide) (hts (.fieldLink RX7 47 "InverterGraphsModel" "thrown" "I") (by decide +kernel)) (fun _ h9 => h9) rfl dX7_next_58 ?_
          refine lv_if_gt (tgt := 76) hx hb dX7_next_61 (by decide) (fun c_61 => ?_) (fun c_61 => ?_)
          · skip
            refine lv_iconst (v := 0) hx hb dX7_next_76 (by decide) ?_
            exact W.zret (ty := .boolean) (v := 0) hx hb hr rfl (fun t ht hW => ⟨⟨0, (2, kc, cp, cn, kn), rfl, (by unfold m_next; rw [if_neg c_6, if_neg c_15, if_pos c_38]), by rw [ht]; exact hP, hD⟩, hS.F ht⟩) hS.2.2 dX7_next_77
          · skip
            exfalso; revert c_61; decide
        · skip
          refine lv_aload_n hx hb dX7_next_41 rfl (lv_at hl 1 rfl) ?_
          refine lv_iload_n hx hb dX7_next_42 rfl (lv_at hl 3 rfl) ?_
          refine k_cRO (D := D) (κ := κ) (qc := (RX7, TX7, 15)) (ci := 7) (q0 := 0) ⟨hx, hb, hml, hown, hts⟩ (c_X7_wrong l D κ q th kc cp cn ro kn lv be p1 (by omega) (by omega) (by omega) ) (cwV 1 hts gX7_next_X7_wrong rfl rfl rfl (by decide +kernel) ⟨Nat.le_of_ble_eq_true rfl, Nat.le_of_ble_eq_true rfl⟩) hK hP rfl rfl (As := [.int p1]) (rest := [.ref (q 0)]) rfl rfl hl.1 (Nat.le_of_ble_eq_true rfl) dX7_next_43 ⟨Nat.le_of_ble_eq_true rfl, Nat.le_of_ble_eq_true rfl⟩ (fun r hr => ?_)
          subst hr
          refine lv_if_le (tgt := 53) hx hb dX7_next_46 (by decide) (fun c_46 => ?_) (fun c_46 => ?_)
          · skip
            refine lv_iconst (v := 0) hx hb dX7_next_53 (by decide) ?_
            refine va_put (D := D) (ci := 7) (v := .int 0) (ty := .int) (C := RX7) (T := TX7) (N := 15) hx hb hts (iwX7_next_7) tyX7 tyX7_ok nmX7 hown hK.1 hP hD hS 0 rfl rfl 0 (by decide) (hts (.fieldLink RX7 47 "InverterGraphsModel" "thrown" "I") (by decide +kernel)) (fun _ h9 => h9) rfl (by decide +kernel) rfl rfl (Nat.le_of_ble_eq_true rfl) dX7_next_54 (fun H locs hP hD hS => ?_)
            have hP : va_P D vwCl (wN κ q 0 kc cp cn ro kn lv be) H := hP
            have hD : va_D A (wN κ q 0 kc cp cn ro kn lv be) := hD
            refine lv_aload_n hx hb dX7_next_57 rfl (lv_at hl 1 rfl) ?_
            refine va_get (D := D) (ci := 7) (v := .int 0) (C := RX7) (T := TX7) (N := 15) hx hb hts (iwX7_next_7) hown hK.1 hP 0 rfl rfl 0 (by decide) (hts (.fieldLink RX7 47 "InverterGraphsModel" "thrown" "I") (by decide +kernel)) (fun _ h9 => h9) rfl dX7_next_58 ?_
            refine lv_if_gt (tgt := 76) hx hb dX7_next_61 (by decide) (fun c_61 => ?_) (fun c_61 => ?_)
            · skip
              exfalso; revert c_61; decide
            · skip
              obtain ⟨a, hva, rfl, hso9⟩ := m_wl_ok hnd c_6 (Int32.not_lt.mp c_38)
              obtain ⟨b, hvb, rfl, -⟩ := m_wrong_ok hnd (m_le1 c_46) c_46
              have hx9 := hla (a / 2) (by omega) hso9
              refine lv_aload_n hx hb dX7_next_64 rfl (lv_at hl 1 rfl) ?_
              refine va_get (D := D) (ci := 7) (v := .ref (q 2)) (C := RX7) (T := TX7) (N := 15) hx hb hts (iwX7_next_7) hown hK.1 hP 0 rfl rfl 2 (by decide) (hts (.fieldLink RX7 13 "InverterGraphsModel" "ones" "[I") (by decide +kernel)) (fun _ h9 => h9) rfl dX7_next_65 ?_
              refine lv_iload_n hx hb dX7_next_68 rfl (lv_at hl 2 rfl) ?_
              refine lv_iconst (v := 2) hx hb dX7_next_69 (by decide) ?_
              refine lv_idiv hx hb dX7_next_70 (by decide) ?_
              refine lv_topi (nm_r (pk_div (a := a) (d := 2) (by omega) (by omega) (by omega)) ?_)
              refine k_iald (D := D) (j := a / 2) hx hb hK.1 hP 2 0 rfl rfl (by omega) (by omega) dX7_next_71 ?_
              refine lv_iload_n hx hb dX7_next_72 rfl (lv_at hl 3 rfl) ?_
              refine lv_icmp_ne (tgt := 78) hx hb dX7_next_73 (by decide) (fun c_73 => ?_) (fun c_73 => ?_)
              · skip
                have c_73 : ¬ (((mon kc) (a / 2)) = b) := fun h9 => c_73 ((nI_eq (a := ((mon kc) (a / 2))) (b := b) (by omega) (by omega)).mpr h9)
                refine lv_aload_n hx hb dX7_next_78 rfl (lv_at hl 1 rfl) ?_
                refine k_cWUv (D := D) (κ := κ) (qc := (RX7, TX7, 15)) (ci := 7) (q0 := 0) ⟨hx, hb, hml, hown, hts⟩ (c_X7_save l D κ _ q 0 kc cp cn ro kn lv be  (by omega) (by omega) (by omega)) (cwV 0 hts gX7_next_X7_save rfl rfl rfl (by decide +kernel) ⟨Nat.le_of_ble_eq_true rfl, Nat.le_of_ble_eq_true rfl⟩) hK hP hD hS hA rfl rfl (As := []) (rest := []) rfl rfl hl.1 (Nat.le_of_ble_eq_true rfl) dX7_next_79 ⟨Nat.le_of_ble_eq_true rfl, Nat.le_of_ble_eq_true rfl⟩ (fun u_79 H locs hw9 hP hD hS => ?_)
                have hu_79 := hw9
                have hq_79 : u_79.2 ≤ 30 := by rw [hu_79]; exact m_save_le _ _ (by omega)
                have hP : va_P D vwCl (wN κ q 0 kc u_79.1 u_79.2 ro 0 lv be) H := hP
                have hD : va_D A (wN κ q 0 kc u_79.1 u_79.2 ro 0 lv be) := hD
                refine lv_aload_n hx hb dX7_next_82 rfl (lv_at hl 1 rfl) ?_
                refine va_get (D := D) (ci := 7) (v := .ref (q 2)) (C := RX7) (T := TX7) (N := 15) hx hb hts (iwX7_next_7) hown hK.1 hP 0 rfl rfl 2 (by decide) (hts (.fieldLink RX7 13 "InverterGraphsModel" "ones" "[I") (by decide +kernel)) (fun _ h9 => h9) rfl dX7_next_83 ?_
                refine lv_iload_n hx hb dX7_next_86 rfl (lv_at hl 2 rfl) ?_
                refine lv_iconst (v := 2) hx hb dX7_next_87 (by decide) ?_
                refine lv_idiv hx hb dX7_next_88 (by decide) ?_
                refine lv_topi (nm_r (pk_div (a := a) (d := 2) (by omega) (by omega) (by omega)) ?_)
                refine lv_iload_n hx hb dX7_next_89 rfl (lv_at hl 3 rfl) ?_
                refine k_iastN (D := D) (j := a / 2) (x := b) hx hb hK.1 hP hD hS 2 0 rfl rfl (by omega) (by omega) dX7_next_90 (fun H locs hP hD hS => ?_)
                have hP : va_P D vwCl (wN κ q 0 (mso kc, k_un (mon kc) (a / 2) b, mtw kc, mst kc, mnd kc, mou kc, mbo kc, moc kc) u_79.1 u_79.2 ro 0 lv be) H := hP
                have hD : va_D A (wN κ q 0 (mso kc, k_un (mon kc) (a / 2) b, mtw kc, mst kc, mnd kc, mou kc, mbo kc, moc kc) u_79.1 u_79.2 ro 0 lv be) := hD
                refine lv_iconst (v := 1) hx hb dX7_next_91 (by decide) ?_
                exact W.zret (ty := .boolean) (v := 1) hx hb hr rfl (fun t ht hW => ⟨⟨1, (0, (mso kc, k_un (mon kc) (a / 2) b, mtw kc, mst kc, mnd kc, mou kc, mbo kc, moc kc), u_79.1, u_79.2, 0), rfl, (by unfold m_next; rw [nI_clamp (show a < 2 ^ 31 by omega), nI_clamp (show b < 2 ^ 31 by omega), if_neg c_6, if_neg c_15, if_neg c_38, if_pos c_46, if_neg c_73]; unfold m_sv; rw [← hu_79] <;> rfl), by rw [ht]; exact hP, hD⟩, hS.F ht⟩) hS.2.2 dX7_next_92
              · skip
                have c_73 : ((mon kc) (a / 2)) = b := (nI_eq (a := ((mon kc) (a / 2))) (b := b) (by omega) (by omega)).mp c_73
                refine lv_iconst (v := 0) hx hb dX7_next_76 (by decide) ?_
                exact W.zret (ty := .boolean) (v := 0) hx hb hr rfl (fun t ht hW => ⟨⟨0, (0, kc, cp, cn, kn), rfl, (by unfold m_next; rw [nI_clamp (show a < 2 ^ 31 by omega), nI_clamp (show b < 2 ^ 31 by omega), if_neg c_6, if_neg c_15, if_neg c_38, if_pos c_46, if_pos c_73]), by rw [ht]; exact hP, hD⟩, hS.F ht⟩) hS.2.2 dX7_next_77
          · skip
            refine lv_iconst (v := 2) hx hb dX7_next_49 (by decide) ?_
            refine lv_goto (tgt := 54) hx hb dX7_next_50 (by decide) ?_
            refine va_put (D := D) (ci := 7) (v := .int 2) (ty := .int) (C := RX7) (T := TX7) (N := 15) hx hb hts (iwX7_next_7) tyX7 tyX7_ok nmX7 hown hK.1 hP hD hS 0 rfl rfl 0 (by decide) (hts (.fieldLink RX7 47 "InverterGraphsModel" "thrown" "I") (by decide +kernel)) (fun _ h9 => h9) rfl (by decide +kernel) rfl rfl (Nat.le_of_ble_eq_true rfl) dX7_next_54 (fun H locs hP hD hS => ?_)
            have hP : va_P D vwCl (wN κ q 2 kc cp cn ro kn lv be) H := hP
            have hD : va_D A (wN κ q 2 kc cp cn ro kn lv be) := hD
            refine lv_aload_n hx hb dX7_next_57 rfl (lv_at hl 1 rfl) ?_
            refine va_get (D := D) (ci := 7) (v := .int 2) (C := RX7) (T := TX7) (N := 15) hx hb hts (iwX7_next_7) hown hK.1 hP 0 rfl rfl 0 (by decide) (hts (.fieldLink RX7 47 "InverterGraphsModel" "thrown" "I") (by decide +kernel)) (fun _ h9 => h9) rfl dX7_next_58 ?_
            refine lv_if_gt (tgt := 76) hx hb dX7_next_61 (by decide) (fun c_61 => ?_) (fun c_61 => ?_)
            · skip
              refine lv_iconst (v := 0) hx hb dX7_next_76 (by decide) ?_
              exact W.zret (ty := .boolean) (v := 0) hx hb hr rfl (fun t ht hW => ⟨⟨0, (2, kc, cp, cn, kn), rfl, (by unfold m_next; rw [if_neg c_6, if_neg c_15, if_neg c_38, if_neg c_46]), by rw [ht]; exact hP, hD⟩, hS.F ht⟩) hS.2.2 dX7_next_77
            · skip
              exfalso; revert c_61; decide
      · skip
        exfalso; revert c_26; decide
    · skip
      refine lv_iconst (v := 1) hx hb dX7_next_18 (by decide) ?_
      refine lv_goto (tgt := 23) hx hb dX7_next_19 (by decide) ?_
      refine lv_istore_n (lv' := [(3, .int 1), (0, .ref (q 0)), (1, .int p0), (2, .int p1)]) hx hb dX7_next_23 rfl hl (by decide) rfl (fun ls hl => ?_)
      refine lv_aload_n hx hb dX7_next_24 rfl (lv_at hl 1 rfl) ?_
      refine lv_iload_n hx hb dX7_next_25 rfl (lv_at hl 0 rfl) ?_
      refine lv_if_eq (tgt := 33) hx hb dX7_next_26 (by decide) (fun c_26 => ?_) (fun c_26 => ?_)
      · skip
        exfalso; revert c_26; decide
      · skip
        refine lv_iconst (v := 1) hx hb dX7_next_29 (by decide) ?_
        refine lv_goto (tgt := 54) hx hb dX7_next_30 (by decide) ?_
        refine va_put (D := D) (ci := 7) (v := .int 1) (ty := .int) (C := RX7) (T := TX7) (N := 15) hx hb hts (iwX7_next_7) tyX7 tyX7_ok nmX7 hown hK.1 hP hD hS 0 rfl rfl 0 (by decide) (hts (.fieldLink RX7 47 "InverterGraphsModel" "thrown" "I") (by decide +kernel)) (fun _ h9 => h9) rfl (by decide +kernel) rfl rfl (Nat.le_of_ble_eq_true rfl) dX7_next_54 (fun H locs hP hD hS => ?_)
        have hP : va_P D vwCl (wN κ q 1 kc cp cn ro kn lv be) H := hP
        have hD : va_D A (wN κ q 1 kc cp cn ro kn lv be) := hD
        refine lv_aload_n hx hb dX7_next_57 rfl (lv_at hl 1 rfl) ?_
        refine va_get (D := D) (ci := 7) (v := .int 1) (C := RX7) (T := TX7) (N := 15) hx hb hts (iwX7_next_7) hown hK.1 hP 0 rfl rfl 0 (by decide) (hts (.fieldLink RX7 47 "InverterGraphsModel" "thrown" "I") (by decide +kernel)) (fun _ h9 => h9) rfl dX7_next_58 ?_
        refine lv_if_gt (tgt := 76) hx hb dX7_next_61 (by decide) (fun c_61 => ?_) (fun c_61 => ?_)
        · skip
          refine lv_iconst (v := 0) hx hb dX7_next_76 (by decide) ?_
          exact W.zret (ty := .boolean) (v := 0) hx hb hr rfl (fun t ht hW => ⟨⟨0, (1, kc, cp, cn, kn), rfl, (by unfold m_next; rw [if_neg c_6, if_pos c_15]), by rw [ht]; exact hP, hD⟩, hS.F ht⟩) hS.2.2 dX7_next_77
        · skip
          exfalso; revert c_61; decide
theorem iwX7_nextOf_7 : ∀ w ∈ wsX70, w ∈ wsX7_nextOf := by decide +kernel
set_option maxHeartbeats 4000000 in
set_option maxRecDepth 100000 in
theorem c_X7_nextOf (l : Launch) (D : va_G) (κ : Nat → ClassId) (sz : Nat) (q : Nat → Nat) (th : Int32) (kc : KC) (cp : Nat → Int32) (cn : Nat) (ro : Nat → Int64) (kn : Int32) (lv be : Nat → Int32) (p0 : Int32) (hnd : mnd kc ≤ 400) (hoc : moc kc ≤ 40) (hcn : cn ≤ 30) (hla : ∀ j, j < mnd kc → mso kc j = 3 → mon kc j < 2 * mnd kc) : k_mui (S := Int32) l yX7_nextOf wsX7_nextOf 2 42 0 0 D κ [.ref (q 0), .int p0] (wN κ q th kc cp cn ro kn lv be) sz (fun r u => (r, u) = m_nextOf kc p0) (fun u => wN κ q u kc cp cn ro kn lv be) := by
  refine Met.ofW (cc := cX7_nextOf) (maxL := 2) (ret := (some .int)) (by decide) rfl ?_
  intro p e s m args below meth c s₁ B hml hv
  obtain ⟨rfl, hsz, hK, hP, hD0⟩ := hv
  have hx := B.exec
  have hb := B.bytes
  have hr := B.returns
  have hts := atoms_spec (ws := wsX7_nextOf) B.pre
  have hown : s.vm.findClass RX7 = some m.cls := findClass_of_methodNamed B.named
  have hlocks := B.notSynchronized
  subst hsz
  have hD := hD0.self (sz := s.heap.size)
  generalize hAe : va_A (wN κ q th kc cp cn ro kn lv be) s.heap.size = A at hD ⊢
  have hA : ∀ q : Nat, s.heap.size ≤ q → A q := fun q h => by rw [← hAe]; exact Or.inr h
  have hS : va_S A s.heap s.heap [] := va_S.rf
  have hP : va_P D vwCl (wN κ q th kc cp cn ro kn lv be) s.heap := hP
  have hl := lv_entry ([.ref (q 0), .int p0]) (n := 2) (Nat.le_of_ble_eq_true rfl)
  rw [lg_entry_eq]
  generalize (lg_sl ([.ref (q 0), .int p0]) ++ List.replicate (2 - (lg_sl ([.ref (q 0), .int p0])).length) Slot.unset).toArray = ls at hl ⊢
  have hl : lv_has ls 2 [(0, .ref (q 0)), (1, .int p0)] := hl
  refine lv_aload_n hx hb dX7_nextOf_0 rfl (lv_at hl 0 rfl) ?_
  refine lv_aload_n hx hb dX7_nextOf_1 rfl (lv_at hl 0 rfl) ?_
  refine lv_iload_n hx hb dX7_nextOf_2 rfl (lv_at hl 1 rfl) ?_
  refine k_cRO (D := D) (κ := κ) (qc := (RX7, TX7, 15)) (ci := 7) (q0 := 0) ⟨hx, hb, hml, hown, hts⟩ (c_X7_wrongLatch l D κ q th kc cp cn ro kn lv be p0 (by omega) (by omega) (by omega) ) (cwV 1 hts gX7_nextOf_X7_wrongLatch rfl rfl rfl (by decide +kernel) ⟨Nat.le_of_ble_eq_true rfl, Nat.le_of_ble_eq_true rfl⟩) hK hP rfl rfl (As := [.int p0]) (rest := [.ref (q 0)]) rfl rfl hl.1 (Nat.le_of_ble_eq_true rfl) dX7_nextOf_3 ⟨Nat.le_of_ble_eq_true rfl, Nat.le_of_ble_eq_true rfl⟩ (fun r hr => ?_)
  subst hr
  refine va_put (D := D) (ci := 7) (v := .int (m_wl kc p0)) (ty := .int) (C := RX7) (T := TX7) (N := 15) hx hb hts (iwX7_nextOf_7) tyX7 tyX7_ok nmX7 hown hK.1 hP hD hS 0 rfl rfl 0 (by decide) (hts (.fieldLink RX7 47 "InverterGraphsModel" "thrown" "I") (by decide +kernel)) (fun _ h9 => h9) rfl (by decide +kernel) rfl rfl (Nat.le_of_ble_eq_true rfl) dX7_nextOf_6 (fun H locs hP hD hS => ?_)
  have hP : va_P D vwCl (wN κ q (m_wl kc p0) kc cp cn ro kn lv be) H := hP
  have hD : va_D A (wN κ q (m_wl kc p0) kc cp cn ro kn lv be) := hD
  refine lv_aload_n hx hb dX7_nextOf_9 rfl (lv_at hl 0 rfl) ?_
  refine va_get (D := D) (ci := 7) (v := .int (m_wl kc p0)) (C := RX7) (T := TX7) (N := 15) hx hb hts (iwX7_nextOf_7) hown hK.1 hP 0 rfl rfl 0 (by decide) (hts (.fieldLink RX7 47 "InverterGraphsModel" "thrown" "I") (by decide +kernel)) (fun _ h9 => h9) rfl dX7_nextOf_10 ?_
  refine lv_if_le (tgt := 20) hx hb dX7_nextOf_13 (by decide) (fun c_13 => ?_) (fun c_13 => ?_)
  · skip
    obtain ⟨a, hva, rfl, hso9⟩ := m_wl_ok hnd (m_le1 c_13) c_13
    have hx9 := hla (a / 2) (by omega) hso9
    refine lv_aload_n hx hb dX7_nextOf_20 rfl (lv_at hl 0 rfl) ?_
    refine va_get (D := D) (ci := 7) (v := .ref (q 2)) (C := RX7) (T := TX7) (N := 15) hx hb hts (iwX7_nextOf_7) hown hK.1 hP 0 rfl rfl 2 (by decide) (hts (.fieldLink RX7 13 "InverterGraphsModel" "ones" "[I") (by decide +kernel)) (fun _ h9 => h9) rfl dX7_nextOf_21 ?_
    refine lv_iload_n hx hb dX7_nextOf_24 rfl (lv_at hl 1 rfl) ?_
    refine lv_iconst (v := 2) hx hb dX7_nextOf_25 (by decide) ?_
    refine lv_idiv hx hb dX7_nextOf_26 (by decide) ?_
    refine lv_topi (nm_r (pk_div (a := a) (d := 2) (by omega) (by omega) (by omega)) ?_)
    refine k_iald (D := D) (j := a / 2) hx hb hK.1 hP 2 0 rfl rfl (by omega) (by omega) dX7_nextOf_27 ?_
    exact W.iret (v := nI ((mon kc) (a / 2))) hx hb hr (fun t ht hW => ⟨⟨nI ((mon kc) (a / 2)), m_wl kc (nI a), rfl, (by unfold m_nextOf; rw [nI_clamp (show a < 2 ^ 31 by omega), if_pos c_13]), by rw [ht]; exact hP, hD⟩, hS.F ht⟩) hS.2.2 dX7_nextOf_28
  · skip
    refine lv_iconst (v := 0) hx hb dX7_nextOf_16 (by decide) ?_
    refine lv_goto (tgt := 28) hx hb dX7_nextOf_17 (by decide) ?_
    exact W.iret (v := 0) hx hb hr (fun t ht hW => ⟨⟨0, m_wl kc p0, rfl, (by unfold m_nextOf; rw [if_neg c_13]), by rw [ht]; exact hP, hD⟩, hS.F ht⟩) hS.2.2 dX7_nextOf_28
theorem iwX7_outputAt_7 : ∀ w ∈ wsX70, w ∈ wsX7_outputAt := by decide +kernel
set_option maxHeartbeats 4000000 in
set_option maxRecDepth 100000 in
theorem c_X7_outputAt (l : Launch) (D : va_G) (κ : Nat → ClassId) (sz : Nat) (q : Nat → Nat) (th : Int32) (kc : KC) (cp : Nat → Int32) (cn : Nat) (ro : Nat → Int64) (kn : Int32) (lv be : Nat → Int32) (p0 : Int32) (hnd : mnd kc ≤ 400) (hoc : moc kc ≤ 40) (hcn : cn ≤ 30) : k_mui (S := Int32) l yX7_outputAt wsX7_outputAt 0 0 0 0 D κ [.ref (q 0), .int p0] (wN κ q th kc cp cn ro kn lv be) sz (fun r u => (r, u) = m_outputAt kc p0) (fun u => wN κ q u kc cp cn ro kn lv be) := by
  refine Met.ofW (cc := cX7_outputAt) (maxL := 2) (ret := (some .int)) (by decide) rfl ?_
  intro p e s m args below meth c s₁ B hml hv
  obtain ⟨rfl, hsz, hK, hP, hD0⟩ := hv
  have hx := B.exec
  have hb := B.bytes
  have hr := B.returns
  have hts := atoms_spec (ws := wsX7_outputAt) B.pre
  have hown : s.vm.findClass RX7 = some m.cls := findClass_of_methodNamed B.named
  have hlocks := B.notSynchronized
  subst hsz
  have hD := hD0.self (sz := s.heap.size)
  generalize hAe : va_A (wN κ q th kc cp cn ro kn lv be) s.heap.size = A at hD ⊢
  have hA : ∀ q : Nat, s.heap.size ≤ q → A q := fun q h => by rw [← hAe]; exact Or.inr h
  have hS : va_S A s.heap s.heap [] := va_S.rf
  have hP : va_P D vwCl (wN κ q th kc cp cn ro kn lv be) s.heap := hP
  have hl := lv_entry ([.ref (q 0), .int p0]) (n := 2) (Nat.le_of_ble_eq_true rfl)
  rw [lg_entry_eq]
  generalize (lg_sl ([.ref (q 0), .int p0]) ++ List.replicate (2 - (lg_sl ([.ref (q 0), .int p0])).length) Slot.unset).toArray = ls at hl ⊢
  have hl : lv_has ls 2 [(0, .ref (q 0)), (1, .int p0)] := hl
  refine lv_aload_n hx hb dX7_outputAt_0 rfl (lv_at hl 0 rfl) ?_
  refine lv_iload_n hx hb dX7_outputAt_1 rfl (lv_at hl 1 rfl) ?_
  refine lv_if_lt (tgt := 17) hx hb dX7_outputAt_2 (by decide) (fun c_2 => ?_) (fun c_2 => ?_)
  · skip
    refine lv_iconst (v := 1) hx hb dX7_outputAt_17 (by decide) ?_
    refine va_put (D := D) (ci := 7) (v := .int 1) (ty := .int) (C := RX7) (T := TX7) (N := 15) hx hb hts (iwX7_outputAt_7) tyX7 tyX7_ok nmX7 hown hK.1 hP hD hS 0 rfl rfl 0 (by decide) (hts (.fieldLink RX7 47 "InverterGraphsModel" "thrown" "I") (by decide +kernel)) (fun _ h9 => h9) rfl (by decide +kernel) rfl rfl (Nat.le_of_ble_eq_true rfl) dX7_outputAt_18 (fun H locs hP hD hS => ?_)
    have hP : va_P D vwCl (wN κ q 1 kc cp cn ro kn lv be) H := hP
    have hD : va_D A (wN κ q 1 kc cp cn ro kn lv be) := hD
    refine lv_aload_n hx hb dX7_outputAt_21 rfl (lv_at hl 0 rfl) ?_
    refine va_get (D := D) (ci := 7) (v := .int 1) (C := RX7) (T := TX7) (N := 15) hx hb hts (iwX7_outputAt_7) hown hK.1 hP 0 rfl rfl 0 (by decide) (hts (.fieldLink RX7 47 "InverterGraphsModel" "thrown" "I") (by decide +kernel)) (fun _ h9 => h9) rfl dX7_outputAt_22 ?_
    refine lv_if_le (tgt := 32) hx hb dX7_outputAt_25 (by decide) (fun c_25 => ?_) (fun c_25 => ?_)
    · skip
      exfalso; revert c_25; decide
    · skip
      refine lv_iconst (v := 0) hx hb dX7_outputAt_28 (by decide) ?_
      refine lv_goto (tgt := 51) hx hb dX7_outputAt_29 (by decide) ?_
      exact W.iret (v := 0) hx hb hr (fun t ht hW => ⟨⟨0, 1, rfl, (by unfold m_outputAt; rw [if_pos c_2]), by rw [ht]; exact hP, hD⟩, hS.F ht⟩) hS.2.2 dX7_outputAt_51
  · skip
    refine lv_iload_n hx hb dX7_outputAt_5 rfl (lv_at hl 1 rfl) ?_
    refine lv_aload_n hx hb dX7_outputAt_6 rfl (lv_at hl 0 rfl) ?_
    refine va_get (D := D) (ci := 7) (v := .int (nI (moc kc))) (C := RX7) (T := TX7) (N := 15) hx hb hts (iwX7_outputAt_7) hown hK.1 hP 0 rfl rfl 8 (by decide) (hts (.fieldLink RX7 54 "InverterGraphsModel" "outputCount" "I") (by decide +kernel)) (fun _ h9 => h9) rfl dX7_outputAt_7 ?_
    refine lv_icmp_ge (tgt := 17) hx hb dX7_outputAt_10 (by decide) (fun c_10 => ?_) (fun c_10 => ?_)
    · skip
      refine lv_iconst (v := 1) hx hb dX7_outputAt_17 (by decide) ?_
      refine va_put (D := D) (ci := 7) (v := .int 1) (ty := .int) (C := RX7) (T := TX7) (N := 15) hx hb hts (iwX7_outputAt_7) tyX7 tyX7_ok nmX7 hown hK.1 hP hD hS 0 rfl rfl 0 (by decide) (hts (.fieldLink RX7 47 "InverterGraphsModel" "thrown" "I") (by decide +kernel)) (fun _ h9 => h9) rfl (by decide +kernel) rfl rfl (Nat.le_of_ble_eq_true rfl) dX7_outputAt_18 (fun H locs hP hD hS => ?_)
      have hP : va_P D vwCl (wN κ q 1 kc cp cn ro kn lv be) H := hP
      have hD : va_D A (wN κ q 1 kc cp cn ro kn lv be) := hD
      refine lv_aload_n hx hb dX7_outputAt_21 rfl (lv_at hl 0 rfl) ?_
      refine va_get (D := D) (ci := 7) (v := .int 1) (C := RX7) (T := TX7) (N := 15) hx hb hts (iwX7_outputAt_7) hown hK.1 hP 0 rfl rfl 0 (by decide) (hts (.fieldLink RX7 47 "InverterGraphsModel" "thrown" "I") (by decide +kernel)) (fun _ h9 => h9) rfl dX7_outputAt_22 ?_
      refine lv_if_le (tgt := 32) hx hb dX7_outputAt_25 (by decide) (fun c_25 => ?_) (fun c_25 => ?_)
      · skip
        exfalso; revert c_25; decide
      · skip
        refine lv_iconst (v := 0) hx hb dX7_outputAt_28 (by decide) ?_
        refine lv_goto (tgt := 51) hx hb dX7_outputAt_29 (by decide) ?_
        exact W.iret (v := 0) hx hb hr (fun t ht hW => ⟨⟨0, 1, rfl, (by unfold m_outputAt; rw [if_neg c_2, if_pos c_10]), by rw [ht]; exact hP, hD⟩, hS.F ht⟩) hS.2.2 dX7_outputAt_51
    · skip
      refine lv_iconst (v := 0) hx hb dX7_outputAt_13 (by decide) ?_
      refine lv_goto (tgt := 18) hx hb dX7_outputAt_14 (by decide) ?_
      refine va_put (D := D) (ci := 7) (v := .int 0) (ty := .int) (C := RX7) (T := TX7) (N := 15) hx hb hts (iwX7_outputAt_7) tyX7 tyX7_ok nmX7 hown hK.1 hP hD hS 0 rfl rfl 0 (by decide) (hts (.fieldLink RX7 47 "InverterGraphsModel" "thrown" "I") (by decide +kernel)) (fun _ h9 => h9) rfl (by decide +kernel) rfl rfl (Nat.le_of_ble_eq_true rfl) dX7_outputAt_18 (fun H locs hP hD hS => ?_)
      have hP : va_P D vwCl (wN κ q 0 kc cp cn ro kn lv be) H := hP
      have hD : va_D A (wN κ q 0 kc cp cn ro kn lv be) := hD
      refine lv_aload_n hx hb dX7_outputAt_21 rfl (lv_at hl 0 rfl) ?_
      refine va_get (D := D) (ci := 7) (v := .int 0) (C := RX7) (T := TX7) (N := 15) hx hb hts (iwX7_outputAt_7) hown hK.1 hP 0 rfl rfl 0 (by decide) (hts (.fieldLink RX7 47 "InverterGraphsModel" "thrown" "I") (by decide +kernel)) (fun _ h9 => h9) rfl dX7_outputAt_22 ?_
      refine lv_if_le (tgt := 32) hx hb dX7_outputAt_25 (by decide) (fun c_25 => ?_) (fun c_25 => ?_)
      · skip
        obtain ⟨a, hva, rfl⟩ : ∃ a, a < moc kc ∧ p0 = nI a := by obtain ⟨j, hj, rfl⟩ := nI_of c_2; exact ⟨j, Nat.lt_of_not_le (fun q9 => c_10 ((nI_leI (by omega) hj).mpr q9)), rfl⟩
        refine lv_aload_n hx hb dX7_outputAt_32 rfl (lv_at hl 0 rfl) ?_
        refine va_get (D := D) (ci := 7) (v := .ref (q 6)) (C := RX7) (T := TX7) (N := 15) hx hb hts (iwX7_outputAt_7) hown hK.1 hP 0 rfl rfl 7 (by decide) (hts (.fieldLink RX7 25 "InverterGraphsModel" "boxed" "[Z") (by decide +kernel)) (fun _ h9 => h9) rfl dX7_outputAt_33 ?_
        refine lv_iload_n hx hb dX7_outputAt_36 rfl (lv_at hl 1 rfl) ?_
        refine k_zald (D := D) (j := a) hx hb hK.1 hP 6 2 rfl rfl (by omega) (by omega) dX7_outputAt_37 ?_
        refine lv_if_eq (tgt := 45) hx hb dX7_outputAt_38 (by decide) (fun c_38 => ?_) (fun c_38 => ?_)
        · skip
          refine lv_aload_n hx hb dX7_outputAt_45 rfl (lv_at hl 0 rfl) ?_
          refine va_get (D := D) (ci := 7) (v := .ref (q 5)) (C := RX7) (T := TX7) (N := 15) hx hb hts (iwX7_outputAt_7) hown hK.1 hP 0 rfl rfl 6 (by decide) (hts (.fieldLink RX7 22 "InverterGraphsModel" "outputs" "[I") (by decide +kernel)) (fun _ h9 => h9) rfl dX7_outputAt_46 ?_
          refine lv_iload_n hx hb dX7_outputAt_49 rfl (lv_at hl 1 rfl) ?_
          refine k_iald (D := D) (j := a) hx hb hK.1 hP 5 0 rfl rfl (by omega) (by omega) dX7_outputAt_50 ?_
          exact W.iret (v := nI ((mou kc) a)) hx hb hr (fun t ht hW => ⟨⟨nI ((mou kc) a), 0, rfl, (by unfold m_outputAt; rw [nI_clamp (show a < 2 ^ 31 by omega), if_neg c_2, if_neg c_10, if_pos c_38]), by rw [ht]; exact hP, hD⟩, hS.F ht⟩) hS.2.2 dX7_outputAt_51
        · skip
          refine lv_iconst (v := (-1)) hx hb dX7_outputAt_41 (by decide) ?_
          refine lv_goto (tgt := 51) hx hb dX7_outputAt_42 (by decide) ?_
          exact W.iret (v := (-1)) hx hb hr (fun t ht hW => ⟨⟨(-1), 0, rfl, (by unfold m_outputAt; rw [nI_clamp (show a < 2 ^ 31 by omega), if_neg c_2, if_neg c_10, if_neg c_38]), by rw [ht]; exact hP, hD⟩, hS.F ht⟩) hS.2.2 dX7_outputAt_51
      · skip
        exfalso; revert c_25; decide
theorem iwX7_node_7 : ∀ w ∈ wsX70, w ∈ wsX7_node := by decide +kernel
set_option maxHeartbeats 4000000 in
set_option maxRecDepth 100000 in
theorem c_X7_node (l : Launch) (D : va_G) (κ : Nat → ClassId) (sz : Nat) (q : Nat → Nat) (th : Int32) (kc : KC) (cp : Nat → Int32) (cn : Nat) (ro : Nat → Int64) (kn : Int32) (lv be : Nat → Int32) (p0 p1 : Int32) (hnd : mnd kc ≤ 400) (hoc : moc kc ≤ 40) (hcn : cn ≤ 30) : k_mui (S := Int32) l yX7_node wsX7_node 1 21 0 0 D κ [.ref (q 0), .int p0, .int p1] (wN κ q th kc cp cn ro kn lv be) sz (fun r u => (r, u) = m_node kc p0 p1) (fun u => wN κ q u kc cp cn ro kn lv be) := by
  refine Met.ofW (cc := cX7_node) (maxL := 3) (ret := (some .int)) (by decide) rfl ?_
  intro p e s m args below meth c s₁ B hml hv
  obtain ⟨rfl, hsz, hK, hP, hD0⟩ := hv
  have hx := B.exec
  have hb := B.bytes
  have hr := B.returns
  have hts := atoms_spec (ws := wsX7_node) B.pre
  have hown : s.vm.findClass RX7 = some m.cls := findClass_of_methodNamed B.named
  have hlocks := B.notSynchronized
  subst hsz
  have hD := hD0.self (sz := s.heap.size)
  generalize hAe : va_A (wN κ q th kc cp cn ro kn lv be) s.heap.size = A at hD ⊢
  have hA : ∀ q : Nat, s.heap.size ≤ q → A q := fun q h => by rw [← hAe]; exact Or.inr h
  have hS : va_S A s.heap s.heap [] := va_S.rf
  have hP : va_P D vwCl (wN κ q th kc cp cn ro kn lv be) s.heap := hP
  have hl := lv_entry ([.ref (q 0), .int p0, .int p1]) (n := 3) (Nat.le_of_ble_eq_true rfl)
  rw [lg_entry_eq]
  generalize (lg_sl ([.ref (q 0), .int p0, .int p1]) ++ List.replicate (3 - (lg_sl ([.ref (q 0), .int p0, .int p1])).length) Slot.unset).toArray = ls at hl ⊢
  have hl : lv_has ls 3 [(0, .ref (q 0)), (1, .int p0), (2, .int p1)] := hl
  refine lv_aload_n hx hb dX7_node_0 rfl (lv_at hl 0 rfl) ?_
  refine lv_aload_n hx hb dX7_node_1 rfl (lv_at hl 0 rfl) ?_
  refine lv_iload_n hx hb dX7_node_2 rfl (lv_at hl 1 rfl) ?_
  refine k_cRO (D := D) (κ := κ) (qc := (RX7, TX7, 15)) (ci := 7) (q0 := 0) ⟨hx, hb, hml, hown, hts⟩ (c_X7_was l D κ q th kc cp cn ro kn lv be p0 (by omega) (by omega) (by omega) ) (cwV 1 hts gX7_node_X7_was rfl rfl rfl (by decide +kernel) ⟨Nat.le_of_ble_eq_true rfl, Nat.le_of_ble_eq_true rfl⟩) hK hP rfl rfl (As := [.int p0]) (rest := [.ref (q 0)]) rfl rfl hl.1 (Nat.le_of_ble_eq_true rfl) dX7_node_3 ⟨Nat.le_of_ble_eq_true rfl, Nat.le_of_ble_eq_true rfl⟩ (fun r hr => ?_)
  subst hr
  refine lv_if_ne (tgt := 13) hx hb dX7_node_6 (by decide) (fun c_6 => ?_) (fun c_6 => ?_)
  · skip
    refine lv_iload_n hx hb dX7_node_13 rfl (lv_at hl 2 rfl) ?_
    refine lv_if_lt (tgt := 22) hx hb dX7_node_14 (by decide) (fun c_14 => ?_) (fun c_14 => ?_)
    · skip
      refine lv_iconst (v := 2) hx hb dX7_node_22 (by decide) ?_
      refine lv_goto (tgt := 27) hx hb dX7_node_23 (by decide) ?_
      refine va_put (D := D) (ci := 7) (v := .int 2) (ty := .int) (C := RX7) (T := TX7) (N := 15) hx hb hts (iwX7_node_7) tyX7 tyX7_ok nmX7 hown hK.1 hP hD hS 0 rfl rfl 0 (by decide) (hts (.fieldLink RX7 47 "InverterGraphsModel" "thrown" "I") (by decide +kernel)) (fun _ h9 => h9) rfl (by decide +kernel) rfl rfl (Nat.le_of_ble_eq_true rfl) dX7_node_27 (fun H locs hP hD hS => ?_)
      have hP : va_P D vwCl (wN κ q 2 kc cp cn ro kn lv be) H := hP
      have hD : va_D A (wN κ q 2 kc cp cn ro kn lv be) := hD
      refine lv_aload_n hx hb dX7_node_30 rfl (lv_at hl 0 rfl) ?_
      refine va_get (D := D) (ci := 7) (v := .int 2) (C := RX7) (T := TX7) (N := 15) hx hb hts (iwX7_node_7) hown hK.1 hP 0 rfl rfl 0 (by decide) (hts (.fieldLink RX7 47 "InverterGraphsModel" "thrown" "I") (by decide +kernel)) (fun _ h9 => h9) rfl dX7_node_31 ?_
      refine lv_if_le (tgt := 39) hx hb dX7_node_34 (by decide) (fun c_34 => ?_) (fun c_34 => ?_)
      · skip
        exfalso; revert c_34; decide
      · skip
        refine lv_iconst (v := 0) hx hb dX7_node_37 (by decide) ?_
        exact W.iret (v := 0) hx hb hr (fun t ht hW => ⟨⟨0, 2, rfl, (by unfold m_node; rw [if_neg c_6, if_pos c_14]), by rw [ht]; exact hP, hD⟩, hS.F ht⟩) hS.2.2 dX7_node_38
    · skip
      refine lv_iload_n hx hb dX7_node_17 rfl (lv_at hl 2 rfl) ?_
      refine lv_iconst (v := 3) hx hb dX7_node_18 (by decide) ?_
      refine lv_icmp_le (tgt := 26) hx hb dX7_node_19 (by decide) (fun c_19 => ?_) (fun c_19 => ?_)
      · skip
        refine lv_iconst (v := 0) hx hb dX7_node_26 (by decide) ?_
        refine va_put (D := D) (ci := 7) (v := .int 0) (ty := .int) (C := RX7) (T := TX7) (N := 15) hx hb hts (iwX7_node_7) tyX7 tyX7_ok nmX7 hown hK.1 hP hD hS 0 rfl rfl 0 (by decide) (hts (.fieldLink RX7 47 "InverterGraphsModel" "thrown" "I") (by decide +kernel)) (fun _ h9 => h9) rfl (by decide +kernel) rfl rfl (Nat.le_of_ble_eq_true rfl) dX7_node_27 (fun H locs hP hD hS => ?_)
        have hP : va_P D vwCl (wN κ q 0 kc cp cn ro kn lv be) H := hP
        have hD : va_D A (wN κ q 0 kc cp cn ro kn lv be) := hD
        refine lv_aload_n hx hb dX7_node_30 rfl (lv_at hl 0 rfl) ?_
        refine va_get (D := D) (ci := 7) (v := .int 0) (C := RX7) (T := TX7) (N := 15) hx hb hts (iwX7_node_7) hown hK.1 hP 0 rfl rfl 0 (by decide) (hts (.fieldLink RX7 47 "InverterGraphsModel" "thrown" "I") (by decide +kernel)) (fun _ h9 => h9) rfl dX7_node_31 ?_
        refine lv_if_le (tgt := 39) hx hb dX7_node_34 (by decide) (fun c_34 => ?_) (fun c_34 => ?_)
        · skip
          obtain ⟨a, hva, rfl⟩ := m_was_ok hnd c_6
          refine lv_iload_n hx hb dX7_node_39 rfl (lv_at hl 2 rfl) ?_
          refine lv_if_eq (tgt := 48) hx hb dX7_node_40 (by decide) (fun c_40 => ?_) (fun c_40 => ?_)
          · skip
            refine lv_iload_n hx hb dX7_node_48 rfl (lv_at hl 2 rfl) ?_
            refine lv_if_ne (tgt := 61) hx hb dX7_node_49 (by decide) (fun c_49 => ?_) (fun c_49 => ?_)
            · skip
              exfalso; exact c_49 c_40
            · skip
              refine lv_aload_n hx hb dX7_node_52 rfl (lv_at hl 0 rfl) ?_
              refine va_get (D := D) (ci := 7) (v := .ref (q 1)) (C := RX7) (T := TX7) (N := 15) hx hb hts (iwX7_node_7) hown hK.1 hP 0 rfl rfl 1 (by decide) (hts (.fieldLink RX7 7 "InverterGraphsModel" "sorts" "[I") (by decide +kernel)) (fun _ h9 => h9) rfl dX7_node_53 ?_
              refine lv_iload_n hx hb dX7_node_56 rfl (lv_at hl 1 rfl) ?_
              refine k_iald (D := D) (j := a) hx hb hK.1 hP 1 0 rfl rfl (by omega) (by omega) dX7_node_57 ?_
              refine lv_goto (tgt := 67) hx hb dX7_node_58 (by decide) ?_
              exact W.iret (v := (mso kc) a) hx hb hr (fun t ht hW => ⟨⟨(mso kc) a, 0, rfl, (by unfold m_node; rw [nI_clamp (show a < 2 ^ 31 by omega), if_neg c_6, if_neg c_14, if_pos c_19, if_pos c_40]), by rw [ht]; exact hP, hD⟩, hS.F ht⟩) hS.2.2 dX7_node_67
          · skip
            refine lv_iload_n hx hb dX7_node_43 rfl (lv_at hl 2 rfl) ?_
            refine lv_iconst (v := 3) hx hb dX7_node_44 (by decide) ?_
            refine lv_icmp_ne (tgt := 68) hx hb dX7_node_45 (by decide) (fun c_45 => ?_) (fun c_45 => ?_)
            · skip
              refine lv_aload_n hx hb dX7_node_68 rfl (lv_at hl 0 rfl) ?_
              refine va_get (D := D) (ci := 7) (v := .ref (q 1)) (C := RX7) (T := TX7) (N := 15) hx hb hts (iwX7_node_7) hown hK.1 hP 0 rfl rfl 1 (by decide) (hts (.fieldLink RX7 7 "InverterGraphsModel" "sorts" "[I") (by decide +kernel)) (fun _ h9 => h9) rfl dX7_node_69 ?_
              refine lv_iload_n hx hb dX7_node_72 rfl (lv_at hl 1 rfl) ?_
              refine k_iald (D := D) (j := a) hx hb hK.1 hP 1 0 rfl rfl (by omega) (by omega) dX7_node_73 ?_
              refine lv_iconst (v := 2) hx hb dX7_node_74 (by decide) ?_
              refine lv_icmp_eq (tgt := 82) hx hb dX7_node_75 (by decide) (fun c_75 => ?_) (fun c_75 => ?_)
              · skip
                refine lv_iload_n hx hb dX7_node_82 rfl (lv_at hl 2 rfl) ?_
                refine lv_iconst (v := 1) hx hb dX7_node_83 (by decide) ?_
                refine lv_icmp_ne (tgt := 96) hx hb dX7_node_84 (by decide) (fun c_84 => ?_) (fun c_84 => ?_)
                · skip
                  refine lv_aload_n hx hb dX7_node_96 rfl (lv_at hl 0 rfl) ?_
                  refine va_get (D := D) (ci := 7) (v := .ref (q 3)) (C := RX7) (T := TX7) (N := 15) hx hb hts (iwX7_node_7) hown hK.1 hP 0 rfl rfl 3 (by decide) (hts (.fieldLink RX7 16 "InverterGraphsModel" "twos" "[I") (by decide +kernel)) (fun _ h9 => h9) rfl dX7_node_97 ?_
                  refine lv_iload_n hx hb dX7_node_100 rfl (lv_at hl 1 rfl) ?_
                  refine k_iald (D := D) (j := a) hx hb hK.1 hP 3 0 rfl rfl (by omega) (by omega) dX7_node_101 ?_
                  exact W.iret (v := nI ((mtw kc) a)) hx hb hr (fun t ht hW => ⟨⟨nI ((mtw kc) a), 0, rfl, (by unfold m_node; rw [nI_clamp (show a < 2 ^ 31 by omega), if_neg c_6, if_neg c_14, if_pos c_19, if_neg c_40, if_neg c_45, if_pos c_75, if_neg c_84]), by rw [ht]; exact hP, hD⟩, hS.F ht⟩) hS.2.2 dX7_node_102
                · skip
                  refine lv_aload_n hx hb dX7_node_87 rfl (lv_at hl 0 rfl) ?_
                  refine va_get (D := D) (ci := 7) (v := .ref (q 2)) (C := RX7) (T := TX7) (N := 15) hx hb hts (iwX7_node_7) hown hK.1 hP 0 rfl rfl 2 (by decide) (hts (.fieldLink RX7 13 "InverterGraphsModel" "ones" "[I") (by decide +kernel)) (fun _ h9 => h9) rfl dX7_node_88 ?_
                  refine lv_iload_n hx hb dX7_node_91 rfl (lv_at hl 1 rfl) ?_
                  refine k_iald (D := D) (j := a) hx hb hK.1 hP 2 0 rfl rfl (by omega) (by omega) dX7_node_92 ?_
                  refine lv_goto (tgt := 102) hx hb dX7_node_93 (by decide) ?_
                  exact W.iret (v := nI ((mon kc) a)) hx hb hr (fun t ht hW => ⟨⟨nI ((mon kc) a), 0, rfl, (by unfold m_node; rw [nI_clamp (show a < 2 ^ 31 by omega), if_neg c_6, if_neg c_14, if_pos c_19, if_neg c_40, if_neg c_45, if_pos c_75, if_pos c_84]), by rw [ht]; exact hP, hD⟩, hS.F ht⟩) hS.2.2 dX7_node_102
              · skip
                refine lv_iconst (v := (-1)) hx hb dX7_node_78 (by decide) ?_
                refine lv_goto (tgt := 102) hx hb dX7_node_79 (by decide) ?_
                exact W.iret (v := (-1)) hx hb hr (fun t ht hW => ⟨⟨(-1), 0, rfl, (by unfold m_node; rw [nI_clamp (show a < 2 ^ 31 by omega), if_neg c_6, if_neg c_14, if_pos c_19, if_neg c_40, if_neg c_45, if_neg c_75]), by rw [ht]; exact hP, hD⟩, hS.F ht⟩) hS.2.2 dX7_node_102
            · skip
              refine lv_iload_n hx hb dX7_node_48 rfl (lv_at hl 2 rfl) ?_
              refine lv_if_ne (tgt := 61) hx hb dX7_node_49 (by decide) (fun c_49 => ?_) (fun c_49 => ?_)
              · skip
                refine lv_aload_n hx hb dX7_node_61 rfl (lv_at hl 0 rfl) ?_
                refine va_get (D := D) (ci := 7) (v := .ref (q 4)) (C := RX7) (T := TX7) (N := 15) hx hb hts (iwX7_node_7) hown hK.1 hP 0 rfl rfl 4 (by decide) (hts (.fieldLink RX7 19 "InverterGraphsModel" "stands" "[I") (by decide +kernel)) (fun _ h9 => h9) rfl dX7_node_62 ?_
                refine lv_iload_n hx hb dX7_node_65 rfl (lv_at hl 1 rfl) ?_
                refine k_iald (D := D) (j := a) hx hb hK.1 hP 4 0 rfl rfl (by omega) (by omega) dX7_node_66 ?_
                exact W.iret (v := (mst kc) a) hx hb hr (fun t ht hW => ⟨⟨(mst kc) a, 0, rfl, (by unfold m_node; rw [nI_clamp (show a < 2 ^ 31 by omega), if_neg c_6, if_neg c_14, if_pos c_19, if_neg c_40, if_pos c_45]), by rw [ht]; exact hP, hD⟩, hS.F ht⟩) hS.2.2 dX7_node_67
              · skip
                exfalso; exact c_40 c_49
        · skip
          exfalso; revert c_34; decide
      · skip
        refine lv_iconst (v := 2) hx hb dX7_node_22 (by decide) ?_
        refine lv_goto (tgt := 27) hx hb dX7_node_23 (by decide) ?_
        refine va_put (D := D) (ci := 7) (v := .int 2) (ty := .int) (C := RX7) (T := TX7) (N := 15) hx hb hts (iwX7_node_7) tyX7 tyX7_ok nmX7 hown hK.1 hP hD hS 0 rfl rfl 0 (by decide) (hts (.fieldLink RX7 47 "InverterGraphsModel" "thrown" "I") (by decide +kernel)) (fun _ h9 => h9) rfl (by decide +kernel) rfl rfl (Nat.le_of_ble_eq_true rfl) dX7_node_27 (fun H locs hP hD hS => ?_)
        have hP : va_P D vwCl (wN κ q 2 kc cp cn ro kn lv be) H := hP
        have hD : va_D A (wN κ q 2 kc cp cn ro kn lv be) := hD
        refine lv_aload_n hx hb dX7_node_30 rfl (lv_at hl 0 rfl) ?_
        refine va_get (D := D) (ci := 7) (v := .int 2) (C := RX7) (T := TX7) (N := 15) hx hb hts (iwX7_node_7) hown hK.1 hP 0 rfl rfl 0 (by decide) (hts (.fieldLink RX7 47 "InverterGraphsModel" "thrown" "I") (by decide +kernel)) (fun _ h9 => h9) rfl dX7_node_31 ?_
        refine lv_if_le (tgt := 39) hx hb dX7_node_34 (by decide) (fun c_34 => ?_) (fun c_34 => ?_)
        · skip
          exfalso; revert c_34; decide
        · skip
          refine lv_iconst (v := 0) hx hb dX7_node_37 (by decide) ?_
          exact W.iret (v := 0) hx hb hr (fun t ht hW => ⟨⟨0, 2, rfl, (by unfold m_node; rw [if_neg c_6, if_neg c_14, if_neg c_19]), by rw [ht]; exact hP, hD⟩, hS.F ht⟩) hS.2.2 dX7_node_38
  · skip
    refine lv_iconst (v := 1) hx hb dX7_node_9 (by decide) ?_
    refine lv_goto (tgt := 27) hx hb dX7_node_10 (by decide) ?_
    refine va_put (D := D) (ci := 7) (v := .int 1) (ty := .int) (C := RX7) (T := TX7) (N := 15) hx hb hts (iwX7_node_7) tyX7 tyX7_ok nmX7 hown hK.1 hP hD hS 0 rfl rfl 0 (by decide) (hts (.fieldLink RX7 47 "InverterGraphsModel" "thrown" "I") (by decide +kernel)) (fun _ h9 => h9) rfl (by decide +kernel) rfl rfl (Nat.le_of_ble_eq_true rfl) dX7_node_27 (fun H locs hP hD hS => ?_)
    have hP : va_P D vwCl (wN κ q 1 kc cp cn ro kn lv be) H := hP
    have hD : va_D A (wN κ q 1 kc cp cn ro kn lv be) := hD
    refine lv_aload_n hx hb dX7_node_30 rfl (lv_at hl 0 rfl) ?_
    refine va_get (D := D) (ci := 7) (v := .int 1) (C := RX7) (T := TX7) (N := 15) hx hb hts (iwX7_node_7) hown hK.1 hP 0 rfl rfl 0 (by decide) (hts (.fieldLink RX7 47 "InverterGraphsModel" "thrown" "I") (by decide +kernel)) (fun _ h9 => h9) rfl dX7_node_31 ?_
    refine lv_if_le (tgt := 39) hx hb dX7_node_34 (by decide) (fun c_34 => ?_) (fun c_34 => ?_)
    · skip
      exfalso; revert c_34; decide
    · skip
      refine lv_iconst (v := 0) hx hb dX7_node_37 (by decide) ?_
      exact W.iret (v := 0) hx hb hr (fun t ht hW => ⟨⟨0, 1, rfl, (by unfold m_node; rw [if_pos c_6]), by rw [ht]; exact hP, hD⟩, hS.F ht⟩) hS.2.2 dX7_node_38
theorem iwX7_row_7 : ∀ w ∈ wsX70, w ∈ wsX7_row := by decide +kernel
set_option maxHeartbeats 4000000 in
set_option maxRecDepth 100000 in
theorem c_X7_row (l : Launch) (D : va_G) (κ : Nat → ClassId) (sz : Nat) (q : Nat → Nat) (th : Int32) (kc : KC) (cp : Nat → Int32) (cn : Nat) (ro : Nat → Int64) (kn : Int32) (lv be : Nat → Int32) (p0 : Int32) (hnd : mnd kc ≤ 400) (hoc : moc kc ≤ 40) (hcn : cn ≤ 30) : k_mul (S := Int32) l yX7_row wsX7_row 1 21 0 0 D κ [.ref (q 0), .int p0] (wN κ q th kc cp cn ro kn lv be) sz (fun r u => (r, u) = m_row kc kn ro p0) (fun u => wN κ q u kc cp cn ro kn lv be) := by
  refine Met.ofW (cc := cX7_row) (maxL := 2) (ret := (some .long)) (by decide) rfl ?_
  intro p e s m args below meth c s₁ B hml hv
  obtain ⟨rfl, hsz, hK, hP, hD0⟩ := hv
  have hx := B.exec
  have hb := B.bytes
  have hr := B.returns
  have hts := atoms_spec (ws := wsX7_row) B.pre
  have hown : s.vm.findClass RX7 = some m.cls := findClass_of_methodNamed B.named
  have hlocks := B.notSynchronized
  subst hsz
  have hD := hD0.self (sz := s.heap.size)
  generalize hAe : va_A (wN κ q th kc cp cn ro kn lv be) s.heap.size = A at hD ⊢
  have hA : ∀ q : Nat, s.heap.size ≤ q → A q := fun q h => by rw [← hAe]; exact Or.inr h
  have hS : va_S A s.heap s.heap [] := va_S.rf
  have hP : va_P D vwCl (wN κ q th kc cp cn ro kn lv be) s.heap := hP
  have hl := lv_entry ([.ref (q 0), .int p0]) (n := 2) (Nat.le_of_ble_eq_true rfl)
  rw [lg_entry_eq]
  generalize (lg_sl ([.ref (q 0), .int p0]) ++ List.replicate (2 - (lg_sl ([.ref (q 0), .int p0])).length) Slot.unset).toArray = ls at hl ⊢
  have hl : lv_has ls 2 [(0, .ref (q 0)), (1, .int p0)] := hl
  refine lv_aload_n hx hb dX7_row_0 rfl (lv_at hl 0 rfl) ?_
  refine lv_aload_n hx hb dX7_row_1 rfl (lv_at hl 0 rfl) ?_
  refine lv_iload_n hx hb dX7_row_2 rfl (lv_at hl 1 rfl) ?_
  refine k_cRO (D := D) (κ := κ) (qc := (RX7, TX7, 15)) (ci := 7) (q0 := 0) ⟨hx, hb, hml, hown, hts⟩ (c_X7_was l D κ q th kc cp cn ro kn lv be p0 (by omega) (by omega) (by omega) ) (cwV 1 hts gX7_row_X7_was rfl rfl rfl (by decide +kernel) ⟨Nat.le_of_ble_eq_true rfl, Nat.le_of_ble_eq_true rfl⟩) hK hP rfl rfl (As := [.int p0]) (rest := [.ref (q 0)]) rfl rfl hl.1 (Nat.le_of_ble_eq_true rfl) dX7_row_3 ⟨Nat.le_of_ble_eq_true rfl, Nat.le_of_ble_eq_true rfl⟩ (fun r hr => ?_)
  subst hr
  refine lv_if_ne (tgt := 13) hx hb dX7_row_6 (by decide) (fun c_6 => ?_) (fun c_6 => ?_)
  · skip
    refine lv_aload_n hx hb dX7_row_13 rfl (lv_at hl 0 rfl) ?_
    refine va_get (D := D) (ci := 7) (v := .int kn) (C := RX7) (T := TX7) (N := 15) hx hb hts (iwX7_row_7) hown hK.1 hP 0 rfl rfl 12 (by decide) (hts (.fieldLink RX7 57 "InverterGraphsModel" "known" "Z") (by decide +kernel)) (fun _ h9 => h9) rfl dX7_row_14 ?_
    refine lv_if_ne (tgt := 24) hx hb dX7_row_17 (by decide) (fun c_17 => ?_) (fun c_17 => ?_)
    · skip
      obtain ⟨a, hva, rfl⟩ := m_was_ok hnd c_6
      refine lv_aload_n hx hb dX7_row_24 rfl (lv_at hl 0 rfl) ?_
      refine va_get (D := D) (ci := 7) (v := .ref (q 1)) (C := RX7) (T := TX7) (N := 15) hx hb hts (iwX7_row_7) hown hK.1 hP 0 rfl rfl 1 (by decide) (hts (.fieldLink RX7 7 "InverterGraphsModel" "sorts" "[I") (by decide +kernel)) (fun _ h9 => h9) rfl dX7_row_25 ?_
      refine lv_iload_n hx hb dX7_row_28 rfl (lv_at hl 1 rfl) ?_
      refine k_iald (D := D) (j := a) hx hb hK.1 hP 1 0 rfl rfl (by omega) (by omega) dX7_row_29 ?_
      refine lv_iconst (v := 5) hx hb dX7_row_30 (by decide) ?_
      refine lv_icmp_ne (tgt := 38) hx hb dX7_row_31 (by decide) (fun c_31 => ?_) (fun c_31 => ?_)
      · skip
        refine lv_iconst (v := 0) hx hb dX7_row_38 (by decide) ?_
        refine va_put (D := D) (ci := 7) (v := .int 0) (ty := .int) (C := RX7) (T := TX7) (N := 15) hx hb hts (iwX7_row_7) tyX7 tyX7_ok nmX7 hown hK.1 hP hD hS 0 rfl rfl 0 (by decide) (hts (.fieldLink RX7 47 "InverterGraphsModel" "thrown" "I") (by decide +kernel)) (fun _ h9 => h9) rfl (by decide +kernel) rfl rfl (Nat.le_of_ble_eq_true rfl) dX7_row_39 (fun H locs hP hD hS => ?_)
        have hP : va_P D vwCl (wN κ q 0 kc cp cn ro kn lv be) H := hP
        have hD : va_D A (wN κ q 0 kc cp cn ro kn lv be) := hD
        refine lv_aload_n hx hb dX7_row_42 rfl (lv_at hl 0 rfl) ?_
        refine va_get (D := D) (ci := 7) (v := .int 0) (C := RX7) (T := TX7) (N := 15) hx hb hts (iwX7_row_7) hown hK.1 hP 0 rfl rfl 0 (by decide) (hts (.fieldLink RX7 47 "InverterGraphsModel" "thrown" "I") (by decide +kernel)) (fun _ h9 => h9) rfl dX7_row_43 ?_
        refine lv_if_le (tgt := 53) hx hb dX7_row_46 (by decide) (fun c_46 => ?_) (fun c_46 => ?_)
        · skip
          refine lv_aload_n hx hb dX7_row_53 rfl (lv_at hl 0 rfl) ?_
          refine va_get (D := D) (ci := 7) (v := .ref (q 8)) (C := RX7) (T := TX7) (N := 15) hx hb hts (iwX7_row_7) hown hK.1 hP 0 rfl rfl 11 (by decide) (hts (.fieldLink RX7 33 "InverterGraphsModel" "rows" "[J") (by decide +kernel)) (fun _ h9 => h9) rfl dX7_row_54 ?_
          refine lv_iload_n hx hb dX7_row_57 rfl (lv_at hl 1 rfl) ?_
          refine k_lald (D := D) (j := a) hx hb hK.1 hP 8 1 rfl rfl (by omega) (by omega) dX7_row_58 ?_
          exact W.lret (v := ro a) hx hb hr (fun t ht hW => ⟨⟨ro a, 0, rfl, (by unfold m_row; rw [nI_clamp (show a < 2 ^ 31 by omega), if_neg c_6, if_neg c_17, if_neg c_31]), by rw [ht]; exact hP, hD⟩, hS.F ht⟩) hS.2.2 dX7_row_59
        · skip
          exfalso; revert c_46; decide
      · skip
        refine lv_iconst (v := 3) hx hb dX7_row_34 (by decide) ?_
        refine lv_goto (tgt := 39) hx hb dX7_row_35 (by decide) ?_
        refine va_put (D := D) (ci := 7) (v := .int 3) (ty := .int) (C := RX7) (T := TX7) (N := 15) hx hb hts (iwX7_row_7) tyX7 tyX7_ok nmX7 hown hK.1 hP hD hS 0 rfl rfl 0 (by decide) (hts (.fieldLink RX7 47 "InverterGraphsModel" "thrown" "I") (by decide +kernel)) (fun _ h9 => h9) rfl (by decide +kernel) rfl rfl (Nat.le_of_ble_eq_true rfl) dX7_row_39 (fun H locs hP hD hS => ?_)
        have hP : va_P D vwCl (wN κ q 3 kc cp cn ro kn lv be) H := hP
        have hD : va_D A (wN κ q 3 kc cp cn ro kn lv be) := hD
        refine lv_aload_n hx hb dX7_row_42 rfl (lv_at hl 0 rfl) ?_
        refine va_get (D := D) (ci := 7) (v := .int 3) (C := RX7) (T := TX7) (N := 15) hx hb hts (iwX7_row_7) hown hK.1 hP 0 rfl rfl 0 (by decide) (hts (.fieldLink RX7 47 "InverterGraphsModel" "thrown" "I") (by decide +kernel)) (fun _ h9 => h9) rfl dX7_row_43 ?_
        refine lv_if_le (tgt := 53) hx hb dX7_row_46 (by decide) (fun c_46 => ?_) (fun c_46 => ?_)
        · skip
          exfalso; revert c_46; decide
        · skip
          refine lv_lconst (v := 0) hx hb dX7_row_49 (by decide) ?_
          refine lv_goto (tgt := 59) hx hb dX7_row_50 (by decide) ?_
          exact W.lret (v := 0) hx hb hr (fun t ht hW => ⟨⟨0, 3, rfl, (by unfold m_row; rw [nI_clamp (show a < 2 ^ 31 by omega), if_neg c_6, if_neg c_17, if_pos c_31]), by rw [ht]; exact hP, hD⟩, hS.F ht⟩) hS.2.2 dX7_row_59
    · skip
      refine lv_iconst (v := 2) hx hb dX7_row_20 (by decide) ?_
      refine lv_goto (tgt := 39) hx hb dX7_row_21 (by decide) ?_
      refine va_put (D := D) (ci := 7) (v := .int 2) (ty := .int) (C := RX7) (T := TX7) (N := 15) hx hb hts (iwX7_row_7) tyX7 tyX7_ok nmX7 hown hK.1 hP hD hS 0 rfl rfl 0 (by decide) (hts (.fieldLink RX7 47 "InverterGraphsModel" "thrown" "I") (by decide +kernel)) (fun _ h9 => h9) rfl (by decide +kernel) rfl rfl (Nat.le_of_ble_eq_true rfl) dX7_row_39 (fun H locs hP hD hS => ?_)
      have hP : va_P D vwCl (wN κ q 2 kc cp cn ro kn lv be) H := hP
      have hD : va_D A (wN κ q 2 kc cp cn ro kn lv be) := hD
      refine lv_aload_n hx hb dX7_row_42 rfl (lv_at hl 0 rfl) ?_
      refine va_get (D := D) (ci := 7) (v := .int 2) (C := RX7) (T := TX7) (N := 15) hx hb hts (iwX7_row_7) hown hK.1 hP 0 rfl rfl 0 (by decide) (hts (.fieldLink RX7 47 "InverterGraphsModel" "thrown" "I") (by decide +kernel)) (fun _ h9 => h9) rfl dX7_row_43 ?_
      refine lv_if_le (tgt := 53) hx hb dX7_row_46 (by decide) (fun c_46 => ?_) (fun c_46 => ?_)
      · skip
        exfalso; revert c_46; decide
      · skip
        refine lv_lconst (v := 0) hx hb dX7_row_49 (by decide) ?_
        refine lv_goto (tgt := 59) hx hb dX7_row_50 (by decide) ?_
        exact W.lret (v := 0) hx hb hr (fun t ht hW => ⟨⟨0, 2, rfl, (by unfold m_row; rw [if_neg c_6, if_pos c_17]), by rw [ht]; exact hP, hD⟩, hS.F ht⟩) hS.2.2 dX7_row_59
  · skip
    refine lv_iconst (v := 1) hx hb dX7_row_9 (by decide) ?_
    refine lv_goto (tgt := 39) hx hb dX7_row_10 (by decide) ?_
    refine va_put (D := D) (ci := 7) (v := .int 1) (ty := .int) (C := RX7) (T := TX7) (N := 15) hx hb hts (iwX7_row_7) tyX7 tyX7_ok nmX7 hown hK.1 hP hD hS 0 rfl rfl 0 (by decide) (hts (.fieldLink RX7 47 "InverterGraphsModel" "thrown" "I") (by decide +kernel)) (fun _ h9 => h9) rfl (by decide +kernel) rfl rfl (Nat.le_of_ble_eq_true rfl) dX7_row_39 (fun H locs hP hD hS => ?_)
    have hP : va_P D vwCl (wN κ q 1 kc cp cn ro kn lv be) H := hP
    have hD : va_D A (wN κ q 1 kc cp cn ro kn lv be) := hD
    refine lv_aload_n hx hb dX7_row_42 rfl (lv_at hl 0 rfl) ?_
    refine va_get (D := D) (ci := 7) (v := .int 1) (C := RX7) (T := TX7) (N := 15) hx hb hts (iwX7_row_7) hown hK.1 hP 0 rfl rfl 0 (by decide) (hts (.fieldLink RX7 47 "InverterGraphsModel" "thrown" "I") (by decide +kernel)) (fun _ h9 => h9) rfl dX7_row_43 ?_
    refine lv_if_le (tgt := 53) hx hb dX7_row_46 (by decide) (fun c_46 => ?_) (fun c_46 => ?_)
    · skip
      exfalso; revert c_46; decide
    · skip
      refine lv_lconst (v := 0) hx hb dX7_row_49 (by decide) ?_
      refine lv_goto (tgt := 59) hx hb dX7_row_50 (by decide) ?_
      exact W.lret (v := 0) hx hb hr (fun t ht hW => ⟨⟨0, 1, rfl, (by unfold m_row; rw [if_pos c_6]), by rw [ht]; exact hP, hD⟩, hS.F ht⟩) hS.2.2 dX7_row_59
theorem iwX7_level_7 : ∀ w ∈ wsX70, w ∈ wsX7_level := by decide +kernel
set_option maxHeartbeats 4000000 in
set_option maxRecDepth 100000 in
theorem c_X7_level (l : Launch) (D : va_G) (κ : Nat → ClassId) (sz : Nat) (q : Nat → Nat) (th : Int32) (kc : KC) (cp : Nat → Int32) (cn : Nat) (ro : Nat → Int64) (kn : Int32) (lv be : Nat → Int32) (p0 : Int32) (K : Nat) (hnd : mnd kc ≤ 400) (hoc : moc kc ≤ 40) (hcn : cn ≤ 30) (hlt : ∀ j, j < mnd kc → mso kc j = 2 → mon kc j < 2 * mnd kc ∧ mtw kc j < 2 * mnd kc) (hfin : k_itF (m_fF kc) (fun _ => True) K 1 (k_fillF lv 0 (mnd kc))) : k_mui (S := (Int32 × (Nat → Int32))) l yX7_level wsX7_level 1 25 0 0 D κ [.ref (q 0), .int p0] (wN κ q th kc cp cn ro kn lv be) sz (fun r u => (r, u) = m_level K kc lv p0) (fun u => wN κ q u.1 kc cp cn ro kn u.2 be) := by
  refine Met.ofW (cc := cX7_level) (maxL := 2) (ret := (some .int)) (by decide) rfl ?_
  intro p e s m args below meth c s₁ B hml hv
  obtain ⟨rfl, hsz, hK, hP, hD0⟩ := hv
  have hx := B.exec
  have hb := B.bytes
  have hr := B.returns
  have hts := atoms_spec (ws := wsX7_level) B.pre
  have hown : s.vm.findClass RX7 = some m.cls := findClass_of_methodNamed B.named
  have hlocks := B.notSynchronized
  subst hsz
  have hD := hD0.self (sz := s.heap.size)
  generalize hAe : va_A (wN κ q th kc cp cn ro kn lv be) s.heap.size = A at hD ⊢
  have hA : ∀ q : Nat, s.heap.size ≤ q → A q := fun q h => by rw [← hAe]; exact Or.inr h
  have hS : va_S A s.heap s.heap [] := va_S.rf
  have hP : va_P D vwCl (wN κ q th kc cp cn ro kn lv be) s.heap := hP
  have hl := lv_entry ([.ref (q 0), .int p0]) (n := 2) (Nat.le_of_ble_eq_true rfl)
  rw [lg_entry_eq]
  generalize (lg_sl ([.ref (q 0), .int p0]) ++ List.replicate (2 - (lg_sl ([.ref (q 0), .int p0])).length) Slot.unset).toArray = ls at hl ⊢
  have hl : lv_has ls 2 [(0, .ref (q 0)), (1, .int p0)] := hl
  refine lv_aload_n hx hb dX7_level_0 rfl (lv_at hl 0 rfl) ?_
  refine lv_aload_n hx hb dX7_level_1 rfl (lv_at hl 0 rfl) ?_
  refine lv_iload_n hx hb dX7_level_2 rfl (lv_at hl 1 rfl) ?_
  refine k_cRO (D := D) (κ := κ) (qc := (RX7, TX7, 15)) (ci := 7) (q0 := 0) ⟨hx, hb, hml, hown, hts⟩ (c_X7_was l D κ q th kc cp cn ro kn lv be p0 (by omega) (by omega) (by omega) ) (cwV 1 hts gX7_level_X7_was rfl rfl rfl (by decide +kernel) ⟨Nat.le_of_ble_eq_true rfl, Nat.le_of_ble_eq_true rfl⟩) hK hP rfl rfl (As := [.int p0]) (rest := [.ref (q 0)]) rfl rfl hl.1 (Nat.le_of_ble_eq_true rfl) dX7_level_3 ⟨Nat.le_of_ble_eq_true rfl, Nat.le_of_ble_eq_true rfl⟩ (fun r hr => ?_)
  subst hr
  refine lv_if_ne (tgt := 13) hx hb dX7_level_6 (by decide) (fun c_6 => ?_) (fun c_6 => ?_)
  · skip
    obtain ⟨a, hva, rfl⟩ := m_was_ok hnd c_6
    refine lv_aload_n hx hb dX7_level_13 rfl (lv_at hl 0 rfl) ?_
    refine va_get (D := D) (ci := 7) (v := .ref (q 1)) (C := RX7) (T := TX7) (N := 15) hx hb hts (iwX7_level_7) hown hK.1 hP 0 rfl rfl 1 (by decide) (hts (.fieldLink RX7 7 "InverterGraphsModel" "sorts" "[I") (by decide +kernel)) (fun _ h9 => h9) rfl dX7_level_14 ?_
    refine lv_iload_n hx hb dX7_level_17 rfl (lv_at hl 1 rfl) ?_
    refine k_iald (D := D) (j := a) hx hb hK.1 hP 1 0 rfl rfl (by omega) (by omega) dX7_level_18 ?_
    refine lv_iconst (v := 5) hx hb dX7_level_19 (by decide) ?_
    refine lv_icmp_ne (tgt := 27) hx hb dX7_level_20 (by decide) (fun c_20 => ?_) (fun c_20 => ?_)
    · skip
      refine lv_iconst (v := 0) hx hb dX7_level_27 (by decide) ?_
      refine va_put (D := D) (ci := 7) (v := .int 0) (ty := .int) (C := RX7) (T := TX7) (N := 15) hx hb hts (iwX7_level_7) tyX7 tyX7_ok nmX7 hown hK.1 hP hD hS 0 rfl rfl 0 (by decide) (hts (.fieldLink RX7 47 "InverterGraphsModel" "thrown" "I") (by decide +kernel)) (fun _ h9 => h9) rfl (by decide +kernel) rfl rfl (Nat.le_of_ble_eq_true rfl) dX7_level_28 (fun H locs hP hD hS => ?_)
      have hP : va_P D vwCl (wN κ q 0 kc cp cn ro kn lv be) H := hP
      have hD : va_D A (wN κ q 0 kc cp cn ro kn lv be) := hD
      refine lv_aload_n hx hb dX7_level_31 rfl (lv_at hl 0 rfl) ?_
      refine va_get (D := D) (ci := 7) (v := .int 0) (C := RX7) (T := TX7) (N := 15) hx hb hts (iwX7_level_7) hown hK.1 hP 0 rfl rfl 0 (by decide) (hts (.fieldLink RX7 47 "InverterGraphsModel" "thrown" "I") (by decide +kernel)) (fun _ h9 => h9) rfl dX7_level_32 ?_
      refine lv_if_le (tgt := 40) hx hb dX7_level_35 (by decide) (fun c_35 => ?_) (fun c_35 => ?_)
      · skip
        refine lv_aload_n hx hb dX7_level_40 rfl (lv_at hl 0 rfl) ?_
        refine k_cWUv (D := D) (κ := κ) (qc := (RX7, TX7, 15)) (ci := 7) (q0 := 0) ⟨hx, hb, hml, hown, hts⟩ (c_X7_findLevels l D κ _ q 0 kc cp cn ro kn lv be K (by omega) (by omega) (by omega) (by assumption) (by assumption)) (cwV 0 hts gX7_level_X7_findLevels rfl rfl rfl (by decide +kernel) ⟨Nat.le_of_ble_eq_true rfl, Nat.le_of_ble_eq_true rfl⟩) hK hP hD hS hA rfl rfl (As := []) (rest := []) rfl rfl hl.1 (Nat.le_of_ble_eq_true rfl) dX7_level_41 ⟨Nat.le_of_ble_eq_true rfl, Nat.le_of_ble_eq_true rfl⟩ (fun u_41 H locs hw9 hP hD hS => ?_)
        have hu_41 := hw9
        have hP : va_P D vwCl (wN κ q 0 kc cp cn ro kn u_41 be) H := hP
        have hD : va_D A (wN κ q 0 kc cp cn ro kn u_41 be) := hD
        refine lv_aload_n hx hb dX7_level_44 rfl (lv_at hl 0 rfl) ?_
        refine va_get (D := D) (ci := 7) (v := .ref (q 9)) (C := RX7) (T := TX7) (N := 15) hx hb hts (iwX7_level_7) hown hK.1 hP 0 rfl rfl 13 (by decide) (hts (.fieldLink RX7 37 "InverterGraphsModel" "levels" "[I") (by decide +kernel)) (fun _ h9 => h9) rfl dX7_level_45 ?_
        refine lv_iload_n hx hb dX7_level_48 rfl (lv_at hl 1 rfl) ?_
        refine k_iald (D := D) (j := a) hx hb hK.1 hP 9 0 rfl rfl (by omega) (by omega) dX7_level_49 ?_
        exact W.iret (v := u_41 a) hx hb hr (fun t ht hW => ⟨⟨u_41 a, (0, u_41), rfl, (by unfold m_level; rw [nI_clamp (show a < 2 ^ 31 by omega), if_neg c_6, if_neg c_20]; unfold m_lvF; rw [← hu_41]), by rw [ht]; exact hP, hD⟩, hS.F ht⟩) hS.2.2 dX7_level_50
      · skip
        exfalso; revert c_35; decide
    · skip
      refine lv_iconst (v := 2) hx hb dX7_level_23 (by decide) ?_
      refine lv_goto (tgt := 28) hx hb dX7_level_24 (by decide) ?_
      refine va_put (D := D) (ci := 7) (v := .int 2) (ty := .int) (C := RX7) (T := TX7) (N := 15) hx hb hts (iwX7_level_7) tyX7 tyX7_ok nmX7 hown hK.1 hP hD hS 0 rfl rfl 0 (by decide) (hts (.fieldLink RX7 47 "InverterGraphsModel" "thrown" "I") (by decide +kernel)) (fun _ h9 => h9) rfl (by decide +kernel) rfl rfl (Nat.le_of_ble_eq_true rfl) dX7_level_28 (fun H locs hP hD hS => ?_)
      have hP : va_P D vwCl (wN κ q 2 kc cp cn ro kn lv be) H := hP
      have hD : va_D A (wN κ q 2 kc cp cn ro kn lv be) := hD
      refine lv_aload_n hx hb dX7_level_31 rfl (lv_at hl 0 rfl) ?_
      refine va_get (D := D) (ci := 7) (v := .int 2) (C := RX7) (T := TX7) (N := 15) hx hb hts (iwX7_level_7) hown hK.1 hP 0 rfl rfl 0 (by decide) (hts (.fieldLink RX7 47 "InverterGraphsModel" "thrown" "I") (by decide +kernel)) (fun _ h9 => h9) rfl dX7_level_32 ?_
      refine lv_if_le (tgt := 40) hx hb dX7_level_35 (by decide) (fun c_35 => ?_) (fun c_35 => ?_)
      · skip
        exfalso; revert c_35; decide
      · skip
        refine lv_iconst (v := 0) hx hb dX7_level_38 (by decide) ?_
        exact W.iret (v := 0) hx hb hr (fun t ht hW => ⟨⟨0, (2, lv), rfl, (by unfold m_level; rw [nI_clamp (show a < 2 ^ 31 by omega), if_neg c_6, if_pos c_20]), by rw [ht]; exact hP, hD⟩, hS.F ht⟩) hS.2.2 dX7_level_39
  · skip
    refine lv_iconst (v := 1) hx hb dX7_level_9 (by decide) ?_
    refine lv_goto (tgt := 28) hx hb dX7_level_10 (by decide) ?_
    refine va_put (D := D) (ci := 7) (v := .int 1) (ty := .int) (C := RX7) (T := TX7) (N := 15) hx hb hts (iwX7_level_7) tyX7 tyX7_ok nmX7 hown hK.1 hP hD hS 0 rfl rfl 0 (by decide) (hts (.fieldLink RX7 47 "InverterGraphsModel" "thrown" "I") (by decide +kernel)) (fun _ h9 => h9) rfl (by decide +kernel) rfl rfl (Nat.le_of_ble_eq_true rfl) dX7_level_28 (fun H locs hP hD hS => ?_)
    have hP : va_P D vwCl (wN κ q 1 kc cp cn ro kn lv be) H := hP
    have hD : va_D A (wN κ q 1 kc cp cn ro kn lv be) := hD
    refine lv_aload_n hx hb dX7_level_31 rfl (lv_at hl 0 rfl) ?_
    refine va_get (D := D) (ci := 7) (v := .int 1) (C := RX7) (T := TX7) (N := 15) hx hb hts (iwX7_level_7) hown hK.1 hP 0 rfl rfl 0 (by decide) (hts (.fieldLink RX7 47 "InverterGraphsModel" "thrown" "I") (by decide +kernel)) (fun _ h9 => h9) rfl dX7_level_32 ?_
    refine lv_if_le (tgt := 40) hx hb dX7_level_35 (by decide) (fun c_35 => ?_) (fun c_35 => ?_)
    · skip
      exfalso; revert c_35; decide
    · skip
      refine lv_iconst (v := 0) hx hb dX7_level_38 (by decide) ?_
      exact W.iret (v := 0) hx hb hr (fun t ht hW => ⟨⟨0, (1, lv), rfl, (by unfold m_level; rw [if_pos c_6]), by rw [ht]; exact hP, hD⟩, hS.F ht⟩) hS.2.2 dX7_level_39
theorem iwX7_count_7 : ∀ w ∈ wsX70, w ∈ wsX7_count := by decide +kernel
set_option maxHeartbeats 4000000 in
set_option maxRecDepth 100000 in
theorem c_X7_count (l : Launch) (D : va_G) (κ : Nat → ClassId) (sz : Nat) (q : Nat → Nat) (th : Int32) (kc : KC) (cp : Nat → Int32) (cn : Nat) (ro : Nat → Int64) (kn : Int32) (lv be : Nat → Int32) (p0 : Int32) (K : Nat) (hnd : mnd kc ≤ 400) (hoc : moc kc ≤ 40) (hcn : cn ≤ 30) (hlt : ∀ j, j < mnd kc → mso kc j = 2 → mon kc j < 2 * mnd kc ∧ mtw kc j < 2 * mnd kc) (hfin : k_itF (m_fF kc) (fun _ => True) K 1 (k_fillF lv 0 (mnd kc))) : k_mui (S := (Int32 × (Nat → Int32))) l yX7_count wsX7_count 1 25 0 0 D κ [.ref (q 0), .int p0] (wN κ q th kc cp cn ro kn lv be) sz (fun r u => (r, u) = m_count K kc lv cn p0) (fun u => wN κ q u.1 kc cp cn ro kn u.2 be) := by
  refine Met.ofW (cc := cX7_count) (maxL := 2) (ret := (some .int)) (by decide) rfl ?_
  intro p e s m args below meth c s₁ B hml hv
  obtain ⟨rfl, hsz, hK, hP, hD0⟩ := hv
  have hx := B.exec
  have hb := B.bytes
  have hr := B.returns
  have hts := atoms_spec (ws := wsX7_count) B.pre
  have hown : s.vm.findClass RX7 = some m.cls := findClass_of_methodNamed B.named
  have hlocks := B.notSynchronized
  subst hsz
  have hD := hD0.self (sz := s.heap.size)
  generalize hAe : va_A (wN κ q th kc cp cn ro kn lv be) s.heap.size = A at hD ⊢
  have hA : ∀ q : Nat, s.heap.size ≤ q → A q := fun q h => by rw [← hAe]; exact Or.inr h
  have hS : va_S A s.heap s.heap [] := va_S.rf
  have hP : va_P D vwCl (wN κ q th kc cp cn ro kn lv be) s.heap := hP
  have hl := lv_entry ([.ref (q 0), .int p0]) (n := 2) (Nat.le_of_ble_eq_true rfl)
  rw [lg_entry_eq]
  generalize (lg_sl ([.ref (q 0), .int p0]) ++ List.replicate (2 - (lg_sl ([.ref (q 0), .int p0])).length) Slot.unset).toArray = ls at hl ⊢
  have hl : lv_has ls 2 [(0, .ref (q 0)), (1, .int p0)] := hl
  refine lv_aload_n hx hb dX7_count_0 rfl (lv_at hl 0 rfl) ?_
  refine lv_iload_n hx hb dX7_count_1 rfl (lv_at hl 1 rfl) ?_
  refine lv_if_lt (tgt := 14) hx hb dX7_count_2 (by decide) (fun c_2 => ?_) (fun c_2 => ?_)
  · skip
    refine lv_iconst (v := 1) hx hb dX7_count_14 (by decide) ?_
    refine va_put (D := D) (ci := 7) (v := .int 1) (ty := .int) (C := RX7) (T := TX7) (N := 15) hx hb hts (iwX7_count_7) tyX7 tyX7_ok nmX7 hown hK.1 hP hD hS 0 rfl rfl 0 (by decide) (hts (.fieldLink RX7 47 "InverterGraphsModel" "thrown" "I") (by decide +kernel)) (fun _ h9 => h9) rfl (by decide +kernel) rfl rfl (Nat.le_of_ble_eq_true rfl) dX7_count_15 (fun H locs hP hD hS => ?_)
    have hP : va_P D vwCl (wN κ q 1 kc cp cn ro kn lv be) H := hP
    have hD : va_D A (wN κ q 1 kc cp cn ro kn lv be) := hD
    refine lv_aload_n hx hb dX7_count_18 rfl (lv_at hl 0 rfl) ?_
    refine va_get (D := D) (ci := 7) (v := .int 1) (C := RX7) (T := TX7) (N := 15) hx hb hts (iwX7_count_7) hown hK.1 hP 0 rfl rfl 0 (by decide) (hts (.fieldLink RX7 47 "InverterGraphsModel" "thrown" "I") (by decide +kernel)) (fun _ h9 => h9) rfl dX7_count_19 ?_
    refine lv_if_le (tgt := 27) hx hb dX7_count_22 (by decide) (fun c_22 => ?_) (fun c_22 => ?_)
    · skip
      exfalso; revert c_22; decide
    · skip
      refine lv_iconst (v := 0) hx hb dX7_count_25 (by decide) ?_
      exact W.iret (v := 0) hx hb hr (fun t ht hW => ⟨⟨0, (1, lv), rfl, (by unfold m_count; rw [if_pos c_2]), by rw [ht]; exact hP, hD⟩, hS.F ht⟩) hS.2.2 dX7_count_26
  · skip
    refine lv_iload_n hx hb dX7_count_5 rfl (lv_at hl 1 rfl) ?_
    refine lv_iconst (v := 5) hx hb dX7_count_6 (by decide) ?_
    refine lv_icmp_gt (tgt := 14) hx hb dX7_count_7 (by decide) (fun c_7 => ?_) (fun c_7 => ?_)
    · skip
      refine lv_iconst (v := 1) hx hb dX7_count_14 (by decide) ?_
      refine va_put (D := D) (ci := 7) (v := .int 1) (ty := .int) (C := RX7) (T := TX7) (N := 15) hx hb hts (iwX7_count_7) tyX7 tyX7_ok nmX7 hown hK.1 hP hD hS 0 rfl rfl 0 (by decide) (hts (.fieldLink RX7 47 "InverterGraphsModel" "thrown" "I") (by decide +kernel)) (fun _ h9 => h9) rfl (by decide +kernel) rfl rfl (Nat.le_of_ble_eq_true rfl) dX7_count_15 (fun H locs hP hD hS => ?_)
      have hP : va_P D vwCl (wN κ q 1 kc cp cn ro kn lv be) H := hP
      have hD : va_D A (wN κ q 1 kc cp cn ro kn lv be) := hD
      refine lv_aload_n hx hb dX7_count_18 rfl (lv_at hl 0 rfl) ?_
      refine va_get (D := D) (ci := 7) (v := .int 1) (C := RX7) (T := TX7) (N := 15) hx hb hts (iwX7_count_7) hown hK.1 hP 0 rfl rfl 0 (by decide) (hts (.fieldLink RX7 47 "InverterGraphsModel" "thrown" "I") (by decide +kernel)) (fun _ h9 => h9) rfl dX7_count_19 ?_
      refine lv_if_le (tgt := 27) hx hb dX7_count_22 (by decide) (fun c_22 => ?_) (fun c_22 => ?_)
      · skip
        exfalso; revert c_22; decide
      · skip
        refine lv_iconst (v := 0) hx hb dX7_count_25 (by decide) ?_
        exact W.iret (v := 0) hx hb hr (fun t ht hW => ⟨⟨0, (1, lv), rfl, (by unfold m_count; rw [if_neg c_2, if_pos c_7]), by rw [ht]; exact hP, hD⟩, hS.F ht⟩) hS.2.2 dX7_count_26
    · skip
      refine lv_iconst (v := 0) hx hb dX7_count_10 (by decide) ?_
      refine lv_goto (tgt := 15) hx hb dX7_count_11 (by decide) ?_
      refine va_put (D := D) (ci := 7) (v := .int 0) (ty := .int) (C := RX7) (T := TX7) (N := 15) hx hb hts (iwX7_count_7) tyX7 tyX7_ok nmX7 hown hK.1 hP hD hS 0 rfl rfl 0 (by decide) (hts (.fieldLink RX7 47 "InverterGraphsModel" "thrown" "I") (by decide +kernel)) (fun _ h9 => h9) rfl (by decide +kernel) rfl rfl (Nat.le_of_ble_eq_true rfl) dX7_count_15 (fun H locs hP hD hS => ?_)
      have hP : va_P D vwCl (wN κ q 0 kc cp cn ro kn lv be) H := hP
      have hD : va_D A (wN κ q 0 kc cp cn ro kn lv be) := hD
      refine lv_aload_n hx hb dX7_count_18 rfl (lv_at hl 0 rfl) ?_
      refine va_get (D := D) (ci := 7) (v := .int 0) (C := RX7) (T := TX7) (N := 15) hx hb hts (iwX7_count_7) hown hK.1 hP 0 rfl rfl 0 (by decide) (hts (.fieldLink RX7 47 "InverterGraphsModel" "thrown" "I") (by decide +kernel)) (fun _ h9 => h9) rfl dX7_count_19 ?_
      refine lv_if_le (tgt := 27) hx hb dX7_count_22 (by decide) (fun c_22 => ?_) (fun c_22 => ?_)
      · skip
        refine lv_aload_n hx hb dX7_count_27 rfl (lv_at hl 0 rfl) ?_
        refine k_cWUv (D := D) (κ := κ) (qc := (RX7, TX7, 15)) (ci := 7) (q0 := 0) ⟨hx, hb, hml, hown, hts⟩ (c_X7_findLevels l D κ _ q 0 kc cp cn ro kn lv be K (by omega) (by omega) (by omega) (by assumption) (by assumption)) (cwV 0 hts gX7_count_X7_findLevels rfl rfl rfl (by decide +kernel) ⟨Nat.le_of_ble_eq_true rfl, Nat.le_of_ble_eq_true rfl⟩) hK hP hD hS hA rfl rfl (As := []) (rest := []) rfl rfl hl.1 (Nat.le_of_ble_eq_true rfl) dX7_count_28 ⟨Nat.le_of_ble_eq_true rfl, Nat.le_of_ble_eq_true rfl⟩ (fun u_28 H locs hw9 hP hD hS => ?_)
        have hu_28 := hw9
        have hP : va_P D vwCl (wN κ q 0 kc cp cn ro kn u_28 be) H := hP
        have hD : va_D A (wN κ q 0 kc cp cn ro kn u_28 be) := hD
        refine lv_iload_n hx hb dX7_count_31 rfl (lv_at hl 1 rfl) ?_
        refine lv_if_ne (tgt := 42) hx hb dX7_count_32 (by decide) (fun c_32 => ?_) (fun c_32 => ?_)
        · skip
          refine lv_iload_n hx hb dX7_count_42 rfl (lv_at hl 1 rfl) ?_
          refine lv_iconst (v := 1) hx hb dX7_count_43 (by decide) ?_
          refine lv_icmp_ne (tgt := 55) hx hb dX7_count_44 (by decide) (fun c_44 => ?_) (fun c_44 => ?_)
          · skip
            refine lv_iload_n hx hb dX7_count_55 rfl (lv_at hl 1 rfl) ?_
            refine lv_iconst (v := 2) hx hb dX7_count_56 (by decide) ?_
            refine lv_icmp_ne (tgt := 67) hx hb dX7_count_57 (by decide) (fun c_57 => ?_) (fun c_57 => ?_)
            · skip
              refine lv_iload_n hx hb dX7_count_67 rfl (lv_at hl 1 rfl) ?_
              refine lv_iconst (v := 3) hx hb dX7_count_68 (by decide) ?_
              refine lv_icmp_ne (tgt := 80) hx hb dX7_count_69 (by decide) (fun c_69 => ?_) (fun c_69 => ?_)
              · skip
                refine lv_iload_n hx hb dX7_count_80 rfl (lv_at hl 1 rfl) ?_
                refine lv_iconst (v := 4) hx hb dX7_count_81 (by decide) ?_
                refine lv_icmp_ne (tgt := 92) hx hb dX7_count_82 (by decide) (fun c_82 => ?_) (fun c_82 => ?_)
                · skip
                  refine lv_aload_n hx hb dX7_count_92 rfl (lv_at hl 0 rfl) ?_
                  refine k_cRO (D := D) (κ := κ) (qc := (RX7, TX7, 15)) (ci := 7) (q0 := 0) ⟨hx, hb, hml, hown, hts⟩ (c_X7_greatest l D κ q 0 kc cp cn ro kn u_28 be  (by omega) (by omega) (by omega) ) (cwV 0 hts gX7_count_X7_greatest rfl rfl rfl (by decide +kernel) ⟨Nat.le_of_ble_eq_true rfl, Nat.le_of_ble_eq_true rfl⟩) hK hP rfl rfl (As := []) (rest := []) rfl rfl hl.1 (Nat.le_of_ble_eq_true rfl) dX7_count_93 ⟨Nat.le_of_ble_eq_true rfl, Nat.le_of_ble_eq_true rfl⟩ (fun r hr => ?_)
                  subst hr
                  exact W.iret (v := m_gr u_28 (mnd kc)) hx hb hr (fun t ht hW => ⟨⟨m_gr u_28 (mnd kc), (0, u_28), rfl, (by unfold m_count; rw [if_neg c_2, if_neg c_7, if_neg c_32, if_neg c_44, if_neg c_57, if_neg c_69, if_neg c_82]; unfold m_lvF; rw [← hu_28]), by rw [ht]; exact hP, hD⟩, hS.F ht⟩) hS.2.2 dX7_count_96
                · skip
                  refine lv_aload_n hx hb dX7_count_85 rfl (lv_at hl 0 rfl) ?_
                  refine va_get (D := D) (ci := 7) (v := .int (nI cn)) (C := RX7) (T := TX7) (N := 15) hx hb hts (iwX7_count_7) hown hK.1 hP 0 rfl rfl 10 (by decide) (hts (.fieldLink RX7 50 "InverterGraphsModel" "copyCount" "I") (by decide +kernel)) (fun _ h9 => h9) rfl dX7_count_86 ?_
                  refine lv_goto (tgt := 96) hx hb dX7_count_89 (by decide) ?_
                  exact W.iret (v := nI cn) hx hb hr (fun t ht hW => ⟨⟨nI cn, (0, u_28), rfl, (by unfold m_count; rw [if_neg c_2, if_neg c_7, if_neg c_32, if_neg c_44, if_neg c_57, if_neg c_69, if_pos c_82]; unfold m_lvF; rw [← hu_28]), by rw [ht]; exact hP, hD⟩, hS.F ht⟩) hS.2.2 dX7_count_96
              · skip
                refine lv_aload_n hx hb dX7_count_72 rfl (lv_at hl 0 rfl) ?_
                refine lv_iconst (v := 3) hx hb dX7_count_73 (by decide) ?_
                refine k_cRO (D := D) (κ := κ) (qc := (RX7, TX7, 15)) (ci := 7) (q0 := 0) ⟨hx, hb, hml, hown, hts⟩ (c_X7_howMany l D κ q 0 kc cp cn ro kn u_28 be 3 (by omega) (by omega) (by omega) ) (cwV 1 hts gX7_count_X7_howMany rfl rfl rfl (by decide +kernel) ⟨Nat.le_of_ble_eq_true rfl, Nat.le_of_ble_eq_true rfl⟩) hK hP rfl rfl (As := [.int 3]) (rest := []) rfl rfl hl.1 (Nat.le_of_ble_eq_true rfl) dX7_count_74 ⟨Nat.le_of_ble_eq_true rfl, Nat.le_of_ble_eq_true rfl⟩ (fun r hr => ?_)
                subst hr
                refine lv_goto (tgt := 96) hx hb dX7_count_77 (by decide) ?_
                exact W.iret (v := m_cnt kc 3 (mnd kc)) hx hb hr (fun t ht hW => ⟨⟨m_cnt kc 3 (mnd kc), (0, u_28), rfl, (by unfold m_count; rw [if_neg c_2, if_neg c_7, if_neg c_32, if_neg c_44, if_neg c_57, if_pos c_69]; unfold m_lvF; rw [← hu_28]), by rw [ht]; exact hP, hD⟩, hS.F ht⟩) hS.2.2 dX7_count_96
            · skip
              refine lv_aload_n hx hb dX7_count_60 rfl (lv_at hl 0 rfl) ?_
              refine va_get (D := D) (ci := 7) (v := .int (nI (moc kc))) (C := RX7) (T := TX7) (N := 15) hx hb hts (iwX7_count_7) hown hK.1 hP 0 rfl rfl 8 (by decide) (hts (.fieldLink RX7 54 "InverterGraphsModel" "outputCount" "I") (by decide +kernel)) (fun _ h9 => h9) rfl dX7_count_61 ?_
              refine lv_goto (tgt := 96) hx hb dX7_count_64 (by decide) ?_
              exact W.iret (v := nI (moc kc)) hx hb hr (fun t ht hW => ⟨⟨nI (moc kc), (0, u_28), rfl, (by unfold m_count; rw [if_neg c_2, if_neg c_7, if_neg c_32, if_neg c_44, if_pos c_57]; unfold m_lvF; rw [← hu_28]), by rw [ht]; exact hP, hD⟩, hS.F ht⟩) hS.2.2 dX7_count_96
          · skip
            refine lv_aload_n hx hb dX7_count_47 rfl (lv_at hl 0 rfl) ?_
            refine lv_iconst (v := 1) hx hb dX7_count_48 (by decide) ?_
            refine k_cRO (D := D) (κ := κ) (qc := (RX7, TX7, 15)) (ci := 7) (q0 := 0) ⟨hx, hb, hml, hown, hts⟩ (c_X7_howMany l D κ q 0 kc cp cn ro kn u_28 be 1 (by omega) (by omega) (by omega) ) (cwV 1 hts gX7_count_X7_howMany rfl rfl rfl (by decide +kernel) ⟨Nat.le_of_ble_eq_true rfl, Nat.le_of_ble_eq_true rfl⟩) hK hP rfl rfl (As := [.int 1]) (rest := []) rfl rfl hl.1 (Nat.le_of_ble_eq_true rfl) dX7_count_49 ⟨Nat.le_of_ble_eq_true rfl, Nat.le_of_ble_eq_true rfl⟩ (fun r hr => ?_)
            subst hr
            refine lv_goto (tgt := 96) hx hb dX7_count_52 (by decide) ?_
            exact W.iret (v := m_cnt kc 1 (mnd kc)) hx hb hr (fun t ht hW => ⟨⟨m_cnt kc 1 (mnd kc), (0, u_28), rfl, (by unfold m_count; rw [if_neg c_2, if_neg c_7, if_neg c_32, if_pos c_44]; unfold m_lvF; rw [← hu_28]), by rw [ht]; exact hP, hD⟩, hS.F ht⟩) hS.2.2 dX7_count_96
        · skip
          refine lv_aload_n hx hb dX7_count_35 rfl (lv_at hl 0 rfl) ?_
          refine va_get (D := D) (ci := 7) (v := .int (nI (mnd kc))) (C := RX7) (T := TX7) (N := 15) hx hb hts (iwX7_count_7) hown hK.1 hP 0 rfl rfl 5 (by decide) (hts (.fieldLink RX7 43 "InverterGraphsModel" "nodes" "I") (by decide +kernel)) (fun _ h9 => h9) rfl dX7_count_36 ?_
          refine lv_goto (tgt := 96) hx hb dX7_count_39 (by decide) ?_
          exact W.iret (v := nI (mnd kc)) hx hb hr (fun t ht hW => ⟨⟨nI (mnd kc), (0, u_28), rfl, (by unfold m_count; rw [if_neg c_2, if_neg c_7, if_pos c_32]; unfold m_lvF; rw [← hu_28]), by rw [ht]; exact hP, hD⟩, hS.F ht⟩) hS.2.2 dX7_count_96
      · skip
        exfalso; revert c_22; decide
theorem iwX7_size_7 : ∀ w ∈ wsX70, w ∈ wsX7_size := by decide +kernel
set_option maxHeartbeats 4000000 in
set_option maxRecDepth 100000 in
theorem c_X7_size (l : Launch) (D : va_G) (κ : Nat → ClassId) (sz : Nat) (q : Nat → Nat) (th : Int32) (kc : KC) (cp : Nat → Int32) (cn : Nat) (ro : Nat → Int64) (kn : Int32) (lv be : Nat → Int32)  (hnd : mnd kc ≤ 400) (hoc : moc kc ≤ 40) (hcn : cn ≤ 30) : k_mui (S := Int32) l yX7_size wsX7_size 1 23 0 0 D κ [.ref (q 0)] (wN κ q th kc cp cn ro kn lv be) sz (fun r u => r = m_cnt kc 2 (mnd kc) ∧ u = 0) (fun u => wN κ q u kc cp cn ro kn lv be) := by
  refine Met.ofW (cc := cX7_size) (maxL := 1) (ret := (some .int)) (by decide) rfl ?_
  intro p e s m args below meth c s₁ B hml hv
  obtain ⟨rfl, hsz, hK, hP, hD0⟩ := hv
  have hx := B.exec
  have hb := B.bytes
  have hr := B.returns
  have hts := atoms_spec (ws := wsX7_size) B.pre
  have hown : s.vm.findClass RX7 = some m.cls := findClass_of_methodNamed B.named
  have hlocks := B.notSynchronized
  subst hsz
  have hD := hD0.self (sz := s.heap.size)
  generalize hAe : va_A (wN κ q th kc cp cn ro kn lv be) s.heap.size = A at hD ⊢
  have hA : ∀ q : Nat, s.heap.size ≤ q → A q := fun q h => by rw [← hAe]; exact Or.inr h
  have hS : va_S A s.heap s.heap [] := va_S.rf
  have hP : va_P D vwCl (wN κ q th kc cp cn ro kn lv be) s.heap := hP
  have hl := lv_entry ([.ref (q 0)]) (n := 1) (Nat.le_of_ble_eq_true rfl)
  rw [lg_entry_eq]
  generalize (lg_sl ([.ref (q 0)]) ++ List.replicate (1 - (lg_sl ([.ref (q 0)])).length) Slot.unset).toArray = ls at hl ⊢
  have hl : lv_has ls 1 [(0, .ref (q 0))] := hl
  refine lv_aload_n hx hb dX7_size_0 rfl (lv_at hl 0 rfl) ?_
  refine lv_iconst (v := 0) hx hb dX7_size_1 (by decide) ?_
  refine va_put (D := D) (ci := 7) (v := .int 0) (ty := .int) (C := RX7) (T := TX7) (N := 15) hx hb hts (iwX7_size_7) tyX7 tyX7_ok nmX7 hown hK.1 hP hD hS 0 rfl rfl 0 (by decide) (hts (.fieldLink RX7 47 "InverterGraphsModel" "thrown" "I") (by decide +kernel)) (fun _ h9 => h9) rfl (by decide +kernel) rfl rfl (Nat.le_of_ble_eq_true rfl) dX7_size_2 (fun H locs hP hD hS => ?_)
  have hP : va_P D vwCl (wN κ q 0 kc cp cn ro kn lv be) H := hP
  have hD : va_D A (wN κ q 0 kc cp cn ro kn lv be) := hD
  refine lv_aload_n hx hb dX7_size_5 rfl (lv_at hl 0 rfl) ?_
  refine lv_iconst (v := 2) hx hb dX7_size_6 (by decide) ?_
  refine k_cRO (D := D) (κ := κ) (qc := (RX7, TX7, 15)) (ci := 7) (q0 := 0) ⟨hx, hb, hml, hown, hts⟩ (c_X7_howMany l D κ q 0 kc cp cn ro kn lv be 2 (by omega) (by omega) (by omega) ) (cwV 1 hts gX7_size_X7_howMany rfl rfl rfl (by decide +kernel) ⟨Nat.le_of_ble_eq_true rfl, Nat.le_of_ble_eq_true rfl⟩) hK hP rfl rfl (As := [.int 2]) (rest := []) rfl rfl hl.1 (Nat.le_of_ble_eq_true rfl) dX7_size_7 ⟨Nat.le_of_ble_eq_true rfl, Nat.le_of_ble_eq_true rfl⟩ (fun r hr => ?_)
  subst hr
  exact W.iret (v := m_cnt kc 2 (mnd kc)) hx hb hr (fun t ht hW => ⟨⟨m_cnt kc 2 (mnd kc), 0, rfl, ⟨rfl, rfl⟩, by rw [ht]; exact hP, hD⟩, hS.F ht⟩) hS.2.2 dX7_size_10
theorem iwX7_fan_7 : ∀ w ∈ wsX70, w ∈ wsX7_fan := by decide +kernel
set_option maxHeartbeats 4000000 in
set_option maxRecDepth 100000 in
theorem c_X7_fan (l : Launch) (D : va_G) (κ : Nat → ClassId) (sz : Nat) (q : Nat → Nat) (th : Int32) (kc : KC) (cp : Nat → Int32) (cn : Nat) (ro : Nat → Int64) (kn : Int32) (lv be : Nat → Int32) (p0 : Int32) (hnd : mnd kc ≤ 400) (hoc : moc kc ≤ 40) (hcn : cn ≤ 30) (hbd : ∀ j, j < mnd kc → mon kc j < 800 ∧ mtw kc j < 800) (hbo : ∀ j, j < moc kc → mou kc j < 800) : k_mui (S := Int32) l yX7_fan wsX7_fan 1 21 0 0 D κ [.ref (q 0), .int p0] (wN κ q th kc cp cn ro kn lv be) sz (fun r u => (r, u) = m_fan kc p0) (fun u => wN κ q u kc cp cn ro kn lv be) := by
  refine Met.ofW (cc := cX7_fan) (maxL := 4) (ret := (some .int)) (by decide) rfl ?_
  intro p e s m args below meth c s₁ B hml hv
  obtain ⟨rfl, hsz, hK, hP, hD0⟩ := hv
  have hx := B.exec
  have hb := B.bytes
  have hr := B.returns
  have hts := atoms_spec (ws := wsX7_fan) B.pre
  have hown : s.vm.findClass RX7 = some m.cls := findClass_of_methodNamed B.named
  have hlocks := B.notSynchronized
  subst hsz
  have hD := hD0.self (sz := s.heap.size)
  generalize hAe : va_A (wN κ q th kc cp cn ro kn lv be) s.heap.size = A at hD ⊢
  have hA : ∀ q : Nat, s.heap.size ≤ q → A q := fun q h => by rw [← hAe]; exact Or.inr h
  have hS : va_S A s.heap s.heap [] := va_S.rf
  have hP : va_P D vwCl (wN κ q th kc cp cn ro kn lv be) s.heap := hP
  have hl := lv_entry ([.ref (q 0), .int p0]) (n := 4) (Nat.le_of_ble_eq_true rfl)
  rw [lg_entry_eq]
  generalize (lg_sl ([.ref (q 0), .int p0]) ++ List.replicate (4 - (lg_sl ([.ref (q 0), .int p0])).length) Slot.unset).toArray = ls at hl ⊢
  have hl : lv_has ls 4 [(0, .ref (q 0)), (1, .int p0)] := hl
  refine lv_aload_n hx hb dX7_fan_0 rfl (lv_at hl 0 rfl) ?_
  refine lv_aload_n hx hb dX7_fan_1 rfl (lv_at hl 0 rfl) ?_
  refine lv_iload_n hx hb dX7_fan_2 rfl (lv_at hl 1 rfl) ?_
  refine k_cRO (D := D) (κ := κ) (qc := (RX7, TX7, 15)) (ci := 7) (q0 := 0) ⟨hx, hb, hml, hown, hts⟩ (c_X7_was l D κ q th kc cp cn ro kn lv be p0 (by omega) (by omega) (by omega) ) (cwV 1 hts gX7_fan_X7_was rfl rfl rfl (by decide +kernel) ⟨Nat.le_of_ble_eq_true rfl, Nat.le_of_ble_eq_true rfl⟩) hK hP rfl rfl (As := [.int p0]) (rest := [.ref (q 0)]) rfl rfl hl.1 (Nat.le_of_ble_eq_true rfl) dX7_fan_3 ⟨Nat.le_of_ble_eq_true rfl, Nat.le_of_ble_eq_true rfl⟩ (fun r hr => ?_)
  subst hr
  refine lv_if_ne (tgt := 13) hx hb dX7_fan_6 (by decide) (fun c_6 => ?_) (fun c_6 => ?_)
  · skip
    obtain ⟨a, hva, rfl⟩ := m_was_ok hnd c_6
    refine lv_aload_n hx hb dX7_fan_13 rfl (lv_at hl 0 rfl) ?_
    refine va_get (D := D) (ci := 7) (v := .ref (q 1)) (C := RX7) (T := TX7) (N := 15) hx hb hts (iwX7_fan_7) hown hK.1 hP 0 rfl rfl 1 (by decide) (hts (.fieldLink RX7 7 "InverterGraphsModel" "sorts" "[I") (by decide +kernel)) (fun _ h9 => h9) rfl dX7_fan_14 ?_
    refine lv_iload_n hx hb dX7_fan_17 rfl (lv_at hl 1 rfl) ?_
    refine k_iald (D := D) (j := a) hx hb hK.1 hP 1 0 rfl rfl (by omega) (by omega) dX7_fan_18 ?_
    refine lv_iconst (v := 5) hx hb dX7_fan_19 (by decide) ?_
    refine lv_icmp_ne (tgt := 27) hx hb dX7_fan_20 (by decide) (fun c_20 => ?_) (fun c_20 => ?_)
    · skip
      refine lv_iconst (v := 0) hx hb dX7_fan_27 (by decide) ?_
      refine va_put (D := D) (ci := 7) (v := .int 0) (ty := .int) (C := RX7) (T := TX7) (N := 15) hx hb hts (iwX7_fan_7) tyX7 tyX7_ok nmX7 hown hK.1 hP hD hS 0 rfl rfl 0 (by decide) (hts (.fieldLink RX7 47 "InverterGraphsModel" "thrown" "I") (by decide +kernel)) (fun _ h9 => h9) rfl (by decide +kernel) rfl rfl (Nat.le_of_ble_eq_true rfl) dX7_fan_28 (fun H locs hP hD hS => ?_)
      have hP : va_P D vwCl (wN κ q 0 kc cp cn ro kn lv be) H := hP
      have hD : va_D A (wN κ q 0 kc cp cn ro kn lv be) := hD
      refine lv_iconst (v := 0) hx hb dX7_fan_31 (by decide) ?_
      refine lv_istore_n (lv' := [(2, .int 0), (0, .ref (q 0)), (1, .int (nI a))]) hx hb dX7_fan_32 rfl hl (by decide) rfl (fun ls hl => ?_)
      refine lv_iconst (v := 0) hx hb dX7_fan_33 (by decide) ?_
      refine lv_istore_n (lv' := [(3, .int 0), (2, .int 0), (0, .ref (q 0)), (1, .int (nI a))]) hx hb dX7_fan_34 rfl hl (by decide) rfl (fun ls hl => ?_)
      have l2 : ∀ (k i : Nat) (H : Heap) (locs : List Loc) (ls : Array Slot), (i + k = moc kc) → va_P D vwCl (wN κ q 0 kc cp cn ro kn lv be) H → va_D A (wN κ q 0 kc cp cn ro kn lv be) → va_S A s.heap H locs → lv_has ls 4 [(0, .ref (q 0)), (1, .int (nI a)), (2, .int (m_fnO kc a i)), (3, .int (nI i))] → W p l e (headSpec wsX7_fan ({ frames := 1, cells := 0, slots := 0, locals := 21 })).room s m ([.ref (q 0), .int (nI a)] : List Value).toArray below meth c H locs 0 0 (MQ below (va_Qi (S := Int32) (fun r u => (r, u) = m_fan kc (nI a)) (fun u => k_B D A (wN κ q u kc cp cn ro kn lv be)) A) ([.ref (q 0), .int (nI a)] : List Value).toArray s 0 0 A) (F0 m 128 ls []) := by
        intro k
        induction k with
        | zero =>
          intro i H locs ls hi hP hD hS hl
          refine lv_aload_n hx hb dX7_fan_128 rfl (lv_at hl 0 rfl) ?_
          refine va_get (D := D) (ci := 7) (v := .int 0) (C := RX7) (T := TX7) (N := 15) hx hb hts (iwX7_fan_7) hown hK.1 hP 0 rfl rfl 0 (by decide) (hts (.fieldLink RX7 47 "InverterGraphsModel" "thrown" "I") (by decide +kernel)) (fun _ h9 => h9) rfl dX7_fan_129 ?_
          refine lv_if_ne (tgt := 169) hx hb dX7_fan_132 (by decide) (fun c_132 => ?_) (fun c_132 => ?_)
          · skip
            exfalso; revert c_132; decide
          · skip
            refine lv_iload_n hx hb dX7_fan_135 rfl (lv_at hl 3 rfl) ?_
            refine lv_aload_n hx hb dX7_fan_136 rfl (lv_at hl 0 rfl) ?_
            refine va_get (D := D) (ci := 7) (v := .int (nI (moc kc))) (C := RX7) (T := TX7) (N := 15) hx hb hts (iwX7_fan_7) hown hK.1 hP 0 rfl rfl 8 (by decide) (hts (.fieldLink RX7 54 "InverterGraphsModel" "outputCount" "I") (by decide +kernel)) (fun _ h9 => h9) rfl dX7_fan_137 ?_
            refine lv_icmp_ge (tgt := 169) hx hb dX7_fan_140 (by decide) (fun c_140 => ?_) (fun c_140 => ?_)
            · skip
              have c_140 : (moc kc) ≤ i := (nI_leI (a := (moc kc)) (b := i) (by omega) (by omega)).mp c_140
              have e9 : moc kc = i := by omega
              subst e9
              refine lv_iload_n hx hb dX7_fan_169 rfl (lv_at hl 2 rfl) ?_
              exact W.iret (v := m_fnO kc a (moc kc)) hx hb hr (fun t ht hW => ⟨⟨m_fnO kc a (moc kc), 0, rfl, (by unfold m_fan; rw [nI_clamp (show a < 2 ^ 31 by omega), if_neg c_6, if_neg c_20]), by rw [ht]; exact hP, hD⟩, hS.F ht⟩) hS.2.2 dX7_fan_170
            · skip
              have c_140 : ¬ ((moc kc) ≤ i) := fun h9 => c_140 ((nI_leI (a := (moc kc)) (b := i) (by omega) (by omega)).mpr h9)
              exfalso; omega
        | succ k ih =>
          intro i H locs ls hi hP hD hS hl
          refine lv_aload_n hx hb dX7_fan_128 rfl (lv_at hl 0 rfl) ?_
          refine va_get (D := D) (ci := 7) (v := .int 0) (C := RX7) (T := TX7) (N := 15) hx hb hts (iwX7_fan_7) hown hK.1 hP 0 rfl rfl 0 (by decide) (hts (.fieldLink RX7 47 "InverterGraphsModel" "thrown" "I") (by decide +kernel)) (fun _ h9 => h9) rfl dX7_fan_129 ?_
          refine lv_if_ne (tgt := 169) hx hb dX7_fan_132 (by decide) (fun c_132 => ?_) (fun c_132 => ?_)
          · skip
            exfalso; revert c_132; decide
          · skip
            refine lv_iload_n hx hb dX7_fan_135 rfl (lv_at hl 3 rfl) ?_
            refine lv_aload_n hx hb dX7_fan_136 rfl (lv_at hl 0 rfl) ?_
            refine va_get (D := D) (ci := 7) (v := .int (nI (moc kc))) (C := RX7) (T := TX7) (N := 15) hx hb hts (iwX7_fan_7) hown hK.1 hP 0 rfl rfl 8 (by decide) (hts (.fieldLink RX7 54 "InverterGraphsModel" "outputCount" "I") (by decide +kernel)) (fun _ h9 => h9) rfl dX7_fan_137 ?_
            refine lv_icmp_ge (tgt := 169) hx hb dX7_fan_140 (by decide) (fun c_140 => ?_) (fun c_140 => ?_)
            · skip
              have c_140 : (moc kc) ≤ i := (nI_leI (a := (moc kc)) (b := i) (by omega) (by omega)).mp c_140
              exfalso; omega
            · skip
              have c_140 : ¬ ((moc kc) ≤ i) := fun h9 => c_140 ((nI_leI (a := (moc kc)) (b := i) (by omega) (by omega)).mpr h9)
              have hx9 := hbo i (by omega)
              refine lv_aload_n hx hb dX7_fan_143 rfl (lv_at hl 0 rfl) ?_
              refine va_get (D := D) (ci := 7) (v := .ref (q 5)) (C := RX7) (T := TX7) (N := 15) hx hb hts (iwX7_fan_7) hown hK.1 hP 0 rfl rfl 6 (by decide) (hts (.fieldLink RX7 22 "InverterGraphsModel" "outputs" "[I") (by decide +kernel)) (fun _ h9 => h9) rfl dX7_fan_144 ?_
              refine lv_iload_n hx hb dX7_fan_147 rfl (lv_at hl 3 rfl) ?_
              refine k_iald (D := D) (j := i) hx hb hK.1 hP 5 0 rfl rfl (by omega) (by omega) dX7_fan_148 ?_
              refine lv_iconst (v := 2) hx hb dX7_fan_149 (by decide) ?_
              refine lv_idiv hx hb dX7_fan_150 (by decide) ?_
              refine lv_topi (nm_r (pk_div (a := (mou kc) i) (d := 2) (by omega) (by omega) (by omega)) ?_)
              refine lv_iload_n hx hb dX7_fan_151 rfl (lv_at hl 1 rfl) ?_
              refine lv_icmp_ne (tgt := 161) hx hb dX7_fan_152 (by decide) (fun c_152 => ?_) (fun c_152 => ?_)
              · skip
                have c_152 : ¬ ((((mou kc) i) / 2) = a) := fun h9 => c_152 ((nI_eq (a := (((mou kc) i) / 2)) (b := a) (by omega) (by omega)).mpr h9)
                refine lv_iload_n hx hb dX7_fan_161 rfl (lv_at hl 2 rfl) ?_
                refine lv_istore_n (lv' := [(2, .int (m_fnO kc a i)), (0, .ref (q 0)), (1, .int (nI a)), (3, .int (nI i))]) hx hb dX7_fan_162 rfl hl (by decide) rfl (fun ls hl => ?_)
                refine lv_iinc (v := nI (i + 1)) (lv' := [(3, .int (nI (i + 1))), (2, .int (m_fnO kc a i)), (0, .ref (q 0)), (1, .int (nI a))]) hx hb dX7_fan_163 hl (k := 3) rfl (nI_1 _) (by decide) rfl (fun ls hl => ?_)
                refine lv_goto (tgt := 128) hx hb dX7_fan_166 (by decide) ?_
                exact ih (i + 1) H locs ls (by omega) hP hD hS (by rw [show m_fnO kc a (i + 1) = m_fnO kc a i from by rw [m_fnO, if_neg c_152]]; exact lv_sub hl [2, 3, 1, 0] rfl)
              · skip
                have c_152 : (((mou kc) i) / 2) = a := (nI_eq (a := (((mou kc) i) / 2)) (b := a) (by omega) (by omega)).mp c_152
                refine lv_iload_n hx hb dX7_fan_155 rfl (lv_at hl 2 rfl) ?_
                refine lv_iconst (v := 1) hx hb dX7_fan_156 (by decide) ?_
                refine lv_iadd hx hb dX7_fan_157 ?_
                refine lv_goto (tgt := 162) hx hb dX7_fan_158 (by decide) ?_
                refine lv_istore_n (lv' := [(2, .int ((m_fnO kc a i) + 1)), (0, .ref (q 0)), (1, .int (nI a)), (3, .int (nI i))]) hx hb dX7_fan_162 rfl hl (by decide) rfl (fun ls hl => ?_)
                refine lv_iinc (v := nI (i + 1)) (lv' := [(3, .int (nI (i + 1))), (2, .int ((m_fnO kc a i) + 1)), (0, .ref (q 0)), (1, .int (nI a))]) hx hb dX7_fan_163 hl (k := 3) rfl (nI_1 _) (by decide) rfl (fun ls hl => ?_)
                refine lv_goto (tgt := 128) hx hb dX7_fan_166 (by decide) ?_
                exact ih (i + 1) H locs ls (by omega) hP hD hS (by rw [show m_fnO kc a (i + 1) = m_fnO kc a i + 1 from by rw [m_fnO, if_pos c_152]]; exact lv_sub hl [2, 3, 1, 0] rfl)
      have l1 : ∀ (k i : Nat) (H : Heap) (locs : List Loc) (ls : Array Slot), (i + k = mnd kc) → va_P D vwCl (wN κ q 0 kc cp cn ro kn lv be) H → va_D A (wN κ q 0 kc cp cn ro kn lv be) → va_S A s.heap H locs → lv_has ls 4 [(0, .ref (q 0)), (1, .int (nI a)), (2, .int (m_fnU kc a i)), (3, .int (nI i))] → W p l e (headSpec wsX7_fan ({ frames := 1, cells := 0, slots := 0, locals := 21 })).room s m ([.ref (q 0), .int (nI a)] : List Value).toArray below meth c H locs 0 0 (MQ below (va_Qi (S := Int32) (fun r u => (r, u) = m_fan kc (nI a)) (fun u => k_B D A (wN κ q u kc cp cn ro kn lv be)) A) ([.ref (q 0), .int (nI a)] : List Value).toArray s 0 0 A) (F0 m 35 ls []) := by
        intro k
        induction k with
        | zero =>
          intro i H locs ls hi hP hD hS hl
          refine lv_aload_n hx hb dX7_fan_35 rfl (lv_at hl 0 rfl) ?_
          refine va_get (D := D) (ci := 7) (v := .int 0) (C := RX7) (T := TX7) (N := 15) hx hb hts (iwX7_fan_7) hown hK.1 hP 0 rfl rfl 0 (by decide) (hts (.fieldLink RX7 47 "InverterGraphsModel" "thrown" "I") (by decide +kernel)) (fun _ h9 => h9) rfl dX7_fan_36 ?_
          refine lv_if_ne (tgt := 126) hx hb dX7_fan_39 (by decide) (fun c_39 => ?_) (fun c_39 => ?_)
          · skip
            exfalso; revert c_39; decide
          · skip
            refine lv_iload_n hx hb dX7_fan_42 rfl (lv_at hl 3 rfl) ?_
            refine lv_aload_n hx hb dX7_fan_43 rfl (lv_at hl 0 rfl) ?_
            refine va_get (D := D) (ci := 7) (v := .int (nI (mnd kc))) (C := RX7) (T := TX7) (N := 15) hx hb hts (iwX7_fan_7) hown hK.1 hP 0 rfl rfl 5 (by decide) (hts (.fieldLink RX7 43 "InverterGraphsModel" "nodes" "I") (by decide +kernel)) (fun _ h9 => h9) rfl dX7_fan_44 ?_
            refine lv_icmp_ge (tgt := 126) hx hb dX7_fan_47 (by decide) (fun c_47 => ?_) (fun c_47 => ?_)
            · skip
              have c_47 : (mnd kc) ≤ i := (nI_leI (a := (mnd kc)) (b := i) (by omega) (by omega)).mp c_47
              have e9 : mnd kc = i := by omega
              subst e9
              refine lv_iconst (v := 0) hx hb dX7_fan_126 (by decide) ?_
              refine lv_istore_n (lv' := [(3, .int 0), (0, .ref (q 0)), (1, .int (nI a)), (2, .int (m_fnU kc a (mnd kc)))]) hx hb dX7_fan_127 rfl hl (by decide) rfl (fun ls hl => ?_)
              exact l2 (moc kc) 0 H locs ls (by omega) hP hD hS (lv_sub hl [1, 2, 3, 0] rfl)
            · skip
              have c_47 : ¬ ((mnd kc) ≤ i) := fun h9 => c_47 ((nI_leI (a := (mnd kc)) (b := i) (by omega) (by omega)).mpr h9)
              exfalso; omega
        | succ k ih =>
          intro i H locs ls hi hP hD hS hl
          refine lv_aload_n hx hb dX7_fan_35 rfl (lv_at hl 0 rfl) ?_
          refine va_get (D := D) (ci := 7) (v := .int 0) (C := RX7) (T := TX7) (N := 15) hx hb hts (iwX7_fan_7) hown hK.1 hP 0 rfl rfl 0 (by decide) (hts (.fieldLink RX7 47 "InverterGraphsModel" "thrown" "I") (by decide +kernel)) (fun _ h9 => h9) rfl dX7_fan_36 ?_
          refine lv_if_ne (tgt := 126) hx hb dX7_fan_39 (by decide) (fun c_39 => ?_) (fun c_39 => ?_)
          · skip
            exfalso; revert c_39; decide
          · skip
            refine lv_iload_n hx hb dX7_fan_42 rfl (lv_at hl 3 rfl) ?_
            refine lv_aload_n hx hb dX7_fan_43 rfl (lv_at hl 0 rfl) ?_
            refine va_get (D := D) (ci := 7) (v := .int (nI (mnd kc))) (C := RX7) (T := TX7) (N := 15) hx hb hts (iwX7_fan_7) hown hK.1 hP 0 rfl rfl 5 (by decide) (hts (.fieldLink RX7 43 "InverterGraphsModel" "nodes" "I") (by decide +kernel)) (fun _ h9 => h9) rfl dX7_fan_44 ?_
            refine lv_icmp_ge (tgt := 126) hx hb dX7_fan_47 (by decide) (fun c_47 => ?_) (fun c_47 => ?_)
            · skip
              have c_47 : (mnd kc) ≤ i := (nI_leI (a := (mnd kc)) (b := i) (by omega) (by omega)).mp c_47
              exfalso; omega
            · skip
              have c_47 : ¬ ((mnd kc) ≤ i) := fun h9 => c_47 ((nI_leI (a := (mnd kc)) (b := i) (by omega) (by omega)).mpr h9)
              have hx9 := hbd i (by omega)
              refine lv_aload_n hx hb dX7_fan_50 rfl (lv_at hl 0 rfl) ?_
              refine va_get (D := D) (ci := 7) (v := .ref (q 1)) (C := RX7) (T := TX7) (N := 15) hx hb hts (iwX7_fan_7) hown hK.1 hP 0 rfl rfl 1 (by decide) (hts (.fieldLink RX7 7 "InverterGraphsModel" "sorts" "[I") (by decide +kernel)) (fun _ h9 => h9) rfl dX7_fan_51 ?_
              refine lv_iload_n hx hb dX7_fan_54 rfl (lv_at hl 3 rfl) ?_
              refine k_iald (D := D) (j := i) hx hb hK.1 hP 1 0 rfl rfl (by omega) (by omega) dX7_fan_55 ?_
              refine lv_iconst (v := 2) hx hb dX7_fan_56 (by decide) ?_
              have J_57 : ∀ z : Int32, z = (if (mso kc) i = 2 then if (((mon kc) i) / 2) = a then (m_fnU kc a i) + 1 else m_fnU kc a i else if (mso kc) i = 3 then if (((mon kc) i) / 2) = a then (m_fnU kc a i) + 1 else m_fnU kc a i else m_fnU kc a i) → W p l e (headSpec wsX7_fan ({ frames := 1, cells := 0, slots := 0, locals := 21 })).room s m ([.ref (q 0), .int (nI a)] : List Value).toArray below meth c H locs 0 0 (MQ below (va_Qi (S := Int32) (fun r u => (r, u) = m_fan kc (nI a)) (fun u => k_B D A (wN κ q u kc cp cn ro kn lv be)) A) ([.ref (q 0), .int (nI a)] : List Value).toArray s 0 0 A) (F0 m 89 ls [.int z]) := by
                intro z ez
                subst ez
                refine lv_istore_n (lv' := [(2, .int (if (mso kc) i = 2 then if (((mon kc) i) / 2) = a then (m_fnU kc a i) + 1 else m_fnU kc a i else if (mso kc) i = 3 then if (((mon kc) i) / 2) = a then (m_fnU kc a i) + 1 else m_fnU kc a i else m_fnU kc a i)), (0, .ref (q 0)), (1, .int (nI a)), (3, .int (nI i))]) hx hb dX7_fan_89 rfl hl (by decide) rfl (fun ls hl => ?_)
                refine lv_aload_n hx hb dX7_fan_90 rfl (lv_at hl 1 rfl) ?_
                refine va_get (D := D) (ci := 7) (v := .ref (q 1)) (C := RX7) (T := TX7) (N := 15) hx hb hts (iwX7_fan_7) hown hK.1 hP 0 rfl rfl 1 (by decide) (hts (.fieldLink RX7 7 "InverterGraphsModel" "sorts" "[I") (by decide +kernel)) (fun _ h9 => h9) rfl dX7_fan_91 ?_
                refine lv_iload_n hx hb dX7_fan_94 rfl (lv_at hl 3 rfl) ?_
                refine k_iald (D := D) (j := i) hx hb hK.1 hP 1 0 rfl rfl (by omega) (by omega) dX7_fan_95 ?_
                refine lv_iconst (v := 2) hx hb dX7_fan_96 (by decide) ?_
                have J_97 : ∀ z : Int32, z = (if (mso kc) i = 2 then if (((mtw kc) i) / 2) = a then (if (mso kc) i = 2 then if (((mon kc) i) / 2) = a then (m_fnU kc a i) + 1 else m_fnU kc a i else if (mso kc) i = 3 then if (((mon kc) i) / 2) = a then (m_fnU kc a i) + 1 else m_fnU kc a i else m_fnU kc a i) + 1 else (if (mso kc) i = 2 then if (((mon kc) i) / 2) = a then (m_fnU kc a i) + 1 else m_fnU kc a i else if (mso kc) i = 3 then if (((mon kc) i) / 2) = a then (m_fnU kc a i) + 1 else m_fnU kc a i else m_fnU kc a i) else (if (mso kc) i = 2 then if (((mon kc) i) / 2) = a then (m_fnU kc a i) + 1 else m_fnU kc a i else if (mso kc) i = 3 then if (((mon kc) i) / 2) = a then (m_fnU kc a i) + 1 else m_fnU kc a i else m_fnU kc a i)) → W p l e (headSpec wsX7_fan ({ frames := 1, cells := 0, slots := 0, locals := 21 })).room s m ([.ref (q 0), .int (nI a)] : List Value).toArray below meth c H locs 0 0 (MQ below (va_Qi (S := Int32) (fun r u => (r, u) = m_fan kc (nI a)) (fun u => k_B D A (wN κ q u kc cp cn ro kn lv be)) A) ([.ref (q 0), .int (nI a)] : List Value).toArray s 0 0 A) (F0 m 119 ls [.int z]) := by
                  intro z ez
                  subst ez
                  refine lv_istore_n (lv' := [(2, .int (if (mso kc) i = 2 then if (((mtw kc) i) / 2) = a then (if (mso kc) i = 2 then if (((mon kc) i) / 2) = a then (m_fnU kc a i) + 1 else m_fnU kc a i else if (mso kc) i = 3 then if (((mon kc) i) / 2) = a then (m_fnU kc a i) + 1 else m_fnU kc a i else m_fnU kc a i) + 1 else (if (mso kc) i = 2 then if (((mon kc) i) / 2) = a then (m_fnU kc a i) + 1 else m_fnU kc a i else if (mso kc) i = 3 then if (((mon kc) i) / 2) = a then (m_fnU kc a i) + 1 else m_fnU kc a i else m_fnU kc a i) else (if (mso kc) i = 2 then if (((mon kc) i) / 2) = a then (m_fnU kc a i) + 1 else m_fnU kc a i else if (mso kc) i = 3 then if (((mon kc) i) / 2) = a then (m_fnU kc a i) + 1 else m_fnU kc a i else m_fnU kc a i))), (0, .ref (q 0)), (1, .int (nI a)), (3, .int (nI i))]) hx hb dX7_fan_119 rfl hl (by decide) rfl (fun ls hl => ?_)
                  refine lv_iinc (v := nI (i + 1)) (lv' := [(3, .int (nI (i + 1))), (2, .int (if (mso kc) i = 2 then if (((mtw kc) i) / 2) = a then (if (mso kc) i = 2 then if (((mon kc) i) / 2) = a then (m_fnU kc a i) + 1 else m_fnU kc a i else if (mso kc) i = 3 then if (((mon kc) i) / 2) = a then (m_fnU kc a i) + 1 else m_fnU kc a i else m_fnU kc a i) + 1 else (if (mso kc) i = 2 then if (((mon kc) i) / 2) = a then (m_fnU kc a i) + 1 else m_fnU kc a i else if (mso kc) i = 3 then if (((mon kc) i) / 2) = a then (m_fnU kc a i) + 1 else m_fnU kc a i else m_fnU kc a i) else (if (mso kc) i = 2 then if (((mon kc) i) / 2) = a then (m_fnU kc a i) + 1 else m_fnU kc a i else if (mso kc) i = 3 then if (((mon kc) i) / 2) = a then (m_fnU kc a i) + 1 else m_fnU kc a i else m_fnU kc a i))), (0, .ref (q 0)), (1, .int (nI a))]) hx hb dX7_fan_120 hl (k := 3) rfl (nI_1 _) (by decide) rfl (fun ls hl => ?_)
                  refine lv_goto (tgt := 35) hx hb dX7_fan_123 (by decide) ?_
                  exact ih (i + 1) H locs ls (by omega) hP hD hS (lv_sub hl [2, 3, 1, 0] rfl)
                refine lv_icmp_ne (tgt := 118) hx hb dX7_fan_97 (by decide) (fun c_97 => ?_) (fun c_97 => ?_)
                · skip
                  refine lv_iload_n hx hb dX7_fan_118 rfl (lv_at hl 0 rfl) ?_
                  exact J_97 _ (by first | (rw [if_neg c_97]; done) | simp only [if_neg c_97])
                · skip
                  refine lv_aload_n hx hb dX7_fan_100 rfl (lv_at hl 1 rfl) ?_
                  refine va_get (D := D) (ci := 7) (v := .ref (q 3)) (C := RX7) (T := TX7) (N := 15) hx hb hts (iwX7_fan_7) hown hK.1 hP 0 rfl rfl 3 (by decide) (hts (.fieldLink RX7 16 "InverterGraphsModel" "twos" "[I") (by decide +kernel)) (fun _ h9 => h9) rfl dX7_fan_101 ?_
                  refine lv_iload_n hx hb dX7_fan_104 rfl (lv_at hl 3 rfl) ?_
                  refine k_iald (D := D) (j := i) hx hb hK.1 hP 3 0 rfl rfl (by omega) (by omega) dX7_fan_105 ?_
                  refine lv_iconst (v := 2) hx hb dX7_fan_106 (by decide) ?_
                  refine lv_idiv hx hb dX7_fan_107 (by decide) ?_
                  refine lv_topi (nm_r (pk_div (a := (mtw kc) i) (d := 2) (by omega) (by omega) (by omega)) ?_)
                  refine lv_iload_n hx hb dX7_fan_108 rfl (lv_at hl 2 rfl) ?_
                  refine lv_icmp_ne (tgt := 118) hx hb dX7_fan_109 (by decide) (fun c_109 => ?_) (fun c_109 => ?_)
                  · skip
                    have c_109 : ¬ ((((mtw kc) i) / 2) = a) := fun h9 => c_109 ((nI_eq (a := (((mtw kc) i) / 2)) (b := a) (by omega) (by omega)).mpr h9)
                    refine lv_iload_n hx hb dX7_fan_118 rfl (lv_at hl 0 rfl) ?_
                    exact J_97 _ (by first | (rw [if_pos c_97, if_neg c_109]; done) | simp only [if_pos c_97, if_neg c_109])
                  · skip
                    have c_109 : (((mtw kc) i) / 2) = a := (nI_eq (a := (((mtw kc) i) / 2)) (b := a) (by omega) (by omega)).mp c_109
                    refine lv_iload_n hx hb dX7_fan_112 rfl (lv_at hl 0 rfl) ?_
                    refine lv_iconst (v := 1) hx hb dX7_fan_113 (by decide) ?_
                    refine lv_iadd hx hb dX7_fan_114 ?_
                    refine lv_goto (tgt := 119) hx hb dX7_fan_115 (by decide) ?_
                    exact J_97 _ (by first | (rw [if_pos c_97, if_pos c_109]; done) | simp only [if_pos c_97, if_pos c_109])
              refine lv_icmp_eq (tgt := 70) hx hb dX7_fan_57 (by decide) (fun c_57 => ?_) (fun c_57 => ?_)
              · skip
                refine lv_aload_n hx hb dX7_fan_70 rfl (lv_at hl 0 rfl) ?_
                refine va_get (D := D) (ci := 7) (v := .ref (q 2)) (C := RX7) (T := TX7) (N := 15) hx hb hts (iwX7_fan_7) hown hK.1 hP 0 rfl rfl 2 (by decide) (hts (.fieldLink RX7 13 "InverterGraphsModel" "ones" "[I") (by decide +kernel)) (fun _ h9 => h9) rfl dX7_fan_71 ?_
                refine lv_iload_n hx hb dX7_fan_74 rfl (lv_at hl 3 rfl) ?_
                refine k_iald (D := D) (j := i) hx hb hK.1 hP 2 0 rfl rfl (by omega) (by omega) dX7_fan_75 ?_
                refine lv_iconst (v := 2) hx hb dX7_fan_76 (by decide) ?_
                refine lv_idiv hx hb dX7_fan_77 (by decide) ?_
                refine lv_topi (nm_r (pk_div (a := (mon kc) i) (d := 2) (by omega) (by omega) (by omega)) ?_)
                refine lv_iload_n hx hb dX7_fan_78 rfl (lv_at hl 1 rfl) ?_
                refine lv_icmp_ne (tgt := 88) hx hb dX7_fan_79 (by decide) (fun c_79 => ?_) (fun c_79 => ?_)
                · skip
                  have c_79 : ¬ ((((mon kc) i) / 2) = a) := fun h9 => c_79 ((nI_eq (a := (((mon kc) i) / 2)) (b := a) (by omega) (by omega)).mpr h9)
                  refine lv_iload_n hx hb dX7_fan_88 rfl (lv_at hl 2 rfl) ?_
                  exact J_57 _ (by first | (rw [if_pos c_57, if_neg c_79]; done) | simp only [if_pos c_57, if_neg c_79])
                · skip
                  have c_79 : (((mon kc) i) / 2) = a := (nI_eq (a := (((mon kc) i) / 2)) (b := a) (by omega) (by omega)).mp c_79
                  refine lv_iload_n hx hb dX7_fan_82 rfl (lv_at hl 2 rfl) ?_
                  refine lv_iconst (v := 1) hx hb dX7_fan_83 (by decide) ?_
                  refine lv_iadd hx hb dX7_fan_84 ?_
                  refine lv_goto (tgt := 89) hx hb dX7_fan_85 (by decide) ?_
                  exact J_57 _ (by first | (rw [if_pos c_57, if_pos c_79]; done) | simp only [if_pos c_57, if_pos c_79])
              · skip
                refine lv_aload_n hx hb dX7_fan_60 rfl (lv_at hl 0 rfl) ?_
                refine va_get (D := D) (ci := 7) (v := .ref (q 1)) (C := RX7) (T := TX7) (N := 15) hx hb hts (iwX7_fan_7) hown hK.1 hP 0 rfl rfl 1 (by decide) (hts (.fieldLink RX7 7 "InverterGraphsModel" "sorts" "[I") (by decide +kernel)) (fun _ h9 => h9) rfl dX7_fan_61 ?_
                refine lv_iload_n hx hb dX7_fan_64 rfl (lv_at hl 3 rfl) ?_
                refine k_iald (D := D) (j := i) hx hb hK.1 hP 1 0 rfl rfl (by omega) (by omega) dX7_fan_65 ?_
                refine lv_iconst (v := 3) hx hb dX7_fan_66 (by decide) ?_
                refine lv_icmp_ne (tgt := 88) hx hb dX7_fan_67 (by decide) (fun c_67 => ?_) (fun c_67 => ?_)
                · skip
                  refine lv_iload_n hx hb dX7_fan_88 rfl (lv_at hl 2 rfl) ?_
                  exact J_57 _ (by first | (rw [if_neg c_57, if_neg c_67]; done) | simp only [if_neg c_57, if_neg c_67])
                · skip
                  refine lv_aload_n hx hb dX7_fan_70 rfl (lv_at hl 0 rfl) ?_
                  refine va_get (D := D) (ci := 7) (v := .ref (q 2)) (C := RX7) (T := TX7) (N := 15) hx hb hts (iwX7_fan_7) hown hK.1 hP 0 rfl rfl 2 (by decide) (hts (.fieldLink RX7 13 "InverterGraphsModel" "ones" "[I") (by decide +kernel)) (fun _ h9 => h9) rfl dX7_fan_71 ?_
                  refine lv_iload_n hx hb dX7_fan_74 rfl (lv_at hl 3 rfl) ?_
                  refine k_iald (D := D) (j := i) hx hb hK.1 hP 2 0 rfl rfl (by omega) (by omega) dX7_fan_75 ?_
                  refine lv_iconst (v := 2) hx hb dX7_fan_76 (by decide) ?_
                  refine lv_idiv hx hb dX7_fan_77 (by decide) ?_
                  refine lv_topi (nm_r (pk_div (a := (mon kc) i) (d := 2) (by omega) (by omega) (by omega)) ?_)
                  refine lv_iload_n hx hb dX7_fan_78 rfl (lv_at hl 1 rfl) ?_
                  refine lv_icmp_ne (tgt := 88) hx hb dX7_fan_79 (by decide) (fun c_79 => ?_) (fun c_79 => ?_)
                  · skip
                    have c_79 : ¬ ((((mon kc) i) / 2) = a) := fun h9 => c_79 ((nI_eq (a := (((mon kc) i) / 2)) (b := a) (by omega) (by omega)).mpr h9)
                    refine lv_iload_n hx hb dX7_fan_88 rfl (lv_at hl 2 rfl) ?_
                    exact J_57 _ (by first | (rw [if_neg c_57, if_pos c_67, if_neg c_79]; done) | simp only [if_neg c_57, if_pos c_67, if_neg c_79])
                  · skip
                    have c_79 : (((mon kc) i) / 2) = a := (nI_eq (a := (((mon kc) i) / 2)) (b := a) (by omega) (by omega)).mp c_79
                    refine lv_iload_n hx hb dX7_fan_82 rfl (lv_at hl 2 rfl) ?_
                    refine lv_iconst (v := 1) hx hb dX7_fan_83 (by decide) ?_
                    refine lv_iadd hx hb dX7_fan_84 ?_
                    refine lv_goto (tgt := 89) hx hb dX7_fan_85 (by decide) ?_
                    exact J_57 _ (by first | (rw [if_neg c_57, if_pos c_67, if_pos c_79]; done) | simp only [if_neg c_57, if_pos c_67, if_pos c_79])
      exact l1 (mnd kc) 0 H locs ls (by omega) hP hD hS (lv_sub hl [2, 3, 1, 0] rfl)
    · skip
      refine lv_iconst (v := 2) hx hb dX7_fan_23 (by decide) ?_
      refine lv_goto (tgt := 28) hx hb dX7_fan_24 (by decide) ?_
      refine va_put (D := D) (ci := 7) (v := .int 2) (ty := .int) (C := RX7) (T := TX7) (N := 15) hx hb hts (iwX7_fan_7) tyX7 tyX7_ok nmX7 hown hK.1 hP hD hS 0 rfl rfl 0 (by decide) (hts (.fieldLink RX7 47 "InverterGraphsModel" "thrown" "I") (by decide +kernel)) (fun _ h9 => h9) rfl (by decide +kernel) rfl rfl (Nat.le_of_ble_eq_true rfl) dX7_fan_28 (fun H locs hP hD hS => ?_)
      have hP : va_P D vwCl (wN κ q 2 kc cp cn ro kn lv be) H := hP
      have hD : va_D A (wN κ q 2 kc cp cn ro kn lv be) := hD
      refine lv_iconst (v := 0) hx hb dX7_fan_31 (by decide) ?_
      refine lv_istore_n (lv' := [(2, .int 0), (0, .ref (q 0)), (1, .int (nI a))]) hx hb dX7_fan_32 rfl hl (by decide) rfl (fun ls hl => ?_)
      refine lv_iconst (v := 0) hx hb dX7_fan_33 (by decide) ?_
      refine lv_istore_n (lv' := [(3, .int 0), (2, .int 0), (0, .ref (q 0)), (1, .int (nI a))]) hx hb dX7_fan_34 rfl hl (by decide) rfl (fun ls hl => ?_)
      refine lv_aload_n hx hb dX7_fan_35 rfl (lv_at hl 2 rfl) ?_
      refine va_get (D := D) (ci := 7) (v := .int 2) (C := RX7) (T := TX7) (N := 15) hx hb hts (iwX7_fan_7) hown hK.1 hP 0 rfl rfl 0 (by decide) (hts (.fieldLink RX7 47 "InverterGraphsModel" "thrown" "I") (by decide +kernel)) (fun _ h9 => h9) rfl dX7_fan_36 ?_
      refine lv_if_ne (tgt := 126) hx hb dX7_fan_39 (by decide) (fun c_39 => ?_) (fun c_39 => ?_)
      · skip
        refine lv_iconst (v := 0) hx hb dX7_fan_126 (by decide) ?_
        refine lv_istore_n (lv' := [(3, .int 0), (2, .int 0), (0, .ref (q 0)), (1, .int (nI a))]) hx hb dX7_fan_127 rfl hl (by decide) rfl (fun ls hl => ?_)
        refine lv_aload_n hx hb dX7_fan_128 rfl (lv_at hl 2 rfl) ?_
        refine va_get (D := D) (ci := 7) (v := .int 2) (C := RX7) (T := TX7) (N := 15) hx hb hts (iwX7_fan_7) hown hK.1 hP 0 rfl rfl 0 (by decide) (hts (.fieldLink RX7 47 "InverterGraphsModel" "thrown" "I") (by decide +kernel)) (fun _ h9 => h9) rfl dX7_fan_129 ?_
        refine lv_if_ne (tgt := 169) hx hb dX7_fan_132 (by decide) (fun c_132 => ?_) (fun c_132 => ?_)
        · skip
          refine lv_iload_n hx hb dX7_fan_169 rfl (lv_at hl 1 rfl) ?_
          exact W.iret (v := 0) hx hb hr (fun t ht hW => ⟨⟨0, 2, rfl, (by unfold m_fan; rw [nI_clamp (show a < 2 ^ 31 by omega), if_neg c_6, if_pos c_20]), by rw [ht]; exact hP, hD⟩, hS.F ht⟩) hS.2.2 dX7_fan_170
        · skip
          exfalso; revert c_132; decide
      · skip
        exfalso; revert c_39; decide
  · skip
    refine lv_iconst (v := 1) hx hb dX7_fan_9 (by decide) ?_
    refine lv_goto (tgt := 28) hx hb dX7_fan_10 (by decide) ?_
    refine va_put (D := D) (ci := 7) (v := .int 1) (ty := .int) (C := RX7) (T := TX7) (N := 15) hx hb hts (iwX7_fan_7) tyX7 tyX7_ok nmX7 hown hK.1 hP hD hS 0 rfl rfl 0 (by decide) (hts (.fieldLink RX7 47 "InverterGraphsModel" "thrown" "I") (by decide +kernel)) (fun _ h9 => h9) rfl (by decide +kernel) rfl rfl (Nat.le_of_ble_eq_true rfl) dX7_fan_28 (fun H locs hP hD hS => ?_)
    have hP : va_P D vwCl (wN κ q 1 kc cp cn ro kn lv be) H := hP
    have hD : va_D A (wN κ q 1 kc cp cn ro kn lv be) := hD
    refine lv_iconst (v := 0) hx hb dX7_fan_31 (by decide) ?_
    refine lv_istore_n (lv' := [(2, .int 0), (0, .ref (q 0)), (1, .int p0)]) hx hb dX7_fan_32 rfl hl (by decide) rfl (fun ls hl => ?_)
    refine lv_iconst (v := 0) hx hb dX7_fan_33 (by decide) ?_
    refine lv_istore_n (lv' := [(3, .int 0), (2, .int 0), (0, .ref (q 0)), (1, .int p0)]) hx hb dX7_fan_34 rfl hl (by decide) rfl (fun ls hl => ?_)
    refine lv_aload_n hx hb dX7_fan_35 rfl (lv_at hl 2 rfl) ?_
    refine va_get (D := D) (ci := 7) (v := .int 1) (C := RX7) (T := TX7) (N := 15) hx hb hts (iwX7_fan_7) hown hK.1 hP 0 rfl rfl 0 (by decide) (hts (.fieldLink RX7 47 "InverterGraphsModel" "thrown" "I") (by decide +kernel)) (fun _ h9 => h9) rfl dX7_fan_36 ?_
    refine lv_if_ne (tgt := 126) hx hb dX7_fan_39 (by decide) (fun c_39 => ?_) (fun c_39 => ?_)
    · skip
      refine lv_iconst (v := 0) hx hb dX7_fan_126 (by decide) ?_
      refine lv_istore_n (lv' := [(3, .int 0), (2, .int 0), (0, .ref (q 0)), (1, .int p0)]) hx hb dX7_fan_127 rfl hl (by decide) rfl (fun ls hl => ?_)
      refine lv_aload_n hx hb dX7_fan_128 rfl (lv_at hl 2 rfl) ?_
      refine va_get (D := D) (ci := 7) (v := .int 1) (C := RX7) (T := TX7) (N := 15) hx hb hts (iwX7_fan_7) hown hK.1 hP 0 rfl rfl 0 (by decide) (hts (.fieldLink RX7 47 "InverterGraphsModel" "thrown" "I") (by decide +kernel)) (fun _ h9 => h9) rfl dX7_fan_129 ?_
      refine lv_if_ne (tgt := 169) hx hb dX7_fan_132 (by decide) (fun c_132 => ?_) (fun c_132 => ?_)
      · skip
        refine lv_iload_n hx hb dX7_fan_169 rfl (lv_at hl 1 rfl) ?_
        exact W.iret (v := 0) hx hb hr (fun t ht hW => ⟨⟨0, 1, rfl, (by unfold m_fan; rw [if_pos c_6]), by rw [ht]; exact hP, hD⟩, hS.F ht⟩) hS.2.2 dX7_fan_170
      · skip
        exfalso; revert c_132; decide
    · skip
      exfalso; revert c_39; decide
