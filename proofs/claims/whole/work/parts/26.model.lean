/-! THE REFERENCE, seventh: replace -/
def m_fod (c : KC) : Nat → Nat → Option Nat
  | 0, _ => none
  | k + 1, i => if mso c i = 2 then (if m_isRep c (mon c i) = 0 then (if m_isRep c (mtw c i) = 0 then m_fod c k (i + 1) else some i) else some i) else m_fod c k (i + 1)
def m_ok (K : Nat) (c : KC) : Prop := mnd c ≤ 400 ∧ moc c ≤ 40 ∧ (∀ j, j < mnd c → mso c j = 2 → mon c j < 2 * mnd c ∧ mtw c j < 2 * mnd c) ∧ (∀ j, j < mnd c → mso c j = 2 ∨ mso c j = 3 → m_stF c K (mon c j)) ∧ (∀ j, j < mnd c → mso c j = 2 → m_stF c K (mtw c j)) ∧ (∀ j, j < moc c → m_stF c K (mou c j))
def m_rL (K : Nat) : Nat → KC → KC
  | 0, c => c
  | k + 1, c => match m_fod c (mnd c) 0 with
    | none => c
    | some n => m_rL K k (m_change K n c)
termination_by k => k
def m_rlF (K : Nat) : Nat → KC → Prop
  | 0, c => m_ok K c ∧ m_fod c (mnd c) 0 = none
  | k + 1, c => m_ok K c ∧ (m_fod c (mnd c) 0 = none ∨ ∃ n, m_fod c (mnd c) 0 = some n ∧ m_rlF K k (m_change K n c))
theorem m_rlF_ok {K k : Nat} {c : KC} (h : m_rlF K k c) : m_ok K c := by
  cases k with
  | zero => exact h.1
  | succ k => exact h.1
theorem m_st_congr {c d : KC} (h1 : mso c = mso d) (h2 : mst c = mst d) : ∀ (k a : Nat), m_st c k a = m_st d k a := by
  intro k
  induction k with
  | zero => intro a; rw [m_st, m_st]
  | succ k ih =>
    intro a
    have e : m_stS c a = m_stS d a := by unfold m_stS; rw [h2]
    rw [m_st, m_st, h1, h2, e, ih]
theorem m_stF_congr {c d : KC} (h1 : mso c = mso d) (h2 : mst c = mst d) (h3 : mnd c = mnd d) : ∀ (k a : Nat), m_stF c k a → m_stF d k a := by
  intro k
  induction k with
  | zero => intro a h; exact ⟨h3 ▸ h.1, by unfold m_stop; rw [← h1, ← h2]; exact h.2⟩
  | succ k ih =>
    intro a h
    have e : m_stS c a = m_stS d a := by unfold m_stS; rw [h2]
    refine ⟨h3 ▸ h.1, h.2.imp (fun g => by unfold m_stop; rw [← h1, ← h2]; exact g) (fun g => ?_)⟩
    rw [e] at g
    exact ⟨g.1, ih _ g.2⟩
def m_rlt (K : Nat) (c : KC) (i : Nat) : Nat → Nat := fun j => if j < i ∧ mso c j = 3 then m_st c K (mon c j) else mon c j
theorem m_rlt_0 (K : Nat) (c : KC) : m_rlt K c 0 = mon c := by funext j; simp [m_rlt]
theorem m_rlt_at (K : Nat) (c : KC) (i : Nat) : m_rlt K c i i = mon c i := by simp [m_rlt]
theorem m_rlt_y {K : Nat} {c : KC} {i : Nat} (h : mso c i = 3) : k_un (m_rlt K c i) i (m_st c K (mon c i)) = m_rlt K c (i + 1) := by
  funext j
  by_cases g : j = i
  · subst g; simp [k_un, m_rlt, h]
  · by_cases g2 : j < i
    · simp [k_un, m_rlt, g, g2, show j < i + 1 from by omega]
    · simp [k_un, m_rlt, g, g2, show ¬ j < i + 1 from by omega]
theorem m_rlt_n {K : Nat} {c : KC} {i : Nat} (h : ¬ mso c i = 3) : k_un (m_rlt K c i) i (mon c i) = m_rlt K c (i + 1) := by
  funext j
  by_cases g : j = i
  · subst g; simp [k_un, m_rlt, h]
  · by_cases g2 : j < i
    · simp [k_un, m_rlt, g, g2, show j < i + 1 from by omega]
    · simp [k_un, m_rlt, g, g2, show ¬ j < i + 1 from by omega]
def m_rot (K : Nat) (c : KC) (i : Nat) : Nat → Nat := fun j => if j < i then m_st c K (mou c j) else mou c j
theorem m_rot_0 (K : Nat) (c : KC) : m_rot K c 0 = mou c := by funext j; simp [m_rot]
theorem m_rot_at (K : Nat) (c : KC) (i : Nat) : m_rot K c i i = mou c i := by simp [m_rot]
theorem m_rot_s (K : Nat) (c : KC) (i : Nat) : k_un (m_rot K c i) i (m_st c K (mou c i)) = m_rot K c (i + 1) := by
  funext j
  by_cases g : j = i
  · subst g; simp [k_un, m_rot]
  · by_cases g2 : j < i
    · simp [k_un, m_rot, g, g2, show j < i + 1 from by omega]
    · simp [k_un, m_rot, g, g2, show ¬ j < i + 1 from by omega]
def m_rpE (K : Nat) (c : KC) : KC := (mso c, m_rlt K c (mnd c), mtw c, mst c, mnd c, m_rot K c (moc c), mbo c, moc c)
def m_rpB (K : Nat) (kc : KC) (be : Nat → Int32) (b : Nat) : Nat → Int32 := k_it (m_cF kc) K 1 (m_cn0 be (b / 2) (mnd kc))
def m_rpZ (K K2 : Nat) (kc : KC) (cp : Nat → Int32) (cn : Nat) (kn : Int32) (be : Nat → Int32) (a b : Nat) : Int32 × KX × (Nat → Int32) :=
  if m_rpB K kc be b a = 0 then (0, m_sv kc (m_rpE K (m_rL K K2 (m_leave a (nI b) kc))) cp cn, m_rpB K kc be b) else (1, (0, kc, cp, cn, kn), m_rpB K kc be b)
def m_rpX (K K2 : Nat) (kc : KC) (cp : Nat → Int32) (cn : Nat) (kn : Int32) (be : Nat → Int32) (p0 p1 : Int32) : Int32 × KX × (Nat → Int32) :=
  if m_wrong kc p1 = 1 then (0, (1, kc, cp, cn, kn), be) else if m_wrong kc p1 ≤ 0 then m_rpZ K K2 kc cp cn kn be p0.toNatClampNeg p1.toNatClampNeg else (0, (2, kc, cp, cn, kn), be)
def m_replace (K K2 : Nat) (kc : KC) (cp : Nat → Int32) (cn : Nat) (kn : Int32) (be : Nat → Int32) (p0 p1 : Int32) : Int32 × KX × (Nat → Int32) :=
  if m_was (mnd kc) p0 = 0 then (0, (1, kc, cp, cn, kn), be) else if mso kc p0.toNatClampNeg = 1 then m_rpX K K2 kc cp cn kn be p0 p1 else if mso kc p0.toNatClampNeg = 2 then m_rpX K K2 kc cp cn kn be p0 p1 else
    (if m_wrong kc p1 = 1 then (0, (1, kc, cp, cn, kn), be) else (0, (2, kc, cp, cn, kn), be))
theorem iwX7_replace_7 : ∀ w ∈ wsX70, w ∈ wsX7_replace := by decide +kernel
set_option maxHeartbeats 4000000 in
set_option maxRecDepth 100000 in
theorem c_X7_replace (l : Launch) (D : va_G) (κ : Nat → ClassId) (sz : Nat) (q : Nat → Nat) (th : Int32) (kc : KC) (cp : Nat → Int32) (cn : Nat) (ro : Nat → Int64) (kn : Int32) (lv be : Nat → Int32) (p0 p1 : Int32) (K K2 : Nat) (hnd : mnd kc ≤ 400) (hoc : moc kc ≤ 40) (hcn : cn ≤ 30) (hlt : ∀ j, j < mnd kc → mso kc j = 2 → mon kc j < 2 * mnd kc ∧ mtw kc j < 2 * mnd kc) (hcf : ∀ t, t < 400 → k_itF (m_cF kc) (fun _ => True) K 1 (m_cn0 be t (mnd kc))) (hrl : ∀ a b, a < mnd kc → mso kc a = 1 ∨ mso kc a = 2 → b < 2 * mnd kc → mso kc (b / 2) ≠ 5 → k_it (m_cF kc) K 1 (m_cn0 be (b / 2) (mnd kc)) a = 0 → m_rlF K K2 (m_leave a (nI b) kc)) : k_mui (S := (KX × (Nat → Int32))) l yX7_replace wsX7_replace 2 49 0 0 D κ [.ref (q 0), .int p0, .int p1] (wN κ q th kc cp cn ro kn lv be) sz (fun r u => (r, u) = m_replace K K2 kc cp cn kn be p0 p1) (fun u => wN κ q u.1.1 u.1.2.1 u.1.2.2.1 u.1.2.2.2.1 ro u.1.2.2.2.2 lv u.2) := by
  refine Met.ofW (cc := cX7_replace) (maxL := 6) (ret := (some .int)) (by decide) rfl ?_
  intro p e s m args below meth c s₁ B hml hv
  obtain ⟨rfl, hsz, hK, hP, hD0⟩ := hv
  have hx := B.exec
  have hb := B.bytes
  have hr := B.returns
  have hts := atoms_spec (ws := wsX7_replace) B.pre
  have hown : s.vm.findClass RX7 = some m.cls := findClass_of_methodNamed B.named
  have hlocks := B.notSynchronized
  subst hsz
  have hD := hD0.self (sz := s.heap.size)
  generalize hAe : va_A (wN κ q th kc cp cn ro kn lv be) s.heap.size = A at hD ⊢
  have hA : ∀ q : Nat, s.heap.size ≤ q → A q := fun q h => by rw [← hAe]; exact Or.inr h
  have hS : va_S A s.heap s.heap [] := va_S.rf
  have hP : va_P D vwCl (wN κ q th kc cp cn ro kn lv be) s.heap := hP
  have hl := lv_entry ([.ref (q 0), .int p0, .int p1]) (n := 6) (Nat.le_of_ble_eq_true rfl)
  rw [lg_entry_eq]
  generalize (lg_sl ([.ref (q 0), .int p0, .int p1]) ++ List.replicate (6 - (lg_sl ([.ref (q 0), .int p0, .int p1])).length) Slot.unset).toArray = ls at hl ⊢
  have hl : lv_has ls 6 [(0, .ref (q 0)), (1, .int p0), (2, .int p1)] := hl
  refine lv_aload_n hx hb dX7_replace_0 rfl (lv_at hl 0 rfl) ?_
  refine lv_iload_n hx hb dX7_replace_1 rfl (lv_at hl 1 rfl) ?_
  refine k_cRO (D := D) (κ := κ) (qc := (RX7, TX7, 15)) (ci := 7) (q0 := 0) ⟨hx, hb, hml, hown, hts⟩ (c_X7_was l D κ q th kc cp cn ro kn lv be p0 (by omega) (by omega) (by omega) ) (cwV 1 hts gX7_replace_X7_was rfl rfl rfl (by decide +kernel) ⟨Nat.le_of_ble_eq_true rfl, Nat.le_of_ble_eq_true rfl⟩) hK hP rfl rfl (As := [.int p0]) (rest := []) rfl rfl hl.1 (Nat.le_of_ble_eq_true rfl) dX7_replace_2 ⟨Nat.le_of_ble_eq_true rfl, Nat.le_of_ble_eq_true rfl⟩ (fun r hr => ?_)
  subst hr
  refine lv_if_ne (tgt := 12) hx hb dX7_replace_5 (by decide) (fun c_5 => ?_) (fun c_5 => ?_)
  · skip
    obtain ⟨a, hva, rfl⟩ := m_was_ok hnd c_5
    refine lv_aload_n hx hb dX7_replace_12 rfl (lv_at hl 0 rfl) ?_
    refine va_get (D := D) (ci := 7) (v := .ref (q 1)) (C := RX7) (T := TX7) (N := 15) hx hb hts (iwX7_replace_7) hown hK.1 hP 0 rfl rfl 1 (by decide) (hts (.fieldLink RX7 7 "InverterGraphsModel" "sorts" "[I") (by decide +kernel)) (fun _ h9 => h9) rfl dX7_replace_13 ?_
    refine lv_iload_n hx hb dX7_replace_16 rfl (lv_at hl 1 rfl) ?_
    refine k_iald (D := D) (j := a) hx hb hK.1 hP 1 0 rfl rfl (by omega) (by omega) dX7_replace_17 ?_
    refine lv_iconst (v := 1) hx hb dX7_replace_18 (by decide) ?_
    refine lv_icmp_eq (tgt := 32) hx hb dX7_replace_19 (by decide) (fun c_19 => ?_) (fun c_19 => ?_)
    · skip
      refine lv_iconst (v := 0) hx hb dX7_replace_32 (by decide) ?_
      refine lv_goto (tgt := 37) hx hb dX7_replace_33 (by decide) ?_
      refine lv_istore_n (lv' := [(3, .int 0), (0, .ref (q 0)), (1, .int (nI a)), (2, .int p1)]) hx hb dX7_replace_37 rfl hl (by decide) rfl (fun ls hl => ?_)
      refine lv_aload_n hx hb dX7_replace_38 rfl (lv_at hl 1 rfl) ?_
      refine lv_iload_n hx hb dX7_replace_39 rfl (lv_at hl 0 rfl) ?_
      refine lv_iconst (v := 1) hx hb dX7_replace_40 (by decide) ?_
      refine lv_icmp_eq (tgt := 53) hx hb dX7_replace_41 (by decide) (fun c_41 => ?_) (fun c_41 => ?_)
      · skip
        exfalso; revert c_41; decide
      · skip
        refine lv_aload_n hx hb dX7_replace_44 rfl (lv_at hl 1 rfl) ?_
        refine lv_iload_n hx hb dX7_replace_45 rfl (lv_at hl 3 rfl) ?_
        refine k_cRO (D := D) (κ := κ) (qc := (RX7, TX7, 15)) (ci := 7) (q0 := 0) ⟨hx, hb, hml, hown, hts⟩ (c_X7_wrong l D κ q th kc cp cn ro kn lv be p1 (by omega) (by omega) (by omega) ) (cwV 1 hts gX7_replace_X7_wrong rfl rfl rfl (by decide +kernel) ⟨Nat.le_of_ble_eq_true rfl, Nat.le_of_ble_eq_true rfl⟩) hK hP rfl rfl (As := [.int p1]) (rest := [.ref (q 0)]) rfl rfl hl.1 (Nat.le_of_ble_eq_true rfl) dX7_replace_46 ⟨Nat.le_of_ble_eq_true rfl, Nat.le_of_ble_eq_true rfl⟩ (fun r hr => ?_)
        subst hr
        refine lv_iconst (v := 1) hx hb dX7_replace_49 (by decide) ?_
        refine lv_icmp_ne (tgt := 57) hx hb dX7_replace_50 (by decide) (fun c_50 => ?_) (fun c_50 => ?_)
        · skip
          refine lv_iload_n hx hb dX7_replace_57 rfl (lv_at hl 0 rfl) ?_
          refine lv_if_gt (tgt := 69) hx hb dX7_replace_58 (by decide) (fun c_58 => ?_) (fun c_58 => ?_)
          · skip
            exfalso; revert c_58; decide
          · skip
            refine lv_aload_n hx hb dX7_replace_61 rfl (lv_at hl 1 rfl) ?_
            refine lv_iload_n hx hb dX7_replace_62 rfl (lv_at hl 3 rfl) ?_
            refine k_cRO (D := D) (κ := κ) (qc := (RX7, TX7, 15)) (ci := 7) (q0 := 0) ⟨hx, hb, hml, hown, hts⟩ (c_X7_wrong l D κ q th kc cp cn ro kn lv be p1 (by omega) (by omega) (by omega) ) (cwV 1 hts gX7_replace_X7_wrong rfl rfl rfl (by decide +kernel) ⟨Nat.le_of_ble_eq_true rfl, Nat.le_of_ble_eq_true rfl⟩) hK hP rfl rfl (As := [.int p1]) (rest := [.ref (q 0)]) rfl rfl hl.1 (Nat.le_of_ble_eq_true rfl) dX7_replace_63 ⟨Nat.le_of_ble_eq_true rfl, Nat.le_of_ble_eq_true rfl⟩ (fun r hr => ?_)
            subst hr
            refine lv_if_le (tgt := 73) hx hb dX7_replace_66 (by decide) (fun c_66 => ?_) (fun c_66 => ?_)
            · skip
              refine lv_iconst (v := 0) hx hb dX7_replace_73 (by decide) ?_
              refine va_put (D := D) (ci := 7) (v := .int 0) (ty := .int) (C := RX7) (T := TX7) (N := 15) hx hb hts (iwX7_replace_7) tyX7 tyX7_ok nmX7 hown hK.1 hP hD hS 0 rfl rfl 0 (by decide) (hts (.fieldLink RX7 47 "InverterGraphsModel" "thrown" "I") (by decide +kernel)) (fun _ h9 => h9) rfl (by decide +kernel) rfl rfl (Nat.le_of_ble_eq_true rfl) dX7_replace_74 (fun H locs hP hD hS => ?_)
              have hP : va_P D vwCl (wN κ q 0 kc cp cn ro kn lv be) H := hP
              have hD : va_D A (wN κ q 0 kc cp cn ro kn lv be) := hD
              refine lv_aload_n hx hb dX7_replace_77 rfl (lv_at hl 1 rfl) ?_
              refine va_get (D := D) (ci := 7) (v := .int 0) (C := RX7) (T := TX7) (N := 15) hx hb hts (iwX7_replace_7) hown hK.1 hP 0 rfl rfl 0 (by decide) (hts (.fieldLink RX7 47 "InverterGraphsModel" "thrown" "I") (by decide +kernel)) (fun _ h9 => h9) rfl dX7_replace_78 ?_
              refine lv_if_le (tgt := 86) hx hb dX7_replace_81 (by decide) (fun c_81 => ?_) (fun c_81 => ?_)
              · skip
                obtain ⟨b, hvb, rfl, hs5⟩ := m_wrong_ok hnd (m_le1 c_66) c_66
                have hfc := hcf (b / 2) (by omega)
                refine lv_aload_n hx hb dX7_replace_86 rfl (lv_at hl 1 rfl) ?_
                refine lv_iload_n hx hb dX7_replace_87 rfl (lv_at hl 3 rfl) ?_
                refine lv_iconst (v := 2) hx hb dX7_replace_88 (by decide) ?_
                refine lv_idiv hx hb dX7_replace_89 (by decide) ?_
                refine lv_topi (nm_r (pk_div (a := b) (d := 2) (by omega) (by omega) (by omega)) ?_)
                refine k_cWUv (D := D) (κ := κ) (qc := (RX7, TX7, 15)) (ci := 7) (q0 := 0) ⟨hx, hb, hml, hown, hts⟩ (c_X7_cone l D κ _ q 0 kc cp cn ro kn lv be (b / 2) K (by omega) (by omega) (by omega) (by omega) (by assumption) (by assumption)) (cwV 1 hts gX7_replace_X7_cone rfl rfl rfl (by decide +kernel) ⟨Nat.le_of_ble_eq_true rfl, Nat.le_of_ble_eq_true rfl⟩) hK hP hD hS hA rfl rfl (As := [.int (nI (b / 2))]) (rest := []) rfl rfl hl.1 (Nat.le_of_ble_eq_true rfl) dX7_replace_90 ⟨Nat.le_of_ble_eq_true rfl, Nat.le_of_ble_eq_true rfl⟩ (fun u_90 H locs hw9 hP hD hS => ?_)
                have hu_90 := hw9
                have hP : va_P D vwCl (wN κ q 0 kc cp cn ro kn lv u_90) H := hP
                have hD : va_D A (wN κ q 0 kc cp cn ro kn lv u_90) := hD
                refine lv_aload_n hx hb dX7_replace_93 rfl (lv_at hl 1 rfl) ?_
                refine va_get (D := D) (ci := 7) (v := .ref (q 10)) (C := RX7) (T := TX7) (N := 15) hx hb hts (iwX7_replace_7) hown hK.1 hP 0 rfl rfl 14 (by decide) (hts (.fieldLink RX7 40 "InverterGraphsModel" "below" "[Z") (by decide +kernel)) (fun _ h9 => h9) rfl dX7_replace_94 ?_
                refine lv_iload_n hx hb dX7_replace_97 rfl (lv_at hl 2 rfl) ?_
                refine k_zald (D := D) (j := a) hx hb hK.1 hP 10 2 rfl rfl (by omega) (by omega) dX7_replace_98 ?_
                refine lv_if_eq (tgt := 104) hx hb dX7_replace_99 (by decide) (fun c_99 => ?_) (fun c_99 => ?_)
                · skip
                  have hrl9 := hrl a b hva (Or.inl c_19) hvb hs5 (by rw [← hu_90]; exact c_99)
                  refine lv_aload_n hx hb dX7_replace_104 rfl (lv_at hl 1 rfl) ?_
                  refine k_cWUv (D := D) (κ := κ) (qc := (RX7, TX7, 15)) (ci := 7) (q0 := 0) ⟨hx, hb, hml, hown, hts⟩ (c_X7_save l D κ _ q 0 kc cp cn ro kn lv u_90  (by omega) (by omega) (by omega)) (cwV 0 hts gX7_replace_X7_save rfl rfl rfl (by decide +kernel) ⟨Nat.le_of_ble_eq_true rfl, Nat.le_of_ble_eq_true rfl⟩) hK hP hD hS hA rfl rfl (As := []) (rest := []) rfl rfl hl.1 (Nat.le_of_ble_eq_true rfl) dX7_replace_105 ⟨Nat.le_of_ble_eq_true rfl, Nat.le_of_ble_eq_true rfl⟩ (fun u_105 H locs hw9 hP hD hS => ?_)
                  have hu_105 := hw9
                  have hq_105 : u_105.2 ≤ 30 := by rw [hu_105]; exact m_save_le _ _ (by omega)
                  have hP : va_P D vwCl (wN κ q 0 kc u_105.1 u_105.2 ro 0 lv u_90) H := hP
                  have hD : va_D A (wN κ q 0 kc u_105.1 u_105.2 ro 0 lv u_90) := hD
                  refine lv_aload_n hx hb dX7_replace_108 rfl (lv_at hl 1 rfl) ?_
                  refine lv_iload_n hx hb dX7_replace_109 rfl (lv_at hl 2 rfl) ?_
                  refine lv_iload_n hx hb dX7_replace_110 rfl (lv_at hl 3 rfl) ?_
                  refine k_cWUv (D := D) (κ := κ) (qc := (RX7, TX7, 15)) (ci := 7) (q0 := 0) ⟨hx, hb, hml, hown, hts⟩ (c_X7_leave l D κ _ q 0 kc u_105.1 u_105.2 ro 0 lv u_90 a (nI b) (by omega) (by omega) (by omega) (by omega)) (cwV 2 hts gX7_replace_X7_leave rfl rfl rfl (by decide +kernel) ⟨Nat.le_of_ble_eq_true rfl, Nat.le_of_ble_eq_true rfl⟩) hK hP hD hS hA rfl rfl (As := [.int (nI a), .int (nI b)]) (rest := []) rfl rfl hl.1 (Nat.le_of_ble_eq_true rfl) dX7_replace_111 ⟨Nat.le_of_ble_eq_true rfl, Nat.le_of_ble_eq_true rfl⟩ (fun _ H locs hw9 hP hD hS => ?_)
                  have hP : va_P D vwCl (wN κ q 0 (m_leave a (nI b) kc) u_105.1 u_105.2 ro 0 lv u_90) H := hP
                  have hD : va_D A (wN κ q 0 (m_leave a (nI b) kc) u_105.1 u_105.2 ro 0 lv u_90) := hD
                  have rest : ∀ (x : KC) (H : Heap) (locs : List Loc) (ls : Array Slot), (m_ok K x) → (m_rL K K2 (m_leave a (nI b) kc) = x) → va_P D vwCl (wN κ q 0 x u_105.1 u_105.2 ro 0 lv u_90) H → va_D A (wN κ q 0 x u_105.1 u_105.2 ro 0 lv u_90) → va_S A s.heap H locs → lv_has ls 6 [(0, .ref (q 0))] → W p l e (headSpec wsX7_replace ({ frames := 2, cells := 0, slots := 0, locals := 49 })).room s m ([.ref (q 0), .int (nI a), .int (nI b)] : List Value).toArray below meth c H locs 0 0 (MQ below (va_Qi (S := (KX × (Nat → Int32))) (fun r u => (r, u) = m_replace K K2 kc cp cn kn be (nI a) (nI b)) (fun u => k_B D A (wN κ q u.1.1 u.1.2.1 u.1.2.2.1 u.1.2.2.2.1 ro u.1.2.2.2.2 lv u.2)) A) ([.ref (q 0), .int (nI a), .int (nI b)] : List Value).toArray s 0 0 A) (F0 m 199 ls []) := by
                    intro x H locs ls hok9 hx8 hP hD hS hl
                    obtain ⟨hn1, ho1, hl1, hs1, hs2, hs3⟩ := hok9
                    have l9b : ∀ (k i : Nat) (H : Heap) (locs : List Loc) (ls : Array Slot), (i + k = moc x) → va_P D vwCl (wN κ q 0 (mso x, m_rlt K x (mnd x), mtw x, mst x, mnd x, m_rot K x i, mbo x, moc x) u_105.1 u_105.2 ro 0 lv u_90) H → va_D A (wN κ q 0 (mso x, m_rlt K x (mnd x), mtw x, mst x, mnd x, m_rot K x i, mbo x, moc x) u_105.1 u_105.2 ro 0 lv u_90) → va_S A s.heap H locs → lv_has ls 6 [(0, .ref (q 0)), (5, .int (nI i))] → W p l e (headSpec wsX7_replace ({ frames := 2, cells := 0, slots := 0, locals := 49 })).room s m ([.ref (q 0), .int (nI a), .int (nI b)] : List Value).toArray below meth c H locs 0 0 (MQ below (va_Qi (S := (KX × (Nat → Int32))) (fun r u => (r, u) = m_replace K K2 kc cp cn kn be (nI a) (nI b)) (fun u => k_B D A (wN κ q u.1.1 u.1.2.1 u.1.2.2.1 u.1.2.2.2.1 ro u.1.2.2.2.2 lv u.2)) A) ([.ref (q 0), .int (nI a), .int (nI b)] : List Value).toArray s 0 0 A) (F0 m 259 ls []) := by
                      intro k
                      induction k with
                      | zero =>
                        intro i H locs ls hi hP hD hS hl
                        refine lv_iload hx hb dX7_replace_259 (lv_at hl 1 rfl) ?_
                        refine lv_aload_n hx hb dX7_replace_261 rfl (lv_at hl 0 rfl) ?_
                        refine va_get (D := D) (ci := 7) (v := .int (nI (moc x))) (C := RX7) (T := TX7) (N := 15) hx hb hts (iwX7_replace_7) hown hK.1 hP 0 rfl rfl 8 (by decide) (hts (.fieldLink RX7 54 "InverterGraphsModel" "outputCount" "I") (by decide +kernel)) (fun _ h9 => h9) rfl dX7_replace_262 ?_
                        refine lv_icmp_ge (tgt := 292) hx hb dX7_replace_265 (by decide) (fun c_265 => ?_) (fun c_265 => ?_)
                        · skip
                          have c_265 : (moc x) ≤ i := (nI_leI (a := (moc x)) (b := i) (by omega) (by omega)).mp c_265
                          have e9 : moc x = i := by omega
                          subst e9
                          refine lv_iconst (v := 0) hx hb dX7_replace_292 (by decide) ?_
                          exact W.iret (v := 0) hx hb hr (fun t ht hW => ⟨⟨0, ((0, (mso x, m_rlt K x (mnd x), mtw x, mst x, mnd x, m_rot K x (moc x), mbo x, moc x), u_105.1, u_105.2, 0), u_90), rfl, (by unfold m_replace m_rpX; rw [nI_clamp (show a < 2 ^ 31 by omega), nI_clamp (show b < 2 ^ 31 by omega), if_neg c_5, if_pos c_19, if_neg c_50, if_pos c_66]; unfold m_rpZ m_rpB m_sv; rw [← hu_90, ← hu_105, if_pos c_99, hx8] <;> rfl), by rw [ht]; exact hP, hD⟩, hS.F ht⟩) hS.2.2 dX7_replace_293
                        · skip
                          have c_265 : ¬ ((moc x) ≤ i) := fun h9 => c_265 ((nI_leI (a := (moc x)) (b := i) (by omega) (by omega)).mpr h9)
                          exfalso; omega
                      | succ k ih =>
                        intro i H locs ls hi hP hD hS hl
                        refine lv_iload hx hb dX7_replace_259 (lv_at hl 1 rfl) ?_
                        refine lv_aload_n hx hb dX7_replace_261 rfl (lv_at hl 0 rfl) ?_
                        refine va_get (D := D) (ci := 7) (v := .int (nI (moc x))) (C := RX7) (T := TX7) (N := 15) hx hb hts (iwX7_replace_7) hown hK.1 hP 0 rfl rfl 8 (by decide) (hts (.fieldLink RX7 54 "InverterGraphsModel" "outputCount" "I") (by decide +kernel)) (fun _ h9 => h9) rfl dX7_replace_262 ?_
                        refine lv_icmp_ge (tgt := 292) hx hb dX7_replace_265 (by decide) (fun c_265 => ?_) (fun c_265 => ?_)
                        · skip
                          have c_265 : (moc x) ≤ i := (nI_leI (a := (moc x)) (b := i) (by omega) (by omega)).mp c_265
                          exfalso; omega
                        · skip
                          have c_265 : ¬ ((moc x) ≤ i) := fun h9 => c_265 ((nI_leI (a := (moc x)) (b := i) (by omega) (by omega)).mpr h9)
                          have hn8 : mnd (mso x, m_rlt K x (mnd x), mtw x, mst x, mnd x, m_rot K x i, mbo x, moc x) = mnd x := rfl
                          have ho8 : moc (mso x, m_rlt K x (mnd x), mtw x, mst x, mnd x, m_rot K x i, mbo x, moc x) = moc x := rfl
                          have hs9 : m_stF (mso x, m_rlt K x (mnd x), mtw x, mst x, mnd x, m_rot K x i, mbo x, moc x) K (mou x i) := m_stF_congr (c := x) (d := (mso x, m_rlt K x (mnd x), mtw x, mst x, mnd x, m_rot K x i, mbo x, moc x)) rfl rfl rfl K _ (hs3 i (by omega))
                          refine lv_aload_n hx hb dX7_replace_268 rfl (lv_at hl 0 rfl) ?_
                          refine va_get (D := D) (ci := 7) (v := .ref (q 5)) (C := RX7) (T := TX7) (N := 15) hx hb hts (iwX7_replace_7) hown hK.1 hP 0 rfl rfl 6 (by decide) (hts (.fieldLink RX7 22 "InverterGraphsModel" "outputs" "[I") (by decide +kernel)) (fun _ h9 => h9) rfl dX7_replace_269 ?_
                          refine lv_iload hx hb dX7_replace_272 (lv_at hl 1 rfl) ?_
                          refine lv_aload_n hx hb dX7_replace_274 rfl (lv_at hl 0 rfl) ?_
                          refine lv_aload_n hx hb dX7_replace_275 rfl (lv_at hl 0 rfl) ?_
                          refine va_get (D := D) (ci := 7) (v := .ref (q 5)) (C := RX7) (T := TX7) (N := 15) hx hb hts (iwX7_replace_7) hown hK.1 hP 0 rfl rfl 6 (by decide) (hts (.fieldLink RX7 22 "InverterGraphsModel" "outputs" "[I") (by decide +kernel)) (fun _ h9 => h9) rfl dX7_replace_276 ?_
                          refine lv_iload hx hb dX7_replace_279 (lv_at hl 1 rfl) ?_
                          refine k_iald (D := D) (j := i) hx hb hK.1 hP 5 0 rfl rfl (by omega) (by omega) dX7_replace_281 ?_
                          refine lv_topi (nm_r (show nI (m_rot K x i i) = nI (mou x i) by rw [m_rot_at]) ?_)
                          refine k_cRO (D := D) (κ := κ) (qc := (RX7, TX7, 15)) (ci := 7) (q0 := 0) ⟨hx, hb, hml, hown, hts⟩ (c_X7_standing l D κ q 0 (mso x, m_rlt K x (mnd x), mtw x, mst x, mnd x, m_rot K x i, mbo x, moc x) u_105.1 u_105.2 ro 0 lv u_90 (mou x i) K (by omega) (by omega) (by omega) (by assumption)) (cwV 1 hts gX7_replace_X7_standing rfl rfl rfl (by decide +kernel) ⟨Nat.le_of_ble_eq_true rfl, Nat.le_of_ble_eq_true rfl⟩) hK hP rfl rfl (As := [.int (nI (mou x i))]) (rest := [.int (nI i), .ref (q 5)]) rfl rfl hl.1 (Nat.le_of_ble_eq_true rfl) dX7_replace_282 ⟨Nat.le_of_ble_eq_true rfl, Nat.le_of_ble_eq_true rfl⟩ (fun r hr => ?_)
                          subst hr
                          refine lv_topi (nm_r (show nI (m_st (mso x, m_rlt K x (mnd x), mtw x, mst x, mnd x, m_rot K x i, mbo x, moc x) K (mou x i)) = nI (m_st x K (mou x i)) by rw [m_st_congr (c := (mso x, m_rlt K x (mnd x), mtw x, mst x, mnd x, m_rot K x i, mbo x, moc x)) (d := x) rfl rfl]) ?_)
                          refine k_iastN (D := D) (j := i) (x := m_st x K (mou x i)) hx hb hK.1 hP hD hS 5 0 rfl rfl (by omega) (by omega) dX7_replace_285 (fun H locs hP hD hS => ?_)
                          have hP : va_P D vwCl (wN κ q 0 (mso x, m_rlt K x (mnd x), mtw x, mst x, mnd x, k_un (m_rot K x i) i (m_st x K (mou x i)), mbo x, moc x) u_105.1 u_105.2 ro 0 lv u_90) H := hP
                          have hD : va_D A (wN κ q 0 (mso x, m_rlt K x (mnd x), mtw x, mst x, mnd x, k_un (m_rot K x i) i (m_st x K (mou x i)), mbo x, moc x) u_105.1 u_105.2 ro 0 lv u_90) := hD
                          refine lv_iinc (v := nI (i + 1)) (lv' := [(5, .int (nI (i + 1))), (0, .ref (q 0))]) hx hb dX7_replace_286 hl (k := 1) rfl (nI_1 _) (by decide) rfl (fun ls hl => ?_)
                          refine lv_goto (tgt := 259) hx hb dX7_replace_289 (by decide) ?_
                          exact ih (i + 1) H locs ls (by omega) (by rw [← m_rot_s]; exact hP) (by rw [← m_rot_s]; exact hD) hS (lv_sub hl [1, 0] rfl)
                    have l9a : ∀ (k i : Nat) (H : Heap) (locs : List Loc) (ls : Array Slot), (i + k = mnd x) → va_P D vwCl (wN κ q 0 (mso x, m_rlt K x i, mtw x, mst x, mnd x, mou x, mbo x, moc x) u_105.1 u_105.2 ro 0 lv u_90) H → va_D A (wN κ q 0 (mso x, m_rlt K x i, mtw x, mst x, mnd x, mou x, mbo x, moc x) u_105.1 u_105.2 ro 0 lv u_90) → va_S A s.heap H locs → lv_has ls 6 [(0, .ref (q 0)), (5, .int (nI i))] → W p l e (headSpec wsX7_replace ({ frames := 2, cells := 0, slots := 0, locals := 49 })).room s m ([.ref (q 0), .int (nI a), .int (nI b)] : List Value).toArray below meth c H locs 0 0 (MQ below (va_Qi (S := (KX × (Nat → Int32))) (fun r u => (r, u) = m_replace K K2 kc cp cn kn be (nI a) (nI b)) (fun u => k_B D A (wN κ q u.1.1 u.1.2.1 u.1.2.2.1 u.1.2.2.2.1 ro u.1.2.2.2.2 lv u.2)) A) ([.ref (q 0), .int (nI a), .int (nI b)] : List Value).toArray s 0 0 A) (F0 m 202 ls []) := by
                      intro k
                      induction k with
                      | zero =>
                        intro i H locs ls hi hP hD hS hl
                        refine lv_iload hx hb dX7_replace_202 (lv_at hl 1 rfl) ?_
                        refine lv_aload_n hx hb dX7_replace_204 rfl (lv_at hl 0 rfl) ?_
                        refine va_get (D := D) (ci := 7) (v := .int (nI (mnd x))) (C := RX7) (T := TX7) (N := 15) hx hb hts (iwX7_replace_7) hown hK.1 hP 0 rfl rfl 5 (by decide) (hts (.fieldLink RX7 43 "InverterGraphsModel" "nodes" "I") (by decide +kernel)) (fun _ h9 => h9) rfl dX7_replace_205 ?_
                        refine lv_icmp_ge (tgt := 256) hx hb dX7_replace_208 (by decide) (fun c_208 => ?_) (fun c_208 => ?_)
                        · skip
                          have c_208 : (mnd x) ≤ i := (nI_leI (a := (mnd x)) (b := i) (by omega) (by omega)).mp c_208
                          have e9 : mnd x = i := by omega
                          subst e9
                          refine lv_iconst (v := 0) hx hb dX7_replace_256 (by decide) ?_
                          refine lv_istore (lv' := [(5, .int 0), (0, .ref (q 0))]) hx hb dX7_replace_257 hl (by decide) rfl (fun ls hl => ?_)
                          exact l9b (moc x) 0 H locs ls (by omega) (by rw [m_rot_0]; exact hP) (by rw [m_rot_0]; exact hD) hS (lv_sub hl [1, 0] rfl)
                        · skip
                          have c_208 : ¬ ((mnd x) ≤ i) := fun h9 => c_208 ((nI_leI (a := (mnd x)) (b := i) (by omega) (by omega)).mpr h9)
                          exfalso; omega
                      | succ k ih =>
                        intro i H locs ls hi hP hD hS hl
                        refine lv_iload hx hb dX7_replace_202 (lv_at hl 1 rfl) ?_
                        refine lv_aload_n hx hb dX7_replace_204 rfl (lv_at hl 0 rfl) ?_
                        refine va_get (D := D) (ci := 7) (v := .int (nI (mnd x))) (C := RX7) (T := TX7) (N := 15) hx hb hts (iwX7_replace_7) hown hK.1 hP 0 rfl rfl 5 (by decide) (hts (.fieldLink RX7 43 "InverterGraphsModel" "nodes" "I") (by decide +kernel)) (fun _ h9 => h9) rfl dX7_replace_205 ?_
                        refine lv_icmp_ge (tgt := 256) hx hb dX7_replace_208 (by decide) (fun c_208 => ?_) (fun c_208 => ?_)
                        · skip
                          have c_208 : (mnd x) ≤ i := (nI_leI (a := (mnd x)) (b := i) (by omega) (by omega)).mp c_208
                          exfalso; omega
                        · skip
                          have c_208 : ¬ ((mnd x) ≤ i) := fun h9 => c_208 ((nI_leI (a := (mnd x)) (b := i) (by omega) (by omega)).mpr h9)
                          refine lv_aload_n hx hb dX7_replace_211 rfl (lv_at hl 0 rfl) ?_
                          refine va_get (D := D) (ci := 7) (v := .ref (q 2)) (C := RX7) (T := TX7) (N := 15) hx hb hts (iwX7_replace_7) hown hK.1 hP 0 rfl rfl 2 (by decide) (hts (.fieldLink RX7 13 "InverterGraphsModel" "ones" "[I") (by decide +kernel)) (fun _ h9 => h9) rfl dX7_replace_212 ?_
                          refine lv_iload hx hb dX7_replace_215 (lv_at hl 1 rfl) ?_
                          refine lv_aload_n hx hb dX7_replace_217 rfl (lv_at hl 0 rfl) ?_
                          refine va_get (D := D) (ci := 7) (v := .ref (q 1)) (C := RX7) (T := TX7) (N := 15) hx hb hts (iwX7_replace_7) hown hK.1 hP 0 rfl rfl 1 (by decide) (hts (.fieldLink RX7 7 "InverterGraphsModel" "sorts" "[I") (by decide +kernel)) (fun _ h9 => h9) rfl dX7_replace_218 ?_
                          refine lv_iload hx hb dX7_replace_221 (lv_at hl 1 rfl) ?_
                          refine k_iald (D := D) (j := i) hx hb hK.1 hP 1 0 rfl rfl (by omega) (by omega) dX7_replace_223 ?_
                          refine lv_iconst (v := 3) hx hb dX7_replace_224 (by decide) ?_
                          refine lv_icmp_ne (tgt := 242) hx hb dX7_replace_225 (by decide) (fun c_225 => ?_) (fun c_225 => ?_)
                          · skip
                            refine lv_aload_n hx hb dX7_replace_242 rfl (lv_at hl 0 rfl) ?_
                            refine va_get (D := D) (ci := 7) (v := .ref (q 2)) (C := RX7) (T := TX7) (N := 15) hx hb hts (iwX7_replace_7) hown hK.1 hP 0 rfl rfl 2 (by decide) (hts (.fieldLink RX7 13 "InverterGraphsModel" "ones" "[I") (by decide +kernel)) (fun _ h9 => h9) rfl dX7_replace_243 ?_
                            refine lv_iload hx hb dX7_replace_246 (lv_at hl 1 rfl) ?_
                            refine k_iald (D := D) (j := i) hx hb hK.1 hP 2 0 rfl rfl (by omega) (by omega) dX7_replace_248 ?_
                            refine lv_topi (nm_r (show nI (m_rlt K x i i) = nI (mon x i) by rw [m_rlt_at]) ?_)
                            refine k_iastN (D := D) (j := i) (x := mon x i) hx hb hK.1 hP hD hS 2 0 rfl rfl (by omega) (by omega) dX7_replace_249 (fun H locs hP hD hS => ?_)
                            have hP : va_P D vwCl (wN κ q 0 (mso x, k_un (m_rlt K x i) i (mon x i), mtw x, mst x, mnd x, mou x, mbo x, moc x) u_105.1 u_105.2 ro 0 lv u_90) H := hP
                            have hD : va_D A (wN κ q 0 (mso x, k_un (m_rlt K x i) i (mon x i), mtw x, mst x, mnd x, mou x, mbo x, moc x) u_105.1 u_105.2 ro 0 lv u_90) := hD
                            refine lv_iinc (v := nI (i + 1)) (lv' := [(5, .int (nI (i + 1))), (0, .ref (q 0))]) hx hb dX7_replace_250 hl (k := 1) rfl (nI_1 _) (by decide) rfl (fun ls hl => ?_)
                            refine lv_goto (tgt := 202) hx hb dX7_replace_253 (by decide) ?_
                            exact ih (i + 1) H locs ls (by omega) (by rw [← m_rlt_n (show ¬ mso x i = 3 from c_225)]; exact hP) (by rw [← m_rlt_n (show ¬ mso x i = 3 from c_225)]; exact hD) hS (lv_sub hl [1, 0] rfl)
                          · skip
                            have hn8 : mnd (mso x, m_rlt K x i, mtw x, mst x, mnd x, mou x, mbo x, moc x) = mnd x := rfl
                            have ho8 : moc (mso x, m_rlt K x i, mtw x, mst x, mnd x, mou x, mbo x, moc x) = moc x := rfl
                            have hs9 : m_stF (mso x, m_rlt K x i, mtw x, mst x, mnd x, mou x, mbo x, moc x) K (mon x i) := m_stF_congr (c := x) (d := (mso x, m_rlt K x i, mtw x, mst x, mnd x, mou x, mbo x, moc x)) rfl rfl rfl K _ (hs1 i (by omega) (Or.inr c_225))
                            refine lv_aload_n hx hb dX7_replace_228 rfl (lv_at hl 0 rfl) ?_
                            refine lv_aload_n hx hb dX7_replace_229 rfl (lv_at hl 0 rfl) ?_
                            refine va_get (D := D) (ci := 7) (v := .ref (q 2)) (C := RX7) (T := TX7) (N := 15) hx hb hts (iwX7_replace_7) hown hK.1 hP 0 rfl rfl 2 (by decide) (hts (.fieldLink RX7 13 "InverterGraphsModel" "ones" "[I") (by decide +kernel)) (fun _ h9 => h9) rfl dX7_replace_230 ?_
                            refine lv_iload hx hb dX7_replace_233 (lv_at hl 1 rfl) ?_
                            refine k_iald (D := D) (j := i) hx hb hK.1 hP 2 0 rfl rfl (by omega) (by omega) dX7_replace_235 ?_
                            refine lv_topi (nm_r (show nI (m_rlt K x i i) = nI (mon x i) by rw [m_rlt_at]) ?_)
                            refine k_cRO (D := D) (κ := κ) (qc := (RX7, TX7, 15)) (ci := 7) (q0 := 0) ⟨hx, hb, hml, hown, hts⟩ (c_X7_standing l D κ q 0 (mso x, m_rlt K x i, mtw x, mst x, mnd x, mou x, mbo x, moc x) u_105.1 u_105.2 ro 0 lv u_90 (mon x i) K (by omega) (by omega) (by omega) (by assumption)) (cwV 1 hts gX7_replace_X7_standing rfl rfl rfl (by decide +kernel) ⟨Nat.le_of_ble_eq_true rfl, Nat.le_of_ble_eq_true rfl⟩) hK hP rfl rfl (As := [.int (nI (mon x i))]) (rest := [.int (nI i), .ref (q 2)]) rfl rfl hl.1 (Nat.le_of_ble_eq_true rfl) dX7_replace_236 ⟨Nat.le_of_ble_eq_true rfl, Nat.le_of_ble_eq_true rfl⟩ (fun r hr => ?_)
                            subst hr
                            refine lv_topi (nm_r (show nI (m_st (mso x, m_rlt K x i, mtw x, mst x, mnd x, mou x, mbo x, moc x) K (mon x i)) = nI (m_st x K (mon x i)) by rw [m_st_congr (c := (mso x, m_rlt K x i, mtw x, mst x, mnd x, mou x, mbo x, moc x)) (d := x) rfl rfl]) ?_)
                            refine lv_goto (tgt := 249) hx hb dX7_replace_239 (by decide) ?_
                            refine k_iastN (D := D) (j := i) (x := m_st x K (mon x i)) hx hb hK.1 hP hD hS 2 0 rfl rfl (by omega) (by omega) dX7_replace_249 (fun H locs hP hD hS => ?_)
                            have hP : va_P D vwCl (wN κ q 0 (mso x, k_un (m_rlt K x i) i (m_st x K (mon x i)), mtw x, mst x, mnd x, mou x, mbo x, moc x) u_105.1 u_105.2 ro 0 lv u_90) H := hP
                            have hD : va_D A (wN κ q 0 (mso x, k_un (m_rlt K x i) i (m_st x K (mon x i)), mtw x, mst x, mnd x, mou x, mbo x, moc x) u_105.1 u_105.2 ro 0 lv u_90) := hD
                            refine lv_iinc (v := nI (i + 1)) (lv' := [(5, .int (nI (i + 1))), (0, .ref (q 0))]) hx hb dX7_replace_250 hl (k := 1) rfl (nI_1 _) (by decide) rfl (fun ls hl => ?_)
                            refine lv_goto (tgt := 202) hx hb dX7_replace_253 (by decide) ?_
                            exact ih (i + 1) H locs ls (by omega) (by rw [← m_rlt_y (show mso x i = 3 from c_225)]; exact hP) (by rw [← m_rlt_y (show mso x i = 3 from c_225)]; exact hD) hS (lv_sub hl [1, 0] rfl)
                    refine lv_iconst (v := 0) hx hb dX7_replace_199 (by decide) ?_
                    refine lv_istore (lv' := [(5, .int 0), (0, .ref (q 0))]) hx hb dX7_replace_200 hl (by decide) rfl (fun ls hl => ?_)
                    exact l9a (mnd x) 0 H locs ls (by omega) (by rw [m_rlt_0]; exact hP) (by rw [m_rlt_0]; exact hD) hS (lv_sub hl [1, 0] rfl)
                  refine lv_iconst (v := 1) hx hb dX7_replace_114 (by decide) ?_
                  refine lv_istore (lv' := [(4, .int 1), (3, .int 0), (0, .ref (q 0)), (1, .int (nI a)), (2, .int (nI b))]) hx hb dX7_replace_115 hl (by decide) rfl (fun ls hl => ?_)
                  have lo : ∀ (k : Nat) (x : KC) (H : Heap) (locs : List Loc) (ls : Array Slot), (m_rlF K k x) → (m_rL K K2 (m_leave a (nI b) kc) = m_rL K k x) → va_P D vwCl (wN κ q 0 x u_105.1 u_105.2 ro 0 lv u_90) H → va_D A (wN κ q 0 x u_105.1 u_105.2 ro 0 lv u_90) → va_S A s.heap H locs → lv_has ls 6 [(0, .ref (q 0)), (4, .int 1)] → W p l e (headSpec wsX7_replace ({ frames := 2, cells := 0, slots := 0, locals := 49 })).room s m ([.ref (q 0), .int (nI a), .int (nI b)] : List Value).toArray below meth c H locs 0 0 (MQ below (va_Qi (S := (KX × (Nat → Int32))) (fun r u => (r, u) = m_replace K K2 kc cp cn kn be (nI a) (nI b)) (fun u => k_B D A (wN κ q u.1.1 u.1.2.1 u.1.2.2.1 u.1.2.2.2.1 ro u.1.2.2.2.2 lv u.2)) A) ([.ref (q 0), .int (nI a), .int (nI b)] : List Value).toArray s 0 0 A) (F0 m 117 ls []) := by
                    intro k
                    induction k with
                    | zero =>
                      intro x H locs ls hf9 hr9 hP hD hS hl
                      obtain ⟨hn1, ho1, hl1, hs1, hs2, hs3⟩ := m_rlF_ok hf9
                      refine lv_iload hx hb dX7_replace_117 (lv_at hl 1 rfl) ?_
                      refine lv_if_eq (tgt := 199) hx hb dX7_replace_119 (by decide) (fun c_119 => ?_) (fun c_119 => ?_)
                      · skip
                        exfalso; revert c_119; decide
                      · skip
                        refine lv_iconst (v := 0) hx hb dX7_replace_122 (by decide) ?_
                        refine lv_istore (lv' := [(4, .int 0), (0, .ref (q 0))]) hx hb dX7_replace_123 hl (by decide) rfl (fun ls hl => ?_)
                        refine lv_iconst (v := 0) hx hb dX7_replace_125 (by decide) ?_
                        refine lv_istore (lv' := [(5, .int 0), (4, .int 0), (0, .ref (q 0))]) hx hb dX7_replace_126 hl (by decide) rfl (fun ls hl => ?_)
                        have li : ∀ (k2 i : Nat) (H : Heap) (locs : List Loc) (ls : Array Slot), (i + k2 = mnd x) → (m_fod x (mnd x) 0 = m_fod x k2 i) → va_P D vwCl (wN κ q 0 x u_105.1 u_105.2 ro 0 lv u_90) H → va_D A (wN κ q 0 x u_105.1 u_105.2 ro 0 lv u_90) → va_S A s.heap H locs → lv_has ls 6 [(0, .ref (q 0)), (4, .int 0), (5, .int (nI i))] → W p l e (headSpec wsX7_replace ({ frames := 2, cells := 0, slots := 0, locals := 49 })).room s m ([.ref (q 0), .int (nI a), .int (nI b)] : List Value).toArray below meth c H locs 0 0 (MQ below (va_Qi (S := (KX × (Nat → Int32))) (fun r u => (r, u) = m_replace K K2 kc cp cn kn be (nI a) (nI b)) (fun u => k_B D A (wN κ q u.1.1 u.1.2.1 u.1.2.2.1 u.1.2.2.2.1 ro u.1.2.2.2.2 lv u.2)) A) ([.ref (q 0), .int (nI a), .int (nI b)] : List Value).toArray s 0 0 A) (F0 m 128 ls []) := by
                          intro k2
                          induction k2 with
                          | zero =>
                            intro i H locs ls hi hm9 hP hD hS hl
                            refine lv_iload hx hb dX7_replace_128 (lv_at hl 2 rfl) ?_
                            refine lv_aload_n hx hb dX7_replace_130 rfl (lv_at hl 0 rfl) ?_
                            refine va_get (D := D) (ci := 7) (v := .int (nI (mnd x))) (C := RX7) (T := TX7) (N := 15) hx hb hts (iwX7_replace_7) hown hK.1 hP 0 rfl rfl 5 (by decide) (hts (.fieldLink RX7 43 "InverterGraphsModel" "nodes" "I") (by decide +kernel)) (fun _ h9 => h9) rfl dX7_replace_131 ?_
                            refine lv_icmp_ge (tgt := 196) hx hb dX7_replace_134 (by decide) (fun c_134 => ?_) (fun c_134 => ?_)
                            · skip
                              have c_134 : (mnd x) ≤ i := (nI_leI (a := (mnd x)) (b := i) (by omega) (by omega)).mp c_134
                              have e9 : mnd x = i := by omega
                              subst e9
                              refine lv_goto (tgt := 117) hx hb dX7_replace_196 (by decide) ?_
                              refine lv_iload hx hb dX7_replace_117 (lv_at hl 1 rfl) ?_
                              refine lv_if_eq (tgt := 199) hx hb dX7_replace_119 (by decide) (fun c_119 => ?_) (fun c_119 => ?_)
                              · skip
                                exact rest x H locs ls (m_rlF_ok hf9) (by rw [hr9]; rw [m_rL]) hP hD hS (lv_sub hl [0] rfl)
                              · skip
                                exfalso; exact c_119 rfl
                            · skip
                              have c_134 : ¬ ((mnd x) ≤ i) := fun h9 => c_134 ((nI_leI (a := (mnd x)) (b := i) (by omega) (by omega)).mpr h9)
                              exfalso; omega
                          | succ k2 ih =>
                            intro i H locs ls hi hm9 hP hD hS hl
                            refine lv_iload hx hb dX7_replace_128 (lv_at hl 2 rfl) ?_
                            refine lv_aload_n hx hb dX7_replace_130 rfl (lv_at hl 0 rfl) ?_
                            refine va_get (D := D) (ci := 7) (v := .int (nI (mnd x))) (C := RX7) (T := TX7) (N := 15) hx hb hts (iwX7_replace_7) hown hK.1 hP 0 rfl rfl 5 (by decide) (hts (.fieldLink RX7 43 "InverterGraphsModel" "nodes" "I") (by decide +kernel)) (fun _ h9 => h9) rfl dX7_replace_131 ?_
                            refine lv_icmp_ge (tgt := 196) hx hb dX7_replace_134 (by decide) (fun c_134 => ?_) (fun c_134 => ?_)
                            · skip
                              have c_134 : (mnd x) ≤ i := (nI_leI (a := (mnd x)) (b := i) (by omega) (by omega)).mp c_134
                              exfalso; omega
                            · skip
                              have c_134 : ¬ ((mnd x) ≤ i) := fun h9 => c_134 ((nI_leI (a := (mnd x)) (b := i) (by omega) (by omega)).mpr h9)
                              refine lv_iload hx hb dX7_replace_137 (lv_at hl 1 rfl) ?_
                              refine lv_if_ne (tgt := 196) hx hb dX7_replace_139 (by decide) (fun c_139 => ?_) (fun c_139 => ?_)
                              · skip
                                exfalso; revert c_139; decide
                              · skip
                                refine lv_aload_n hx hb dX7_replace_142 rfl (lv_at hl 0 rfl) ?_
                                refine va_get (D := D) (ci := 7) (v := .ref (q 1)) (C := RX7) (T := TX7) (N := 15) hx hb hts (iwX7_replace_7) hown hK.1 hP 0 rfl rfl 1 (by decide) (hts (.fieldLink RX7 7 "InverterGraphsModel" "sorts" "[I") (by decide +kernel)) (fun _ h9 => h9) rfl dX7_replace_143 ?_
                                refine lv_iload hx hb dX7_replace_146 (lv_at hl 2 rfl) ?_
                                refine k_iald (D := D) (j := i) hx hb hK.1 hP 1 0 rfl rfl (by omega) (by omega) dX7_replace_148 ?_
                                refine lv_iconst (v := 2) hx hb dX7_replace_149 (by decide) ?_
                                refine lv_icmp_ne (tgt := 190) hx hb dX7_replace_150 (by decide) (fun c_150 => ?_) (fun c_150 => ?_)
                                · skip
                                  refine lv_iinc (v := nI (i + 1)) (lv' := [(5, .int (nI (i + 1))), (0, .ref (q 0)), (4, .int 0)]) hx hb dX7_replace_190 hl (k := 2) rfl (nI_1 _) (by decide) rfl (fun ls hl => ?_)
                                  refine lv_goto (tgt := 128) hx hb dX7_replace_193 (by decide) ?_
                                  exact ih (i + 1) H locs ls (by omega) (by rw [hm9, m_fod, if_neg c_150]) hP hD hS (lv_sub hl [1, 2, 0] rfl)
                                · skip
                                  have hx9 := hl1 i (by omega) c_150
                                  have hfa := hs1 i (by omega) (Or.inl c_150)
                                  have hfb := hs2 i (by omega) c_150
                                  refine lv_aload_n hx hb dX7_replace_153 rfl (lv_at hl 0 rfl) ?_
                                  refine lv_aload_n hx hb dX7_replace_154 rfl (lv_at hl 0 rfl) ?_
                                  refine va_get (D := D) (ci := 7) (v := .ref (q 2)) (C := RX7) (T := TX7) (N := 15) hx hb hts (iwX7_replace_7) hown hK.1 hP 0 rfl rfl 2 (by decide) (hts (.fieldLink RX7 13 "InverterGraphsModel" "ones" "[I") (by decide +kernel)) (fun _ h9 => h9) rfl dX7_replace_155 ?_
                                  refine lv_iload hx hb dX7_replace_158 (lv_at hl 2 rfl) ?_
                                  refine k_iald (D := D) (j := i) hx hb hK.1 hP 2 0 rfl rfl (by omega) (by omega) dX7_replace_160 ?_
                                  refine k_cRO (D := D) (κ := κ) (qc := (RX7, TX7, 15)) (ci := 7) (q0 := 0) ⟨hx, hb, hml, hown, hts⟩ (c_X7_isReplaced l D κ q 0 x u_105.1 u_105.2 ro 0 lv u_90 ((mon x) i) (by omega) (by omega) (by omega) (by omega)) (cwV 1 hts gX7_replace_X7_isReplaced rfl rfl rfl (by decide +kernel) ⟨Nat.le_of_ble_eq_true rfl, Nat.le_of_ble_eq_true rfl⟩) hK hP rfl rfl (As := [.int (nI ((mon x) i))]) (rest := []) rfl rfl hl.1 (Nat.le_of_ble_eq_true rfl) dX7_replace_161 ⟨Nat.le_of_ble_eq_true rfl, Nat.le_of_ble_eq_true rfl⟩ (fun r hr => ?_)
                                  subst hr
                                  refine lv_if_ne (tgt := 181) hx hb dX7_replace_164 (by decide) (fun c_164 => ?_) (fun c_164 => ?_)
                                  · skip
                                    have hm8 : m_fod x (mnd x) 0 = some i := by rw [hm9, m_fod, if_pos c_150, if_neg c_164]
                                    exfalso; rw [hf9.2] at hm8; cases hm8
                                  · skip
                                    refine lv_aload_n hx hb dX7_replace_167 rfl (lv_at hl 0 rfl) ?_
                                    refine lv_aload_n hx hb dX7_replace_168 rfl (lv_at hl 0 rfl) ?_
                                    refine va_get (D := D) (ci := 7) (v := .ref (q 3)) (C := RX7) (T := TX7) (N := 15) hx hb hts (iwX7_replace_7) hown hK.1 hP 0 rfl rfl 3 (by decide) (hts (.fieldLink RX7 16 "InverterGraphsModel" "twos" "[I") (by decide +kernel)) (fun _ h9 => h9) rfl dX7_replace_169 ?_
                                    refine lv_iload hx hb dX7_replace_172 (lv_at hl 2 rfl) ?_
                                    refine k_iald (D := D) (j := i) hx hb hK.1 hP 3 0 rfl rfl (by omega) (by omega) dX7_replace_174 ?_
                                    refine k_cRO (D := D) (κ := κ) (qc := (RX7, TX7, 15)) (ci := 7) (q0 := 0) ⟨hx, hb, hml, hown, hts⟩ (c_X7_isReplaced l D κ q 0 x u_105.1 u_105.2 ro 0 lv u_90 ((mtw x) i) (by omega) (by omega) (by omega) (by omega)) (cwV 1 hts gX7_replace_X7_isReplaced rfl rfl rfl (by decide +kernel) ⟨Nat.le_of_ble_eq_true rfl, Nat.le_of_ble_eq_true rfl⟩) hK hP rfl rfl (As := [.int (nI ((mtw x) i))]) (rest := []) rfl rfl hl.1 (Nat.le_of_ble_eq_true rfl) dX7_replace_175 ⟨Nat.le_of_ble_eq_true rfl, Nat.le_of_ble_eq_true rfl⟩ (fun r hr => ?_)
                                    subst hr
                                    refine lv_if_eq (tgt := 190) hx hb dX7_replace_178 (by decide) (fun c_178 => ?_) (fun c_178 => ?_)
                                    · skip
                                      refine lv_iinc (v := nI (i + 1)) (lv' := [(5, .int (nI (i + 1))), (0, .ref (q 0)), (4, .int 0)]) hx hb dX7_replace_190 hl (k := 2) rfl (nI_1 _) (by decide) rfl (fun ls hl => ?_)
                                      refine lv_goto (tgt := 128) hx hb dX7_replace_193 (by decide) ?_
                                      exact ih (i + 1) H locs ls (by omega) (by rw [hm9, m_fod, if_pos c_150, if_pos c_164, if_pos c_178]) hP hD hS (lv_sub hl [1, 2, 0] rfl)
                                    · skip
                                      have hm8 : m_fod x (mnd x) 0 = some i := by rw [hm9, m_fod, if_pos c_150, if_pos c_164, if_neg c_178]
                                      exfalso; rw [hf9.2] at hm8; cases hm8
                        exact li (mnd x) 0 H locs ls (by omega) rfl hP hD hS (lv_sub hl [2, 1, 0] rfl)
                    | succ k ih =>
                      intro x H locs ls hf9 hr9 hP hD hS hl
                      have iho := ih
                      obtain ⟨hn1, ho1, hl1, hs1, hs2, hs3⟩ := m_rlF_ok hf9
                      refine lv_iload hx hb dX7_replace_117 (lv_at hl 1 rfl) ?_
                      refine lv_if_eq (tgt := 199) hx hb dX7_replace_119 (by decide) (fun c_119 => ?_) (fun c_119 => ?_)
                      · skip
                        exfalso; revert c_119; decide
                      · skip
                        refine lv_iconst (v := 0) hx hb dX7_replace_122 (by decide) ?_
                        refine lv_istore (lv' := [(4, .int 0), (0, .ref (q 0))]) hx hb dX7_replace_123 hl (by decide) rfl (fun ls hl => ?_)
                        refine lv_iconst (v := 0) hx hb dX7_replace_125 (by decide) ?_
                        refine lv_istore (lv' := [(5, .int 0), (4, .int 0), (0, .ref (q 0))]) hx hb dX7_replace_126 hl (by decide) rfl (fun ls hl => ?_)
                        have li : ∀ (k2 i : Nat) (H : Heap) (locs : List Loc) (ls : Array Slot), (i + k2 = mnd x) → (m_fod x (mnd x) 0 = m_fod x k2 i) → va_P D vwCl (wN κ q 0 x u_105.1 u_105.2 ro 0 lv u_90) H → va_D A (wN κ q 0 x u_105.1 u_105.2 ro 0 lv u_90) → va_S A s.heap H locs → lv_has ls 6 [(0, .ref (q 0)), (4, .int 0), (5, .int (nI i))] → W p l e (headSpec wsX7_replace ({ frames := 2, cells := 0, slots := 0, locals := 49 })).room s m ([.ref (q 0), .int (nI a), .int (nI b)] : List Value).toArray below meth c H locs 0 0 (MQ below (va_Qi (S := (KX × (Nat → Int32))) (fun r u => (r, u) = m_replace K K2 kc cp cn kn be (nI a) (nI b)) (fun u => k_B D A (wN κ q u.1.1 u.1.2.1 u.1.2.2.1 u.1.2.2.2.1 ro u.1.2.2.2.2 lv u.2)) A) ([.ref (q 0), .int (nI a), .int (nI b)] : List Value).toArray s 0 0 A) (F0 m 128 ls []) := by
                          intro k2
                          induction k2 with
                          | zero =>
                            intro i H locs ls hi hm9 hP hD hS hl
                            refine lv_iload hx hb dX7_replace_128 (lv_at hl 2 rfl) ?_
                            refine lv_aload_n hx hb dX7_replace_130 rfl (lv_at hl 0 rfl) ?_
                            refine va_get (D := D) (ci := 7) (v := .int (nI (mnd x))) (C := RX7) (T := TX7) (N := 15) hx hb hts (iwX7_replace_7) hown hK.1 hP 0 rfl rfl 5 (by decide) (hts (.fieldLink RX7 43 "InverterGraphsModel" "nodes" "I") (by decide +kernel)) (fun _ h9 => h9) rfl dX7_replace_131 ?_
                            refine lv_icmp_ge (tgt := 196) hx hb dX7_replace_134 (by decide) (fun c_134 => ?_) (fun c_134 => ?_)
                            · skip
                              have c_134 : (mnd x) ≤ i := (nI_leI (a := (mnd x)) (b := i) (by omega) (by omega)).mp c_134
                              have e9 : mnd x = i := by omega
                              subst e9
                              refine lv_goto (tgt := 117) hx hb dX7_replace_196 (by decide) ?_
                              refine lv_iload hx hb dX7_replace_117 (lv_at hl 1 rfl) ?_
                              refine lv_if_eq (tgt := 199) hx hb dX7_replace_119 (by decide) (fun c_119 => ?_) (fun c_119 => ?_)
                              · skip
                                exact rest x H locs ls (m_rlF_ok hf9) (by rw [hr9]; rw [m_rL, show m_fod x (mnd x) 0 = none from hm9]) hP hD hS (lv_sub hl [0] rfl)
                              · skip
                                exfalso; exact c_119 rfl
                            · skip
                              have c_134 : ¬ ((mnd x) ≤ i) := fun h9 => c_134 ((nI_leI (a := (mnd x)) (b := i) (by omega) (by omega)).mpr h9)
                              exfalso; omega
                          | succ k2 ih =>
                            intro i H locs ls hi hm9 hP hD hS hl
                            refine lv_iload hx hb dX7_replace_128 (lv_at hl 2 rfl) ?_
                            refine lv_aload_n hx hb dX7_replace_130 rfl (lv_at hl 0 rfl) ?_
                            refine va_get (D := D) (ci := 7) (v := .int (nI (mnd x))) (C := RX7) (T := TX7) (N := 15) hx hb hts (iwX7_replace_7) hown hK.1 hP 0 rfl rfl 5 (by decide) (hts (.fieldLink RX7 43 "InverterGraphsModel" "nodes" "I") (by decide +kernel)) (fun _ h9 => h9) rfl dX7_replace_131 ?_
                            refine lv_icmp_ge (tgt := 196) hx hb dX7_replace_134 (by decide) (fun c_134 => ?_) (fun c_134 => ?_)
                            · skip
                              have c_134 : (mnd x) ≤ i := (nI_leI (a := (mnd x)) (b := i) (by omega) (by omega)).mp c_134
                              exfalso; omega
                            · skip
                              have c_134 : ¬ ((mnd x) ≤ i) := fun h9 => c_134 ((nI_leI (a := (mnd x)) (b := i) (by omega) (by omega)).mpr h9)
                              refine lv_iload hx hb dX7_replace_137 (lv_at hl 1 rfl) ?_
                              refine lv_if_ne (tgt := 196) hx hb dX7_replace_139 (by decide) (fun c_139 => ?_) (fun c_139 => ?_)
                              · skip
                                exfalso; revert c_139; decide
                              · skip
                                refine lv_aload_n hx hb dX7_replace_142 rfl (lv_at hl 0 rfl) ?_
                                refine va_get (D := D) (ci := 7) (v := .ref (q 1)) (C := RX7) (T := TX7) (N := 15) hx hb hts (iwX7_replace_7) hown hK.1 hP 0 rfl rfl 1 (by decide) (hts (.fieldLink RX7 7 "InverterGraphsModel" "sorts" "[I") (by decide +kernel)) (fun _ h9 => h9) rfl dX7_replace_143 ?_
                                refine lv_iload hx hb dX7_replace_146 (lv_at hl 2 rfl) ?_
                                refine k_iald (D := D) (j := i) hx hb hK.1 hP 1 0 rfl rfl (by omega) (by omega) dX7_replace_148 ?_
                                refine lv_iconst (v := 2) hx hb dX7_replace_149 (by decide) ?_
                                refine lv_icmp_ne (tgt := 190) hx hb dX7_replace_150 (by decide) (fun c_150 => ?_) (fun c_150 => ?_)
                                · skip
                                  refine lv_iinc (v := nI (i + 1)) (lv' := [(5, .int (nI (i + 1))), (0, .ref (q 0)), (4, .int 0)]) hx hb dX7_replace_190 hl (k := 2) rfl (nI_1 _) (by decide) rfl (fun ls hl => ?_)
                                  refine lv_goto (tgt := 128) hx hb dX7_replace_193 (by decide) ?_
                                  exact ih (i + 1) H locs ls (by omega) (by rw [hm9, m_fod, if_neg c_150]) hP hD hS (lv_sub hl [1, 2, 0] rfl)
                                · skip
                                  have hx9 := hl1 i (by omega) c_150
                                  have hfa := hs1 i (by omega) (Or.inl c_150)
                                  have hfb := hs2 i (by omega) c_150
                                  refine lv_aload_n hx hb dX7_replace_153 rfl (lv_at hl 0 rfl) ?_
                                  refine lv_aload_n hx hb dX7_replace_154 rfl (lv_at hl 0 rfl) ?_
                                  refine va_get (D := D) (ci := 7) (v := .ref (q 2)) (C := RX7) (T := TX7) (N := 15) hx hb hts (iwX7_replace_7) hown hK.1 hP 0 rfl rfl 2 (by decide) (hts (.fieldLink RX7 13 "InverterGraphsModel" "ones" "[I") (by decide +kernel)) (fun _ h9 => h9) rfl dX7_replace_155 ?_
                                  refine lv_iload hx hb dX7_replace_158 (lv_at hl 2 rfl) ?_
                                  refine k_iald (D := D) (j := i) hx hb hK.1 hP 2 0 rfl rfl (by omega) (by omega) dX7_replace_160 ?_
                                  refine k_cRO (D := D) (κ := κ) (qc := (RX7, TX7, 15)) (ci := 7) (q0 := 0) ⟨hx, hb, hml, hown, hts⟩ (c_X7_isReplaced l D κ q 0 x u_105.1 u_105.2 ro 0 lv u_90 ((mon x) i) (by omega) (by omega) (by omega) (by omega)) (cwV 1 hts gX7_replace_X7_isReplaced rfl rfl rfl (by decide +kernel) ⟨Nat.le_of_ble_eq_true rfl, Nat.le_of_ble_eq_true rfl⟩) hK hP rfl rfl (As := [.int (nI ((mon x) i))]) (rest := []) rfl rfl hl.1 (Nat.le_of_ble_eq_true rfl) dX7_replace_161 ⟨Nat.le_of_ble_eq_true rfl, Nat.le_of_ble_eq_true rfl⟩ (fun r hr => ?_)
                                  subst hr
                                  refine lv_if_ne (tgt := 181) hx hb dX7_replace_164 (by decide) (fun c_164 => ?_) (fun c_164 => ?_)
                                  · skip
                                    have hm8 : m_fod x (mnd x) 0 = some i := by rw [hm9, m_fod, if_pos c_150, if_neg c_164]
                                    obtain ⟨n9, hn9, hf8⟩ := hf9.2.resolve_left (by rw [hm8]; intro q9; cases q9)
                                    obtain rfl : i = n9 := Option.some.inj (hm8.symm.trans hn9)
                                    refine lv_iconst (v := 1) hx hb dX7_replace_181 (by decide) ?_
                                    refine lv_istore (lv' := [(4, .int 1), (0, .ref (q 0)), (5, .int (nI i))]) hx hb dX7_replace_182 hl (by decide) rfl (fun ls hl => ?_)
                                    refine lv_aload_n hx hb dX7_replace_184 rfl (lv_at hl 1 rfl) ?_
                                    refine lv_iload hx hb dX7_replace_185 (lv_at hl 2 rfl) ?_
                                    refine k_cWUv (D := D) (κ := κ) (qc := (RX7, TX7, 15)) (ci := 7) (q0 := 0) ⟨hx, hb, hml, hown, hts⟩ (c_X7_change l D κ _ q 0 x u_105.1 u_105.2 ro 0 lv u_90 i K (by omega) (by omega) (by omega) (by omega) (by assumption) (by assumption) (by assumption)) (cwV 1 hts gX7_replace_X7_change rfl rfl rfl (by decide +kernel) ⟨Nat.le_of_ble_eq_true rfl, Nat.le_of_ble_eq_true rfl⟩) hK hP hD hS hA rfl rfl (As := [.int (nI i)]) (rest := []) rfl rfl hl.1 (Nat.le_of_ble_eq_true rfl) dX7_replace_187 ⟨Nat.le_of_ble_eq_true rfl, Nat.le_of_ble_eq_true rfl⟩ (fun u_187 H locs hw9 hP hD hS => ?_)
                                    have hu_187 := hw9
                                    have hP : va_P D vwCl (wN κ q 0 u_187 u_105.1 u_105.2 ro 0 lv u_90) H := hP
                                    have hD : va_D A (wN κ q 0 u_187 u_105.1 u_105.2 ro 0 lv u_90) := hD
                                    refine lv_iinc (v := nI (i + 1)) (lv' := [(5, .int (nI (i + 1))), (4, .int 1), (0, .ref (q 0))]) hx hb dX7_replace_190 hl (k := 2) rfl (nI_1 _) (by decide) rfl (fun ls hl => ?_)
                                    refine lv_goto (tgt := 128) hx hb dX7_replace_193 (by decide) ?_
                                    refine lv_iload hx hb dX7_replace_128 (lv_at hl 0 rfl) ?_
                                    refine lv_aload_n hx hb dX7_replace_130 rfl (lv_at hl 2 rfl) ?_
                                    refine va_get (D := D) (ci := 7) (v := .int (nI (mnd u_187))) (C := RX7) (T := TX7) (N := 15) hx hb hts (iwX7_replace_7) hown hK.1 hP 0 rfl rfl 5 (by decide) (hts (.fieldLink RX7 43 "InverterGraphsModel" "nodes" "I") (by decide +kernel)) (fun _ h9 => h9) rfl dX7_replace_131 ?_
                                    have hc9 : mnd u_187 = mnd x := by rw [hu_187]; unfold m_change; split <;> rfl
                                    refine lv_icmp_ge (tgt := 196) hx hb dX7_replace_134 (by decide) (fun c_134 => ?_) (fun c_134 => ?_)
                                    · skip
                                      refine lv_goto (tgt := 117) hx hb dX7_replace_196 (by decide) ?_
                                      exact iho u_187 H locs ls (by rw [hu_187]; exact hf8) (by rw [hr9, m_rL, hm8, hu_187]) hP hD hS (lv_sub hl [2, 1] rfl)
                                    · skip
                                      refine lv_iload hx hb dX7_replace_137 (lv_at hl 1 rfl) ?_
                                      refine lv_if_ne (tgt := 196) hx hb dX7_replace_139 (by decide) (fun c_139 => ?_) (fun c_139 => ?_)
                                      · skip
                                        refine lv_goto (tgt := 117) hx hb dX7_replace_196 (by decide) ?_
                                        exact iho u_187 H locs ls (by rw [hu_187]; exact hf8) (by rw [hr9, m_rL, hm8, hu_187]) hP hD hS (lv_sub hl [2, 1] rfl)
                                      · skip
                                        exfalso; revert c_139; decide
                                  · skip
                                    refine lv_aload_n hx hb dX7_replace_167 rfl (lv_at hl 0 rfl) ?_
                                    refine lv_aload_n hx hb dX7_replace_168 rfl (lv_at hl 0 rfl) ?_
                                    refine va_get (D := D) (ci := 7) (v := .ref (q 3)) (C := RX7) (T := TX7) (N := 15) hx hb hts (iwX7_replace_7) hown hK.1 hP 0 rfl rfl 3 (by decide) (hts (.fieldLink RX7 16 "InverterGraphsModel" "twos" "[I") (by decide +kernel)) (fun _ h9 => h9) rfl dX7_replace_169 ?_
                                    refine lv_iload hx hb dX7_replace_172 (lv_at hl 2 rfl) ?_
                                    refine k_iald (D := D) (j := i) hx hb hK.1 hP 3 0 rfl rfl (by omega) (by omega) dX7_replace_174 ?_
                                    refine k_cRO (D := D) (κ := κ) (qc := (RX7, TX7, 15)) (ci := 7) (q0 := 0) ⟨hx, hb, hml, hown, hts⟩ (c_X7_isReplaced l D κ q 0 x u_105.1 u_105.2 ro 0 lv u_90 ((mtw x) i) (by omega) (by omega) (by omega) (by omega)) (cwV 1 hts gX7_replace_X7_isReplaced rfl rfl rfl (by decide +kernel) ⟨Nat.le_of_ble_eq_true rfl, Nat.le_of_ble_eq_true rfl⟩) hK hP rfl rfl (As := [.int (nI ((mtw x) i))]) (rest := []) rfl rfl hl.1 (Nat.le_of_ble_eq_true rfl) dX7_replace_175 ⟨Nat.le_of_ble_eq_true rfl, Nat.le_of_ble_eq_true rfl⟩ (fun r hr => ?_)
                                    subst hr
                                    refine lv_if_eq (tgt := 190) hx hb dX7_replace_178 (by decide) (fun c_178 => ?_) (fun c_178 => ?_)
                                    · skip
                                      refine lv_iinc (v := nI (i + 1)) (lv' := [(5, .int (nI (i + 1))), (0, .ref (q 0)), (4, .int 0)]) hx hb dX7_replace_190 hl (k := 2) rfl (nI_1 _) (by decide) rfl (fun ls hl => ?_)
                                      refine lv_goto (tgt := 128) hx hb dX7_replace_193 (by decide) ?_
                                      exact ih (i + 1) H locs ls (by omega) (by rw [hm9, m_fod, if_pos c_150, if_pos c_164, if_pos c_178]) hP hD hS (lv_sub hl [1, 2, 0] rfl)
                                    · skip
                                      have hm8 : m_fod x (mnd x) 0 = some i := by rw [hm9, m_fod, if_pos c_150, if_pos c_164, if_neg c_178]
                                      obtain ⟨n9, hn9, hf8⟩ := hf9.2.resolve_left (by rw [hm8]; intro q9; cases q9)
                                      obtain rfl : i = n9 := Option.some.inj (hm8.symm.trans hn9)
                                      refine lv_iconst (v := 1) hx hb dX7_replace_181 (by decide) ?_
                                      refine lv_istore (lv' := [(4, .int 1), (0, .ref (q 0)), (5, .int (nI i))]) hx hb dX7_replace_182 hl (by decide) rfl (fun ls hl => ?_)
                                      refine lv_aload_n hx hb dX7_replace_184 rfl (lv_at hl 1 rfl) ?_
                                      refine lv_iload hx hb dX7_replace_185 (lv_at hl 2 rfl) ?_
                                      refine k_cWUv (D := D) (κ := κ) (qc := (RX7, TX7, 15)) (ci := 7) (q0 := 0) ⟨hx, hb, hml, hown, hts⟩ (c_X7_change l D κ _ q 0 x u_105.1 u_105.2 ro 0 lv u_90 i K (by omega) (by omega) (by omega) (by omega) (by assumption) (by assumption) (by assumption)) (cwV 1 hts gX7_replace_X7_change rfl rfl rfl (by decide +kernel) ⟨Nat.le_of_ble_eq_true rfl, Nat.le_of_ble_eq_true rfl⟩) hK hP hD hS hA rfl rfl (As := [.int (nI i)]) (rest := []) rfl rfl hl.1 (Nat.le_of_ble_eq_true rfl) dX7_replace_187 ⟨Nat.le_of_ble_eq_true rfl, Nat.le_of_ble_eq_true rfl⟩ (fun u_187 H locs hw9 hP hD hS => ?_)
                                      have hu_187 := hw9
                                      have hP : va_P D vwCl (wN κ q 0 u_187 u_105.1 u_105.2 ro 0 lv u_90) H := hP
                                      have hD : va_D A (wN κ q 0 u_187 u_105.1 u_105.2 ro 0 lv u_90) := hD
                                      refine lv_iinc (v := nI (i + 1)) (lv' := [(5, .int (nI (i + 1))), (4, .int 1), (0, .ref (q 0))]) hx hb dX7_replace_190 hl (k := 2) rfl (nI_1 _) (by decide) rfl (fun ls hl => ?_)
                                      refine lv_goto (tgt := 128) hx hb dX7_replace_193 (by decide) ?_
                                      refine lv_iload hx hb dX7_replace_128 (lv_at hl 0 rfl) ?_
                                      refine lv_aload_n hx hb dX7_replace_130 rfl (lv_at hl 2 rfl) ?_
                                      refine va_get (D := D) (ci := 7) (v := .int (nI (mnd u_187))) (C := RX7) (T := TX7) (N := 15) hx hb hts (iwX7_replace_7) hown hK.1 hP 0 rfl rfl 5 (by decide) (hts (.fieldLink RX7 43 "InverterGraphsModel" "nodes" "I") (by decide +kernel)) (fun _ h9 => h9) rfl dX7_replace_131 ?_
                                      have hc9 : mnd u_187 = mnd x := by rw [hu_187]; unfold m_change; split <;> rfl
                                      refine lv_icmp_ge (tgt := 196) hx hb dX7_replace_134 (by decide) (fun c_134 => ?_) (fun c_134 => ?_)
                                      · skip
                                        refine lv_goto (tgt := 117) hx hb dX7_replace_196 (by decide) ?_
                                        exact iho u_187 H locs ls (by rw [hu_187]; exact hf8) (by rw [hr9, m_rL, hm8, hu_187]) hP hD hS (lv_sub hl [2, 1] rfl)
                                      · skip
                                        refine lv_iload hx hb dX7_replace_137 (lv_at hl 1 rfl) ?_
                                        refine lv_if_ne (tgt := 196) hx hb dX7_replace_139 (by decide) (fun c_139 => ?_) (fun c_139 => ?_)
                                        · skip
                                          refine lv_goto (tgt := 117) hx hb dX7_replace_196 (by decide) ?_
                                          exact iho u_187 H locs ls (by rw [hu_187]; exact hf8) (by rw [hr9, m_rL, hm8, hu_187]) hP hD hS (lv_sub hl [2, 1] rfl)
                                        · skip
                                          exfalso; revert c_139; decide
                        exact li (mnd x) 0 H locs ls (by omega) rfl hP hD hS (lv_sub hl [2, 1, 0] rfl)
                  exact lo K2 (m_leave a (nI b) kc) H locs ls hrl9 rfl hP hD hS (lv_sub hl [2, 0] rfl)
                · skip
                  refine lv_iconst (v := 1) hx hb dX7_replace_102 (by decide) ?_
                  exact W.iret (v := 1) hx hb hr (fun t ht hW => ⟨⟨1, ((0, kc, cp, cn, kn), u_90), rfl, (by unfold m_replace; try unfold m_rpX; rw [nI_clamp (show a < 2 ^ 31 by omega), nI_clamp (show b < 2 ^ 31 by omega), if_neg c_5, if_pos c_19, if_neg c_50, if_pos c_66]; unfold m_rpZ m_rpB; rw [← hu_90]; rw [if_neg c_99]), by rw [ht]; exact hP, hD⟩, hS.F ht⟩) hS.2.2 dX7_replace_103
              · skip
                exfalso; revert c_81; decide
            · skip
              refine lv_iconst (v := 2) hx hb dX7_replace_69 (by decide) ?_
              refine lv_goto (tgt := 74) hx hb dX7_replace_70 (by decide) ?_
              refine va_put (D := D) (ci := 7) (v := .int 2) (ty := .int) (C := RX7) (T := TX7) (N := 15) hx hb hts (iwX7_replace_7) tyX7 tyX7_ok nmX7 hown hK.1 hP hD hS 0 rfl rfl 0 (by decide) (hts (.fieldLink RX7 47 "InverterGraphsModel" "thrown" "I") (by decide +kernel)) (fun _ h9 => h9) rfl (by decide +kernel) rfl rfl (Nat.le_of_ble_eq_true rfl) dX7_replace_74 (fun H locs hP hD hS => ?_)
              have hP : va_P D vwCl (wN κ q 2 kc cp cn ro kn lv be) H := hP
              have hD : va_D A (wN κ q 2 kc cp cn ro kn lv be) := hD
              refine lv_aload_n hx hb dX7_replace_77 rfl (lv_at hl 1 rfl) ?_
              refine va_get (D := D) (ci := 7) (v := .int 2) (C := RX7) (T := TX7) (N := 15) hx hb hts (iwX7_replace_7) hown hK.1 hP 0 rfl rfl 0 (by decide) (hts (.fieldLink RX7 47 "InverterGraphsModel" "thrown" "I") (by decide +kernel)) (fun _ h9 => h9) rfl dX7_replace_78 ?_
              refine lv_if_le (tgt := 86) hx hb dX7_replace_81 (by decide) (fun c_81 => ?_) (fun c_81 => ?_)
              · skip
                exfalso; revert c_81; decide
              · skip
                refine lv_iconst (v := 0) hx hb dX7_replace_84 (by decide) ?_
                exact W.iret (v := 0) hx hb hr (fun t ht hW => ⟨⟨0, ((2, kc, cp, cn, kn), be), rfl, (by unfold m_replace; try unfold m_rpX; rw [nI_clamp (show a < 2 ^ 31 by omega), if_neg c_5, if_pos c_19, if_neg c_50, if_neg c_66]), by rw [ht]; exact hP, hD⟩, hS.F ht⟩) hS.2.2 dX7_replace_85
        · skip
          refine lv_iconst (v := 1) hx hb dX7_replace_53 (by decide) ?_
          refine lv_goto (tgt := 74) hx hb dX7_replace_54 (by decide) ?_
          refine va_put (D := D) (ci := 7) (v := .int 1) (ty := .int) (C := RX7) (T := TX7) (N := 15) hx hb hts (iwX7_replace_7) tyX7 tyX7_ok nmX7 hown hK.1 hP hD hS 0 rfl rfl 0 (by decide) (hts (.fieldLink RX7 47 "InverterGraphsModel" "thrown" "I") (by decide +kernel)) (fun _ h9 => h9) rfl (by decide +kernel) rfl rfl (Nat.le_of_ble_eq_true rfl) dX7_replace_74 (fun H locs hP hD hS => ?_)
          have hP : va_P D vwCl (wN κ q 1 kc cp cn ro kn lv be) H := hP
          have hD : va_D A (wN κ q 1 kc cp cn ro kn lv be) := hD
          refine lv_aload_n hx hb dX7_replace_77 rfl (lv_at hl 1 rfl) ?_
          refine va_get (D := D) (ci := 7) (v := .int 1) (C := RX7) (T := TX7) (N := 15) hx hb hts (iwX7_replace_7) hown hK.1 hP 0 rfl rfl 0 (by decide) (hts (.fieldLink RX7 47 "InverterGraphsModel" "thrown" "I") (by decide +kernel)) (fun _ h9 => h9) rfl dX7_replace_78 ?_
          refine lv_if_le (tgt := 86) hx hb dX7_replace_81 (by decide) (fun c_81 => ?_) (fun c_81 => ?_)
          · skip
            exfalso; revert c_81; decide
          · skip
            refine lv_iconst (v := 0) hx hb dX7_replace_84 (by decide) ?_
            exact W.iret (v := 0) hx hb hr (fun t ht hW => ⟨⟨0, ((1, kc, cp, cn, kn), be), rfl, (by unfold m_replace; try unfold m_rpX; rw [nI_clamp (show a < 2 ^ 31 by omega), if_neg c_5, if_pos c_19, if_pos c_50]), by rw [ht]; exact hP, hD⟩, hS.F ht⟩) hS.2.2 dX7_replace_85
    · skip
      refine lv_aload_n hx hb dX7_replace_22 rfl (lv_at hl 0 rfl) ?_
      refine va_get (D := D) (ci := 7) (v := .ref (q 1)) (C := RX7) (T := TX7) (N := 15) hx hb hts (iwX7_replace_7) hown hK.1 hP 0 rfl rfl 1 (by decide) (hts (.fieldLink RX7 7 "InverterGraphsModel" "sorts" "[I") (by decide +kernel)) (fun _ h9 => h9) rfl dX7_replace_23 ?_
      refine lv_iload_n hx hb dX7_replace_26 rfl (lv_at hl 1 rfl) ?_
      refine k_iald (D := D) (j := a) hx hb hK.1 hP 1 0 rfl rfl (by omega) (by omega) dX7_replace_27 ?_
      refine lv_iconst (v := 2) hx hb dX7_replace_28 (by decide) ?_
      refine lv_icmp_ne (tgt := 36) hx hb dX7_replace_29 (by decide) (fun c_29 => ?_) (fun c_29 => ?_)
      · skip
        refine lv_iconst (v := 2) hx hb dX7_replace_36 (by decide) ?_
        refine lv_istore_n (lv' := [(3, .int 2), (0, .ref (q 0)), (1, .int (nI a)), (2, .int p1)]) hx hb dX7_replace_37 rfl hl (by decide) rfl (fun ls hl => ?_)
        refine lv_aload_n hx hb dX7_replace_38 rfl (lv_at hl 1 rfl) ?_
        refine lv_iload_n hx hb dX7_replace_39 rfl (lv_at hl 0 rfl) ?_
        refine lv_iconst (v := 1) hx hb dX7_replace_40 (by decide) ?_
        refine lv_icmp_eq (tgt := 53) hx hb dX7_replace_41 (by decide) (fun c_41 => ?_) (fun c_41 => ?_)
        · skip
          exfalso; revert c_41; decide
        · skip
          refine lv_aload_n hx hb dX7_replace_44 rfl (lv_at hl 1 rfl) ?_
          refine lv_iload_n hx hb dX7_replace_45 rfl (lv_at hl 3 rfl) ?_
          refine k_cRO (D := D) (κ := κ) (qc := (RX7, TX7, 15)) (ci := 7) (q0 := 0) ⟨hx, hb, hml, hown, hts⟩ (c_X7_wrong l D κ q th kc cp cn ro kn lv be p1 (by omega) (by omega) (by omega) ) (cwV 1 hts gX7_replace_X7_wrong rfl rfl rfl (by decide +kernel) ⟨Nat.le_of_ble_eq_true rfl, Nat.le_of_ble_eq_true rfl⟩) hK hP rfl rfl (As := [.int p1]) (rest := [.ref (q 0)]) rfl rfl hl.1 (Nat.le_of_ble_eq_true rfl) dX7_replace_46 ⟨Nat.le_of_ble_eq_true rfl, Nat.le_of_ble_eq_true rfl⟩ (fun r hr => ?_)
          subst hr
          refine lv_iconst (v := 1) hx hb dX7_replace_49 (by decide) ?_
          refine lv_icmp_ne (tgt := 57) hx hb dX7_replace_50 (by decide) (fun c_50 => ?_) (fun c_50 => ?_)
          · skip
            refine lv_iload_n hx hb dX7_replace_57 rfl (lv_at hl 0 rfl) ?_
            refine lv_if_gt (tgt := 69) hx hb dX7_replace_58 (by decide) (fun c_58 => ?_) (fun c_58 => ?_)
            · skip
              refine lv_iconst (v := 2) hx hb dX7_replace_69 (by decide) ?_
              refine lv_goto (tgt := 74) hx hb dX7_replace_70 (by decide) ?_
              refine va_put (D := D) (ci := 7) (v := .int 2) (ty := .int) (C := RX7) (T := TX7) (N := 15) hx hb hts (iwX7_replace_7) tyX7 tyX7_ok nmX7 hown hK.1 hP hD hS 0 rfl rfl 0 (by decide) (hts (.fieldLink RX7 47 "InverterGraphsModel" "thrown" "I") (by decide +kernel)) (fun _ h9 => h9) rfl (by decide +kernel) rfl rfl (Nat.le_of_ble_eq_true rfl) dX7_replace_74 (fun H locs hP hD hS => ?_)
              have hP : va_P D vwCl (wN κ q 2 kc cp cn ro kn lv be) H := hP
              have hD : va_D A (wN κ q 2 kc cp cn ro kn lv be) := hD
              refine lv_aload_n hx hb dX7_replace_77 rfl (lv_at hl 1 rfl) ?_
              refine va_get (D := D) (ci := 7) (v := .int 2) (C := RX7) (T := TX7) (N := 15) hx hb hts (iwX7_replace_7) hown hK.1 hP 0 rfl rfl 0 (by decide) (hts (.fieldLink RX7 47 "InverterGraphsModel" "thrown" "I") (by decide +kernel)) (fun _ h9 => h9) rfl dX7_replace_78 ?_
              refine lv_if_le (tgt := 86) hx hb dX7_replace_81 (by decide) (fun c_81 => ?_) (fun c_81 => ?_)
              · skip
                exfalso; revert c_81; decide
              · skip
                refine lv_iconst (v := 0) hx hb dX7_replace_84 (by decide) ?_
                exact W.iret (v := 0) hx hb hr (fun t ht hW => ⟨⟨0, ((2, kc, cp, cn, kn), be), rfl, (by unfold m_replace; try unfold m_rpX; rw [nI_clamp (show a < 2 ^ 31 by omega), if_neg c_5, if_neg c_19, if_neg c_29, if_neg c_50]), by rw [ht]; exact hP, hD⟩, hS.F ht⟩) hS.2.2 dX7_replace_85
            · skip
              exfalso; revert c_58; decide
          · skip
            refine lv_iconst (v := 1) hx hb dX7_replace_53 (by decide) ?_
            refine lv_goto (tgt := 74) hx hb dX7_replace_54 (by decide) ?_
            refine va_put (D := D) (ci := 7) (v := .int 1) (ty := .int) (C := RX7) (T := TX7) (N := 15) hx hb hts (iwX7_replace_7) tyX7 tyX7_ok nmX7 hown hK.1 hP hD hS 0 rfl rfl 0 (by decide) (hts (.fieldLink RX7 47 "InverterGraphsModel" "thrown" "I") (by decide +kernel)) (fun _ h9 => h9) rfl (by decide +kernel) rfl rfl (Nat.le_of_ble_eq_true rfl) dX7_replace_74 (fun H locs hP hD hS => ?_)
            have hP : va_P D vwCl (wN κ q 1 kc cp cn ro kn lv be) H := hP
            have hD : va_D A (wN κ q 1 kc cp cn ro kn lv be) := hD
            refine lv_aload_n hx hb dX7_replace_77 rfl (lv_at hl 1 rfl) ?_
            refine va_get (D := D) (ci := 7) (v := .int 1) (C := RX7) (T := TX7) (N := 15) hx hb hts (iwX7_replace_7) hown hK.1 hP 0 rfl rfl 0 (by decide) (hts (.fieldLink RX7 47 "InverterGraphsModel" "thrown" "I") (by decide +kernel)) (fun _ h9 => h9) rfl dX7_replace_78 ?_
            refine lv_if_le (tgt := 86) hx hb dX7_replace_81 (by decide) (fun c_81 => ?_) (fun c_81 => ?_)
            · skip
              exfalso; revert c_81; decide
            · skip
              refine lv_iconst (v := 0) hx hb dX7_replace_84 (by decide) ?_
              exact W.iret (v := 0) hx hb hr (fun t ht hW => ⟨⟨0, ((1, kc, cp, cn, kn), be), rfl, (by unfold m_replace; try unfold m_rpX; rw [nI_clamp (show a < 2 ^ 31 by omega), if_neg c_5, if_neg c_19, if_neg c_29, if_pos c_50]), by rw [ht]; exact hP, hD⟩, hS.F ht⟩) hS.2.2 dX7_replace_85
      · skip
        refine lv_iconst (v := 0) hx hb dX7_replace_32 (by decide) ?_
        refine lv_goto (tgt := 37) hx hb dX7_replace_33 (by decide) ?_
        refine lv_istore_n (lv' := [(3, .int 0), (0, .ref (q 0)), (1, .int (nI a)), (2, .int p1)]) hx hb dX7_replace_37 rfl hl (by decide) rfl (fun ls hl => ?_)
        refine lv_aload_n hx hb dX7_replace_38 rfl (lv_at hl 1 rfl) ?_
        refine lv_iload_n hx hb dX7_replace_39 rfl (lv_at hl 0 rfl) ?_
        refine lv_iconst (v := 1) hx hb dX7_replace_40 (by decide) ?_
        refine lv_icmp_eq (tgt := 53) hx hb dX7_replace_41 (by decide) (fun c_41 => ?_) (fun c_41 => ?_)
        · skip
          exfalso; revert c_41; decide
        · skip
          refine lv_aload_n hx hb dX7_replace_44 rfl (lv_at hl 1 rfl) ?_
          refine lv_iload_n hx hb dX7_replace_45 rfl (lv_at hl 3 rfl) ?_
          refine k_cRO (D := D) (κ := κ) (qc := (RX7, TX7, 15)) (ci := 7) (q0 := 0) ⟨hx, hb, hml, hown, hts⟩ (c_X7_wrong l D κ q th kc cp cn ro kn lv be p1 (by omega) (by omega) (by omega) ) (cwV 1 hts gX7_replace_X7_wrong rfl rfl rfl (by decide +kernel) ⟨Nat.le_of_ble_eq_true rfl, Nat.le_of_ble_eq_true rfl⟩) hK hP rfl rfl (As := [.int p1]) (rest := [.ref (q 0)]) rfl rfl hl.1 (Nat.le_of_ble_eq_true rfl) dX7_replace_46 ⟨Nat.le_of_ble_eq_true rfl, Nat.le_of_ble_eq_true rfl⟩ (fun r hr => ?_)
          subst hr
          refine lv_iconst (v := 1) hx hb dX7_replace_49 (by decide) ?_
          refine lv_icmp_ne (tgt := 57) hx hb dX7_replace_50 (by decide) (fun c_50 => ?_) (fun c_50 => ?_)
          · skip
            refine lv_iload_n hx hb dX7_replace_57 rfl (lv_at hl 0 rfl) ?_
            refine lv_if_gt (tgt := 69) hx hb dX7_replace_58 (by decide) (fun c_58 => ?_) (fun c_58 => ?_)
            · skip
              exfalso; revert c_58; decide
            · skip
              refine lv_aload_n hx hb dX7_replace_61 rfl (lv_at hl 1 rfl) ?_
              refine lv_iload_n hx hb dX7_replace_62 rfl (lv_at hl 3 rfl) ?_
              refine k_cRO (D := D) (κ := κ) (qc := (RX7, TX7, 15)) (ci := 7) (q0 := 0) ⟨hx, hb, hml, hown, hts⟩ (c_X7_wrong l D κ q th kc cp cn ro kn lv be p1 (by omega) (by omega) (by omega) ) (cwV 1 hts gX7_replace_X7_wrong rfl rfl rfl (by decide +kernel) ⟨Nat.le_of_ble_eq_true rfl, Nat.le_of_ble_eq_true rfl⟩) hK hP rfl rfl (As := [.int p1]) (rest := [.ref (q 0)]) rfl rfl hl.1 (Nat.le_of_ble_eq_true rfl) dX7_replace_63 ⟨Nat.le_of_ble_eq_true rfl, Nat.le_of_ble_eq_true rfl⟩ (fun r hr => ?_)
              subst hr
              refine lv_if_le (tgt := 73) hx hb dX7_replace_66 (by decide) (fun c_66 => ?_) (fun c_66 => ?_)
              · skip
                refine lv_iconst (v := 0) hx hb dX7_replace_73 (by decide) ?_
                refine va_put (D := D) (ci := 7) (v := .int 0) (ty := .int) (C := RX7) (T := TX7) (N := 15) hx hb hts (iwX7_replace_7) tyX7 tyX7_ok nmX7 hown hK.1 hP hD hS 0 rfl rfl 0 (by decide) (hts (.fieldLink RX7 47 "InverterGraphsModel" "thrown" "I") (by decide +kernel)) (fun _ h9 => h9) rfl (by decide +kernel) rfl rfl (Nat.le_of_ble_eq_true rfl) dX7_replace_74 (fun H locs hP hD hS => ?_)
                have hP : va_P D vwCl (wN κ q 0 kc cp cn ro kn lv be) H := hP
                have hD : va_D A (wN κ q 0 kc cp cn ro kn lv be) := hD
                refine lv_aload_n hx hb dX7_replace_77 rfl (lv_at hl 1 rfl) ?_
                refine va_get (D := D) (ci := 7) (v := .int 0) (C := RX7) (T := TX7) (N := 15) hx hb hts (iwX7_replace_7) hown hK.1 hP 0 rfl rfl 0 (by decide) (hts (.fieldLink RX7 47 "InverterGraphsModel" "thrown" "I") (by decide +kernel)) (fun _ h9 => h9) rfl dX7_replace_78 ?_
                refine lv_if_le (tgt := 86) hx hb dX7_replace_81 (by decide) (fun c_81 => ?_) (fun c_81 => ?_)
                · skip
                  obtain ⟨b, hvb, rfl, hs5⟩ := m_wrong_ok hnd (m_le1 c_66) c_66
                  have hfc := hcf (b / 2) (by omega)
                  refine lv_aload_n hx hb dX7_replace_86 rfl (lv_at hl 1 rfl) ?_
                  refine lv_iload_n hx hb dX7_replace_87 rfl (lv_at hl 3 rfl) ?_
                  refine lv_iconst (v := 2) hx hb dX7_replace_88 (by decide) ?_
                  refine lv_idiv hx hb dX7_replace_89 (by decide) ?_
                  refine lv_topi (nm_r (pk_div (a := b) (d := 2) (by omega) (by omega) (by omega)) ?_)
                  refine k_cWUv (D := D) (κ := κ) (qc := (RX7, TX7, 15)) (ci := 7) (q0 := 0) ⟨hx, hb, hml, hown, hts⟩ (c_X7_cone l D κ _ q 0 kc cp cn ro kn lv be (b / 2) K (by omega) (by omega) (by omega) (by omega) (by assumption) (by assumption)) (cwV 1 hts gX7_replace_X7_cone rfl rfl rfl (by decide +kernel) ⟨Nat.le_of_ble_eq_true rfl, Nat.le_of_ble_eq_true rfl⟩) hK hP hD hS hA rfl rfl (As := [.int (nI (b / 2))]) (rest := []) rfl rfl hl.1 (Nat.le_of_ble_eq_true rfl) dX7_replace_90 ⟨Nat.le_of_ble_eq_true rfl, Nat.le_of_ble_eq_true rfl⟩ (fun u_90 H locs hw9 hP hD hS => ?_)
                  have hu_90 := hw9
                  have hP : va_P D vwCl (wN κ q 0 kc cp cn ro kn lv u_90) H := hP
                  have hD : va_D A (wN κ q 0 kc cp cn ro kn lv u_90) := hD
                  refine lv_aload_n hx hb dX7_replace_93 rfl (lv_at hl 1 rfl) ?_
                  refine va_get (D := D) (ci := 7) (v := .ref (q 10)) (C := RX7) (T := TX7) (N := 15) hx hb hts (iwX7_replace_7) hown hK.1 hP 0 rfl rfl 14 (by decide) (hts (.fieldLink RX7 40 "InverterGraphsModel" "below" "[Z") (by decide +kernel)) (fun _ h9 => h9) rfl dX7_replace_94 ?_
                  refine lv_iload_n hx hb dX7_replace_97 rfl (lv_at hl 2 rfl) ?_
                  refine k_zald (D := D) (j := a) hx hb hK.1 hP 10 2 rfl rfl (by omega) (by omega) dX7_replace_98 ?_
                  refine lv_if_eq (tgt := 104) hx hb dX7_replace_99 (by decide) (fun c_99 => ?_) (fun c_99 => ?_)
                  · skip
                    have hrl9 := hrl a b hva (Or.inr c_29) hvb hs5 (by rw [← hu_90]; exact c_99)
                    refine lv_aload_n hx hb dX7_replace_104 rfl (lv_at hl 1 rfl) ?_
                    refine k_cWUv (D := D) (κ := κ) (qc := (RX7, TX7, 15)) (ci := 7) (q0 := 0) ⟨hx, hb, hml, hown, hts⟩ (c_X7_save l D κ _ q 0 kc cp cn ro kn lv u_90  (by omega) (by omega) (by omega)) (cwV 0 hts gX7_replace_X7_save rfl rfl rfl (by decide +kernel) ⟨Nat.le_of_ble_eq_true rfl, Nat.le_of_ble_eq_true rfl⟩) hK hP hD hS hA rfl rfl (As := []) (rest := []) rfl rfl hl.1 (Nat.le_of_ble_eq_true rfl) dX7_replace_105 ⟨Nat.le_of_ble_eq_true rfl, Nat.le_of_ble_eq_true rfl⟩ (fun u_105 H locs hw9 hP hD hS => ?_)
                    have hu_105 := hw9
                    have hq_105 : u_105.2 ≤ 30 := by rw [hu_105]; exact m_save_le _ _ (by omega)
                    have hP : va_P D vwCl (wN κ q 0 kc u_105.1 u_105.2 ro 0 lv u_90) H := hP
                    have hD : va_D A (wN κ q 0 kc u_105.1 u_105.2 ro 0 lv u_90) := hD
                    refine lv_aload_n hx hb dX7_replace_108 rfl (lv_at hl 1 rfl) ?_
                    refine lv_iload_n hx hb dX7_replace_109 rfl (lv_at hl 2 rfl) ?_
                    refine lv_iload_n hx hb dX7_replace_110 rfl (lv_at hl 3 rfl) ?_
                    refine k_cWUv (D := D) (κ := κ) (qc := (RX7, TX7, 15)) (ci := 7) (q0 := 0) ⟨hx, hb, hml, hown, hts⟩ (c_X7_leave l D κ _ q 0 kc u_105.1 u_105.2 ro 0 lv u_90 a (nI b) (by omega) (by omega) (by omega) (by omega)) (cwV 2 hts gX7_replace_X7_leave rfl rfl rfl (by decide +kernel) ⟨Nat.le_of_ble_eq_true rfl, Nat.le_of_ble_eq_true rfl⟩) hK hP hD hS hA rfl rfl (As := [.int (nI a), .int (nI b)]) (rest := []) rfl rfl hl.1 (Nat.le_of_ble_eq_true rfl) dX7_replace_111 ⟨Nat.le_of_ble_eq_true rfl, Nat.le_of_ble_eq_true rfl⟩ (fun _ H locs hw9 hP hD hS => ?_)
                    have hP : va_P D vwCl (wN κ q 0 (m_leave a (nI b) kc) u_105.1 u_105.2 ro 0 lv u_90) H := hP
                    have hD : va_D A (wN κ q 0 (m_leave a (nI b) kc) u_105.1 u_105.2 ro 0 lv u_90) := hD
                    have rest : ∀ (x : KC) (H : Heap) (locs : List Loc) (ls : Array Slot), (m_ok K x) → (m_rL K K2 (m_leave a (nI b) kc) = x) → va_P D vwCl (wN κ q 0 x u_105.1 u_105.2 ro 0 lv u_90) H → va_D A (wN κ q 0 x u_105.1 u_105.2 ro 0 lv u_90) → va_S A s.heap H locs → lv_has ls 6 [(0, .ref (q 0))] → W p l e (headSpec wsX7_replace ({ frames := 2, cells := 0, slots := 0, locals := 49 })).room s m ([.ref (q 0), .int (nI a), .int (nI b)] : List Value).toArray below meth c H locs 0 0 (MQ below (va_Qi (S := (KX × (Nat → Int32))) (fun r u => (r, u) = m_replace K K2 kc cp cn kn be (nI a) (nI b)) (fun u => k_B D A (wN κ q u.1.1 u.1.2.1 u.1.2.2.1 u.1.2.2.2.1 ro u.1.2.2.2.2 lv u.2)) A) ([.ref (q 0), .int (nI a), .int (nI b)] : List Value).toArray s 0 0 A) (F0 m 199 ls []) := by
                      intro x H locs ls hok9 hx8 hP hD hS hl
                      obtain ⟨hn1, ho1, hl1, hs1, hs2, hs3⟩ := hok9
                      have l9b : ∀ (k i : Nat) (H : Heap) (locs : List Loc) (ls : Array Slot), (i + k = moc x) → va_P D vwCl (wN κ q 0 (mso x, m_rlt K x (mnd x), mtw x, mst x, mnd x, m_rot K x i, mbo x, moc x) u_105.1 u_105.2 ro 0 lv u_90) H → va_D A (wN κ q 0 (mso x, m_rlt K x (mnd x), mtw x, mst x, mnd x, m_rot K x i, mbo x, moc x) u_105.1 u_105.2 ro 0 lv u_90) → va_S A s.heap H locs → lv_has ls 6 [(0, .ref (q 0)), (5, .int (nI i))] → W p l e (headSpec wsX7_replace ({ frames := 2, cells := 0, slots := 0, locals := 49 })).room s m ([.ref (q 0), .int (nI a), .int (nI b)] : List Value).toArray below meth c H locs 0 0 (MQ below (va_Qi (S := (KX × (Nat → Int32))) (fun r u => (r, u) = m_replace K K2 kc cp cn kn be (nI a) (nI b)) (fun u => k_B D A (wN κ q u.1.1 u.1.2.1 u.1.2.2.1 u.1.2.2.2.1 ro u.1.2.2.2.2 lv u.2)) A) ([.ref (q 0), .int (nI a), .int (nI b)] : List Value).toArray s 0 0 A) (F0 m 259 ls []) := by
                        intro k
                        induction k with
                        | zero =>
                          intro i H locs ls hi hP hD hS hl
                          refine lv_iload hx hb dX7_replace_259 (lv_at hl 1 rfl) ?_
                          refine lv_aload_n hx hb dX7_replace_261 rfl (lv_at hl 0 rfl) ?_
                          refine va_get (D := D) (ci := 7) (v := .int (nI (moc x))) (C := RX7) (T := TX7) (N := 15) hx hb hts (iwX7_replace_7) hown hK.1 hP 0 rfl rfl 8 (by decide) (hts (.fieldLink RX7 54 "InverterGraphsModel" "outputCount" "I") (by decide +kernel)) (fun _ h9 => h9) rfl dX7_replace_262 ?_
                          refine lv_icmp_ge (tgt := 292) hx hb dX7_replace_265 (by decide) (fun c_265 => ?_) (fun c_265 => ?_)
                          · skip
                            have c_265 : (moc x) ≤ i := (nI_leI (a := (moc x)) (b := i) (by omega) (by omega)).mp c_265
                            have e9 : moc x = i := by omega
                            subst e9
                            refine lv_iconst (v := 0) hx hb dX7_replace_292 (by decide) ?_
                            exact W.iret (v := 0) hx hb hr (fun t ht hW => ⟨⟨0, ((0, (mso x, m_rlt K x (mnd x), mtw x, mst x, mnd x, m_rot K x (moc x), mbo x, moc x), u_105.1, u_105.2, 0), u_90), rfl, (by unfold m_replace m_rpX; rw [nI_clamp (show a < 2 ^ 31 by omega), nI_clamp (show b < 2 ^ 31 by omega), if_neg c_5, if_neg c_19, if_pos c_29, if_neg c_50, if_pos c_66]; unfold m_rpZ m_rpB m_sv; rw [← hu_90, ← hu_105, if_pos c_99, hx8] <;> rfl), by rw [ht]; exact hP, hD⟩, hS.F ht⟩) hS.2.2 dX7_replace_293
                          · skip
                            have c_265 : ¬ ((moc x) ≤ i) := fun h9 => c_265 ((nI_leI (a := (moc x)) (b := i) (by omega) (by omega)).mpr h9)
                            exfalso; omega
                        | succ k ih =>
                          intro i H locs ls hi hP hD hS hl
                          refine lv_iload hx hb dX7_replace_259 (lv_at hl 1 rfl) ?_
                          refine lv_aload_n hx hb dX7_replace_261 rfl (lv_at hl 0 rfl) ?_
                          refine va_get (D := D) (ci := 7) (v := .int (nI (moc x))) (C := RX7) (T := TX7) (N := 15) hx hb hts (iwX7_replace_7) hown hK.1 hP 0 rfl rfl 8 (by decide) (hts (.fieldLink RX7 54 "InverterGraphsModel" "outputCount" "I") (by decide +kernel)) (fun _ h9 => h9) rfl dX7_replace_262 ?_
                          refine lv_icmp_ge (tgt := 292) hx hb dX7_replace_265 (by decide) (fun c_265 => ?_) (fun c_265 => ?_)
                          · skip
                            have c_265 : (moc x) ≤ i := (nI_leI (a := (moc x)) (b := i) (by omega) (by omega)).mp c_265
                            exfalso; omega
                          · skip
                            have c_265 : ¬ ((moc x) ≤ i) := fun h9 => c_265 ((nI_leI (a := (moc x)) (b := i) (by omega) (by omega)).mpr h9)
                            have hn8 : mnd (mso x, m_rlt K x (mnd x), mtw x, mst x, mnd x, m_rot K x i, mbo x, moc x) = mnd x := rfl
                            have ho8 : moc (mso x, m_rlt K x (mnd x), mtw x, mst x, mnd x, m_rot K x i, mbo x, moc x) = moc x := rfl
                            have hs9 : m_stF (mso x, m_rlt K x (mnd x), mtw x, mst x, mnd x, m_rot K x i, mbo x, moc x) K (mou x i) := m_stF_congr (c := x) (d := (mso x, m_rlt K x (mnd x), mtw x, mst x, mnd x, m_rot K x i, mbo x, moc x)) rfl rfl rfl K _ (hs3 i (by omega))
                            refine lv_aload_n hx hb dX7_replace_268 rfl (lv_at hl 0 rfl) ?_
                            refine va_get (D := D) (ci := 7) (v := .ref (q 5)) (C := RX7) (T := TX7) (N := 15) hx hb hts (iwX7_replace_7) hown hK.1 hP 0 rfl rfl 6 (by decide) (hts (.fieldLink RX7 22 "InverterGraphsModel" "outputs" "[I") (by decide +kernel)) (fun _ h9 => h9) rfl dX7_replace_269 ?_
                            refine lv_iload hx hb dX7_replace_272 (lv_at hl 1 rfl) ?_
                            refine lv_aload_n hx hb dX7_replace_274 rfl (lv_at hl 0 rfl) ?_
                            refine lv_aload_n hx hb dX7_replace_275 rfl (lv_at hl 0 rfl) ?_
                            refine va_get (D := D) (ci := 7) (v := .ref (q 5)) (C := RX7) (T := TX7) (N := 15) hx hb hts (iwX7_replace_7) hown hK.1 hP 0 rfl rfl 6 (by decide) (hts (.fieldLink RX7 22 "InverterGraphsModel" "outputs" "[I") (by decide +kernel)) (fun _ h9 => h9) rfl dX7_replace_276 ?_
                            refine lv_iload hx hb dX7_replace_279 (lv_at hl 1 rfl) ?_
                            refine k_iald (D := D) (j := i) hx hb hK.1 hP 5 0 rfl rfl (by omega) (by omega) dX7_replace_281 ?_
                            refine lv_topi (nm_r (show nI (m_rot K x i i) = nI (mou x i) by rw [m_rot_at]) ?_)
                            refine k_cRO (D := D) (κ := κ) (qc := (RX7, TX7, 15)) (ci := 7) (q0 := 0) ⟨hx, hb, hml, hown, hts⟩ (c_X7_standing l D κ q 0 (mso x, m_rlt K x (mnd x), mtw x, mst x, mnd x, m_rot K x i, mbo x, moc x) u_105.1 u_105.2 ro 0 lv u_90 (mou x i) K (by omega) (by omega) (by omega) (by assumption)) (cwV 1 hts gX7_replace_X7_standing rfl rfl rfl (by decide +kernel) ⟨Nat.le_of_ble_eq_true rfl, Nat.le_of_ble_eq_true rfl⟩) hK hP rfl rfl (As := [.int (nI (mou x i))]) (rest := [.int (nI i), .ref (q 5)]) rfl rfl hl.1 (Nat.le_of_ble_eq_true rfl) dX7_replace_282 ⟨Nat.le_of_ble_eq_true rfl, Nat.le_of_ble_eq_true rfl⟩ (fun r hr => ?_)
                            subst hr
                            refine lv_topi (nm_r (show nI (m_st (mso x, m_rlt K x (mnd x), mtw x, mst x, mnd x, m_rot K x i, mbo x, moc x) K (mou x i)) = nI (m_st x K (mou x i)) by rw [m_st_congr (c := (mso x, m_rlt K x (mnd x), mtw x, mst x, mnd x, m_rot K x i, mbo x, moc x)) (d := x) rfl rfl]) ?_)
                            refine k_iastN (D := D) (j := i) (x := m_st x K (mou x i)) hx hb hK.1 hP hD hS 5 0 rfl rfl (by omega) (by omega) dX7_replace_285 (fun H locs hP hD hS => ?_)
                            have hP : va_P D vwCl (wN κ q 0 (mso x, m_rlt K x (mnd x), mtw x, mst x, mnd x, k_un (m_rot K x i) i (m_st x K (mou x i)), mbo x, moc x) u_105.1 u_105.2 ro 0 lv u_90) H := hP
                            have hD : va_D A (wN κ q 0 (mso x, m_rlt K x (mnd x), mtw x, mst x, mnd x, k_un (m_rot K x i) i (m_st x K (mou x i)), mbo x, moc x) u_105.1 u_105.2 ro 0 lv u_90) := hD
                            refine lv_iinc (v := nI (i + 1)) (lv' := [(5, .int (nI (i + 1))), (0, .ref (q 0))]) hx hb dX7_replace_286 hl (k := 1) rfl (nI_1 _) (by decide) rfl (fun ls hl => ?_)
                            refine lv_goto (tgt := 259) hx hb dX7_replace_289 (by decide) ?_
                            exact ih (i + 1) H locs ls (by omega) (by rw [← m_rot_s]; exact hP) (by rw [← m_rot_s]; exact hD) hS (lv_sub hl [1, 0] rfl)
                      have l9a : ∀ (k i : Nat) (H : Heap) (locs : List Loc) (ls : Array Slot), (i + k = mnd x) → va_P D vwCl (wN κ q 0 (mso x, m_rlt K x i, mtw x, mst x, mnd x, mou x, mbo x, moc x) u_105.1 u_105.2 ro 0 lv u_90) H → va_D A (wN κ q 0 (mso x, m_rlt K x i, mtw x, mst x, mnd x, mou x, mbo x, moc x) u_105.1 u_105.2 ro 0 lv u_90) → va_S A s.heap H locs → lv_has ls 6 [(0, .ref (q 0)), (5, .int (nI i))] → W p l e (headSpec wsX7_replace ({ frames := 2, cells := 0, slots := 0, locals := 49 })).room s m ([.ref (q 0), .int (nI a), .int (nI b)] : List Value).toArray below meth c H locs 0 0 (MQ below (va_Qi (S := (KX × (Nat → Int32))) (fun r u => (r, u) = m_replace K K2 kc cp cn kn be (nI a) (nI b)) (fun u => k_B D A (wN κ q u.1.1 u.1.2.1 u.1.2.2.1 u.1.2.2.2.1 ro u.1.2.2.2.2 lv u.2)) A) ([.ref (q 0), .int (nI a), .int (nI b)] : List Value).toArray s 0 0 A) (F0 m 202 ls []) := by
                        intro k
                        induction k with
                        | zero =>
                          intro i H locs ls hi hP hD hS hl
                          refine lv_iload hx hb dX7_replace_202 (lv_at hl 1 rfl) ?_
                          refine lv_aload_n hx hb dX7_replace_204 rfl (lv_at hl 0 rfl) ?_
                          refine va_get (D := D) (ci := 7) (v := .int (nI (mnd x))) (C := RX7) (T := TX7) (N := 15) hx hb hts (iwX7_replace_7) hown hK.1 hP 0 rfl rfl 5 (by decide) (hts (.fieldLink RX7 43 "InverterGraphsModel" "nodes" "I") (by decide +kernel)) (fun _ h9 => h9) rfl dX7_replace_205 ?_
                          refine lv_icmp_ge (tgt := 256) hx hb dX7_replace_208 (by decide) (fun c_208 => ?_) (fun c_208 => ?_)
                          · skip
                            have c_208 : (mnd x) ≤ i := (nI_leI (a := (mnd x)) (b := i) (by omega) (by omega)).mp c_208
                            have e9 : mnd x = i := by omega
                            subst e9
                            refine lv_iconst (v := 0) hx hb dX7_replace_256 (by decide) ?_
                            refine lv_istore (lv' := [(5, .int 0), (0, .ref (q 0))]) hx hb dX7_replace_257 hl (by decide) rfl (fun ls hl => ?_)
                            exact l9b (moc x) 0 H locs ls (by omega) (by rw [m_rot_0]; exact hP) (by rw [m_rot_0]; exact hD) hS (lv_sub hl [1, 0] rfl)
                          · skip
                            have c_208 : ¬ ((mnd x) ≤ i) := fun h9 => c_208 ((nI_leI (a := (mnd x)) (b := i) (by omega) (by omega)).mpr h9)
                            exfalso; omega
                        | succ k ih =>
                          intro i H locs ls hi hP hD hS hl
                          refine lv_iload hx hb dX7_replace_202 (lv_at hl 1 rfl) ?_
                          refine lv_aload_n hx hb dX7_replace_204 rfl (lv_at hl 0 rfl) ?_
                          refine va_get (D := D) (ci := 7) (v := .int (nI (mnd x))) (C := RX7) (T := TX7) (N := 15) hx hb hts (iwX7_replace_7) hown hK.1 hP 0 rfl rfl 5 (by decide) (hts (.fieldLink RX7 43 "InverterGraphsModel" "nodes" "I") (by decide +kernel)) (fun _ h9 => h9) rfl dX7_replace_205 ?_
                          refine lv_icmp_ge (tgt := 256) hx hb dX7_replace_208 (by decide) (fun c_208 => ?_) (fun c_208 => ?_)
                          · skip
                            have c_208 : (mnd x) ≤ i := (nI_leI (a := (mnd x)) (b := i) (by omega) (by omega)).mp c_208
                            exfalso; omega
                          · skip
                            have c_208 : ¬ ((mnd x) ≤ i) := fun h9 => c_208 ((nI_leI (a := (mnd x)) (b := i) (by omega) (by omega)).mpr h9)
                            refine lv_aload_n hx hb dX7_replace_211 rfl (lv_at hl 0 rfl) ?_
                            refine va_get (D := D) (ci := 7) (v := .ref (q 2)) (C := RX7) (T := TX7) (N := 15) hx hb hts (iwX7_replace_7) hown hK.1 hP 0 rfl rfl 2 (by decide) (hts (.fieldLink RX7 13 "InverterGraphsModel" "ones" "[I") (by decide +kernel)) (fun _ h9 => h9) rfl dX7_replace_212 ?_
                            refine lv_iload hx hb dX7_replace_215 (lv_at hl 1 rfl) ?_
                            refine lv_aload_n hx hb dX7_replace_217 rfl (lv_at hl 0 rfl) ?_
                            refine va_get (D := D) (ci := 7) (v := .ref (q 1)) (C := RX7) (T := TX7) (N := 15) hx hb hts (iwX7_replace_7) hown hK.1 hP 0 rfl rfl 1 (by decide) (hts (.fieldLink RX7 7 "InverterGraphsModel" "sorts" "[I") (by decide +kernel)) (fun _ h9 => h9) rfl dX7_replace_218 ?_
                            refine lv_iload hx hb dX7_replace_221 (lv_at hl 1 rfl) ?_
                            refine k_iald (D := D) (j := i) hx hb hK.1 hP 1 0 rfl rfl (by omega) (by omega) dX7_replace_223 ?_
                            refine lv_iconst (v := 3) hx hb dX7_replace_224 (by decide) ?_
                            refine lv_icmp_ne (tgt := 242) hx hb dX7_replace_225 (by decide) (fun c_225 => ?_) (fun c_225 => ?_)
                            · skip
                              refine lv_aload_n hx hb dX7_replace_242 rfl (lv_at hl 0 rfl) ?_
                              refine va_get (D := D) (ci := 7) (v := .ref (q 2)) (C := RX7) (T := TX7) (N := 15) hx hb hts (iwX7_replace_7) hown hK.1 hP 0 rfl rfl 2 (by decide) (hts (.fieldLink RX7 13 "InverterGraphsModel" "ones" "[I") (by decide +kernel)) (fun _ h9 => h9) rfl dX7_replace_243 ?_
                              refine lv_iload hx hb dX7_replace_246 (lv_at hl 1 rfl) ?_
                              refine k_iald (D := D) (j := i) hx hb hK.1 hP 2 0 rfl rfl (by omega) (by omega) dX7_replace_248 ?_
                              refine lv_topi (nm_r (show nI (m_rlt K x i i) = nI (mon x i) by rw [m_rlt_at]) ?_)
                              refine k_iastN (D := D) (j := i) (x := mon x i) hx hb hK.1 hP hD hS 2 0 rfl rfl (by omega) (by omega) dX7_replace_249 (fun H locs hP hD hS => ?_)
                              have hP : va_P D vwCl (wN κ q 0 (mso x, k_un (m_rlt K x i) i (mon x i), mtw x, mst x, mnd x, mou x, mbo x, moc x) u_105.1 u_105.2 ro 0 lv u_90) H := hP
                              have hD : va_D A (wN κ q 0 (mso x, k_un (m_rlt K x i) i (mon x i), mtw x, mst x, mnd x, mou x, mbo x, moc x) u_105.1 u_105.2 ro 0 lv u_90) := hD
                              refine lv_iinc (v := nI (i + 1)) (lv' := [(5, .int (nI (i + 1))), (0, .ref (q 0))]) hx hb dX7_replace_250 hl (k := 1) rfl (nI_1 _) (by decide) rfl (fun ls hl => ?_)
                              refine lv_goto (tgt := 202) hx hb dX7_replace_253 (by decide) ?_
                              exact ih (i + 1) H locs ls (by omega) (by rw [← m_rlt_n (show ¬ mso x i = 3 from c_225)]; exact hP) (by rw [← m_rlt_n (show ¬ mso x i = 3 from c_225)]; exact hD) hS (lv_sub hl [1, 0] rfl)
                            · skip
                              have hn8 : mnd (mso x, m_rlt K x i, mtw x, mst x, mnd x, mou x, mbo x, moc x) = mnd x := rfl
                              have ho8 : moc (mso x, m_rlt K x i, mtw x, mst x, mnd x, mou x, mbo x, moc x) = moc x := rfl
                              have hs9 : m_stF (mso x, m_rlt K x i, mtw x, mst x, mnd x, mou x, mbo x, moc x) K (mon x i) := m_stF_congr (c := x) (d := (mso x, m_rlt K x i, mtw x, mst x, mnd x, mou x, mbo x, moc x)) rfl rfl rfl K _ (hs1 i (by omega) (Or.inr c_225))
                              refine lv_aload_n hx hb dX7_replace_228 rfl (lv_at hl 0 rfl) ?_
                              refine lv_aload_n hx hb dX7_replace_229 rfl (lv_at hl 0 rfl) ?_
                              refine va_get (D := D) (ci := 7) (v := .ref (q 2)) (C := RX7) (T := TX7) (N := 15) hx hb hts (iwX7_replace_7) hown hK.1 hP 0 rfl rfl 2 (by decide) (hts (.fieldLink RX7 13 "InverterGraphsModel" "ones" "[I") (by decide +kernel)) (fun _ h9 => h9) rfl dX7_replace_230 ?_
                              refine lv_iload hx hb dX7_replace_233 (lv_at hl 1 rfl) ?_
                              refine k_iald (D := D) (j := i) hx hb hK.1 hP 2 0 rfl rfl (by omega) (by omega) dX7_replace_235 ?_
                              refine lv_topi (nm_r (show nI (m_rlt K x i i) = nI (mon x i) by rw [m_rlt_at]) ?_)
                              refine k_cRO (D := D) (κ := κ) (qc := (RX7, TX7, 15)) (ci := 7) (q0 := 0) ⟨hx, hb, hml, hown, hts⟩ (c_X7_standing l D κ q 0 (mso x, m_rlt K x i, mtw x, mst x, mnd x, mou x, mbo x, moc x) u_105.1 u_105.2 ro 0 lv u_90 (mon x i) K (by omega) (by omega) (by omega) (by assumption)) (cwV 1 hts gX7_replace_X7_standing rfl rfl rfl (by decide +kernel) ⟨Nat.le_of_ble_eq_true rfl, Nat.le_of_ble_eq_true rfl⟩) hK hP rfl rfl (As := [.int (nI (mon x i))]) (rest := [.int (nI i), .ref (q 2)]) rfl rfl hl.1 (Nat.le_of_ble_eq_true rfl) dX7_replace_236 ⟨Nat.le_of_ble_eq_true rfl, Nat.le_of_ble_eq_true rfl⟩ (fun r hr => ?_)
                              subst hr
                              refine lv_topi (nm_r (show nI (m_st (mso x, m_rlt K x i, mtw x, mst x, mnd x, mou x, mbo x, moc x) K (mon x i)) = nI (m_st x K (mon x i)) by rw [m_st_congr (c := (mso x, m_rlt K x i, mtw x, mst x, mnd x, mou x, mbo x, moc x)) (d := x) rfl rfl]) ?_)
                              refine lv_goto (tgt := 249) hx hb dX7_replace_239 (by decide) ?_
                              refine k_iastN (D := D) (j := i) (x := m_st x K (mon x i)) hx hb hK.1 hP hD hS 2 0 rfl rfl (by omega) (by omega) dX7_replace_249 (fun H locs hP hD hS => ?_)
                              have hP : va_P D vwCl (wN κ q 0 (mso x, k_un (m_rlt K x i) i (m_st x K (mon x i)), mtw x, mst x, mnd x, mou x, mbo x, moc x) u_105.1 u_105.2 ro 0 lv u_90) H := hP
                              have hD : va_D A (wN κ q 0 (mso x, k_un (m_rlt K x i) i (m_st x K (mon x i)), mtw x, mst x, mnd x, mou x, mbo x, moc x) u_105.1 u_105.2 ro 0 lv u_90) := hD
                              refine lv_iinc (v := nI (i + 1)) (lv' := [(5, .int (nI (i + 1))), (0, .ref (q 0))]) hx hb dX7_replace_250 hl (k := 1) rfl (nI_1 _) (by decide) rfl (fun ls hl => ?_)
                              refine lv_goto (tgt := 202) hx hb dX7_replace_253 (by decide) ?_
                              exact ih (i + 1) H locs ls (by omega) (by rw [← m_rlt_y (show mso x i = 3 from c_225)]; exact hP) (by rw [← m_rlt_y (show mso x i = 3 from c_225)]; exact hD) hS (lv_sub hl [1, 0] rfl)
                      refine lv_iconst (v := 0) hx hb dX7_replace_199 (by decide) ?_
                      refine lv_istore (lv' := [(5, .int 0), (0, .ref (q 0))]) hx hb dX7_replace_200 hl (by decide) rfl (fun ls hl => ?_)
                      exact l9a (mnd x) 0 H locs ls (by omega) (by rw [m_rlt_0]; exact hP) (by rw [m_rlt_0]; exact hD) hS (lv_sub hl [1, 0] rfl)
                    refine lv_iconst (v := 1) hx hb dX7_replace_114 (by decide) ?_
                    refine lv_istore (lv' := [(4, .int 1), (3, .int 0), (0, .ref (q 0)), (1, .int (nI a)), (2, .int (nI b))]) hx hb dX7_replace_115 hl (by decide) rfl (fun ls hl => ?_)
                    have lo : ∀ (k : Nat) (x : KC) (H : Heap) (locs : List Loc) (ls : Array Slot), (m_rlF K k x) → (m_rL K K2 (m_leave a (nI b) kc) = m_rL K k x) → va_P D vwCl (wN κ q 0 x u_105.1 u_105.2 ro 0 lv u_90) H → va_D A (wN κ q 0 x u_105.1 u_105.2 ro 0 lv u_90) → va_S A s.heap H locs → lv_has ls 6 [(0, .ref (q 0)), (4, .int 1)] → W p l e (headSpec wsX7_replace ({ frames := 2, cells := 0, slots := 0, locals := 49 })).room s m ([.ref (q 0), .int (nI a), .int (nI b)] : List Value).toArray below meth c H locs 0 0 (MQ below (va_Qi (S := (KX × (Nat → Int32))) (fun r u => (r, u) = m_replace K K2 kc cp cn kn be (nI a) (nI b)) (fun u => k_B D A (wN κ q u.1.1 u.1.2.1 u.1.2.2.1 u.1.2.2.2.1 ro u.1.2.2.2.2 lv u.2)) A) ([.ref (q 0), .int (nI a), .int (nI b)] : List Value).toArray s 0 0 A) (F0 m 117 ls []) := by
                      intro k
                      induction k with
                      | zero =>
                        intro x H locs ls hf9 hr9 hP hD hS hl
                        obtain ⟨hn1, ho1, hl1, hs1, hs2, hs3⟩ := m_rlF_ok hf9
                        refine lv_iload hx hb dX7_replace_117 (lv_at hl 1 rfl) ?_
                        refine lv_if_eq (tgt := 199) hx hb dX7_replace_119 (by decide) (fun c_119 => ?_) (fun c_119 => ?_)
                        · skip
                          exfalso; revert c_119; decide
                        · skip
                          refine lv_iconst (v := 0) hx hb dX7_replace_122 (by decide) ?_
                          refine lv_istore (lv' := [(4, .int 0), (0, .ref (q 0))]) hx hb dX7_replace_123 hl (by decide) rfl (fun ls hl => ?_)
                          refine lv_iconst (v := 0) hx hb dX7_replace_125 (by decide) ?_
                          refine lv_istore (lv' := [(5, .int 0), (4, .int 0), (0, .ref (q 0))]) hx hb dX7_replace_126 hl (by decide) rfl (fun ls hl => ?_)
                          have li : ∀ (k2 i : Nat) (H : Heap) (locs : List Loc) (ls : Array Slot), (i + k2 = mnd x) → (m_fod x (mnd x) 0 = m_fod x k2 i) → va_P D vwCl (wN κ q 0 x u_105.1 u_105.2 ro 0 lv u_90) H → va_D A (wN κ q 0 x u_105.1 u_105.2 ro 0 lv u_90) → va_S A s.heap H locs → lv_has ls 6 [(0, .ref (q 0)), (4, .int 0), (5, .int (nI i))] → W p l e (headSpec wsX7_replace ({ frames := 2, cells := 0, slots := 0, locals := 49 })).room s m ([.ref (q 0), .int (nI a), .int (nI b)] : List Value).toArray below meth c H locs 0 0 (MQ below (va_Qi (S := (KX × (Nat → Int32))) (fun r u => (r, u) = m_replace K K2 kc cp cn kn be (nI a) (nI b)) (fun u => k_B D A (wN κ q u.1.1 u.1.2.1 u.1.2.2.1 u.1.2.2.2.1 ro u.1.2.2.2.2 lv u.2)) A) ([.ref (q 0), .int (nI a), .int (nI b)] : List Value).toArray s 0 0 A) (F0 m 128 ls []) := by
                            intro k2
                            induction k2 with
                            | zero =>
                              intro i H locs ls hi hm9 hP hD hS hl
                              refine lv_iload hx hb dX7_replace_128 (lv_at hl 2 rfl) ?_
                              refine lv_aload_n hx hb dX7_replace_130 rfl (lv_at hl 0 rfl) ?_
                              refine va_get (D := D) (ci := 7) (v := .int (nI (mnd x))) (C := RX7) (T := TX7) (N := 15) hx hb hts (iwX7_replace_7) hown hK.1 hP 0 rfl rfl 5 (by decide) (hts (.fieldLink RX7 43 "InverterGraphsModel" "nodes" "I") (by decide +kernel)) (fun _ h9 => h9) rfl dX7_replace_131 ?_
                              refine lv_icmp_ge (tgt := 196) hx hb dX7_replace_134 (by decide) (fun c_134 => ?_) (fun c_134 => ?_)
                              · skip
                                have c_134 : (mnd x) ≤ i := (nI_leI (a := (mnd x)) (b := i) (by omega) (by omega)).mp c_134
                                have e9 : mnd x = i := by omega
                                subst e9
                                refine lv_goto (tgt := 117) hx hb dX7_replace_196 (by decide) ?_
                                refine lv_iload hx hb dX7_replace_117 (lv_at hl 1 rfl) ?_
                                refine lv_if_eq (tgt := 199) hx hb dX7_replace_119 (by decide) (fun c_119 => ?_) (fun c_119 => ?_)
                                · skip
                                  exact rest x H locs ls (m_rlF_ok hf9) (by rw [hr9]; rw [m_rL]) hP hD hS (lv_sub hl [0] rfl)
                                · skip
                                  exfalso; exact c_119 rfl
                              · skip
                                have c_134 : ¬ ((mnd x) ≤ i) := fun h9 => c_134 ((nI_leI (a := (mnd x)) (b := i) (by omega) (by omega)).mpr h9)
                                exfalso; omega
                            | succ k2 ih =>
                              intro i H locs ls hi hm9 hP hD hS hl
                              refine lv_iload hx hb dX7_replace_128 (lv_at hl 2 rfl) ?_
                              refine lv_aload_n hx hb dX7_replace_130 rfl (lv_at hl 0 rfl) ?_
                              refine va_get (D := D) (ci := 7) (v := .int (nI (mnd x))) (C := RX7) (T := TX7) (N := 15) hx hb hts (iwX7_replace_7) hown hK.1 hP 0 rfl rfl 5 (by decide) (hts (.fieldLink RX7 43 "InverterGraphsModel" "nodes" "I") (by decide +kernel)) (fun _ h9 => h9) rfl dX7_replace_131 ?_
                              refine lv_icmp_ge (tgt := 196) hx hb dX7_replace_134 (by decide) (fun c_134 => ?_) (fun c_134 => ?_)
                              · skip
                                have c_134 : (mnd x) ≤ i := (nI_leI (a := (mnd x)) (b := i) (by omega) (by omega)).mp c_134
                                exfalso; omega
                              · skip
                                have c_134 : ¬ ((mnd x) ≤ i) := fun h9 => c_134 ((nI_leI (a := (mnd x)) (b := i) (by omega) (by omega)).mpr h9)
                                refine lv_iload hx hb dX7_replace_137 (lv_at hl 1 rfl) ?_
                                refine lv_if_ne (tgt := 196) hx hb dX7_replace_139 (by decide) (fun c_139 => ?_) (fun c_139 => ?_)
                                · skip
                                  exfalso; revert c_139; decide
                                · skip
                                  refine lv_aload_n hx hb dX7_replace_142 rfl (lv_at hl 0 rfl) ?_
                                  refine va_get (D := D) (ci := 7) (v := .ref (q 1)) (C := RX7) (T := TX7) (N := 15) hx hb hts (iwX7_replace_7) hown hK.1 hP 0 rfl rfl 1 (by decide) (hts (.fieldLink RX7 7 "InverterGraphsModel" "sorts" "[I") (by decide +kernel)) (fun _ h9 => h9) rfl dX7_replace_143 ?_
                                  refine lv_iload hx hb dX7_replace_146 (lv_at hl 2 rfl) ?_
                                  refine k_iald (D := D) (j := i) hx hb hK.1 hP 1 0 rfl rfl (by omega) (by omega) dX7_replace_148 ?_
                                  refine lv_iconst (v := 2) hx hb dX7_replace_149 (by decide) ?_
                                  refine lv_icmp_ne (tgt := 190) hx hb dX7_replace_150 (by decide) (fun c_150 => ?_) (fun c_150 => ?_)
                                  · skip
                                    refine lv_iinc (v := nI (i + 1)) (lv' := [(5, .int (nI (i + 1))), (0, .ref (q 0)), (4, .int 0)]) hx hb dX7_replace_190 hl (k := 2) rfl (nI_1 _) (by decide) rfl (fun ls hl => ?_)
                                    refine lv_goto (tgt := 128) hx hb dX7_replace_193 (by decide) ?_
                                    exact ih (i + 1) H locs ls (by omega) (by rw [hm9, m_fod, if_neg c_150]) hP hD hS (lv_sub hl [1, 2, 0] rfl)
                                  · skip
                                    have hx9 := hl1 i (by omega) c_150
                                    have hfa := hs1 i (by omega) (Or.inl c_150)
                                    have hfb := hs2 i (by omega) c_150
                                    refine lv_aload_n hx hb dX7_replace_153 rfl (lv_at hl 0 rfl) ?_
                                    refine lv_aload_n hx hb dX7_replace_154 rfl (lv_at hl 0 rfl) ?_
                                    refine va_get (D := D) (ci := 7) (v := .ref (q 2)) (C := RX7) (T := TX7) (N := 15) hx hb hts (iwX7_replace_7) hown hK.1 hP 0 rfl rfl 2 (by decide) (hts (.fieldLink RX7 13 "InverterGraphsModel" "ones" "[I") (by decide +kernel)) (fun _ h9 => h9) rfl dX7_replace_155 ?_
                                    refine lv_iload hx hb dX7_replace_158 (lv_at hl 2 rfl) ?_
                                    refine k_iald (D := D) (j := i) hx hb hK.1 hP 2 0 rfl rfl (by omega) (by omega) dX7_replace_160 ?_
                                    refine k_cRO (D := D) (κ := κ) (qc := (RX7, TX7, 15)) (ci := 7) (q0 := 0) ⟨hx, hb, hml, hown, hts⟩ (c_X7_isReplaced l D κ q 0 x u_105.1 u_105.2 ro 0 lv u_90 ((mon x) i) (by omega) (by omega) (by omega) (by omega)) (cwV 1 hts gX7_replace_X7_isReplaced rfl rfl rfl (by decide +kernel) ⟨Nat.le_of_ble_eq_true rfl, Nat.le_of_ble_eq_true rfl⟩) hK hP rfl rfl (As := [.int (nI ((mon x) i))]) (rest := []) rfl rfl hl.1 (Nat.le_of_ble_eq_true rfl) dX7_replace_161 ⟨Nat.le_of_ble_eq_true rfl, Nat.le_of_ble_eq_true rfl⟩ (fun r hr => ?_)
                                    subst hr
                                    refine lv_if_ne (tgt := 181) hx hb dX7_replace_164 (by decide) (fun c_164 => ?_) (fun c_164 => ?_)
                                    · skip
                                      have hm8 : m_fod x (mnd x) 0 = some i := by rw [hm9, m_fod, if_pos c_150, if_neg c_164]
                                      exfalso; rw [hf9.2] at hm8; cases hm8
                                    · skip
                                      refine lv_aload_n hx hb dX7_replace_167 rfl (lv_at hl 0 rfl) ?_
                                      refine lv_aload_n hx hb dX7_replace_168 rfl (lv_at hl 0 rfl) ?_
                                      refine va_get (D := D) (ci := 7) (v := .ref (q 3)) (C := RX7) (T := TX7) (N := 15) hx hb hts (iwX7_replace_7) hown hK.1 hP 0 rfl rfl 3 (by decide) (hts (.fieldLink RX7 16 "InverterGraphsModel" "twos" "[I") (by decide +kernel)) (fun _ h9 => h9) rfl dX7_replace_169 ?_
                                      refine lv_iload hx hb dX7_replace_172 (lv_at hl 2 rfl) ?_
                                      refine k_iald (D := D) (j := i) hx hb hK.1 hP 3 0 rfl rfl (by omega) (by omega) dX7_replace_174 ?_
                                      refine k_cRO (D := D) (κ := κ) (qc := (RX7, TX7, 15)) (ci := 7) (q0 := 0) ⟨hx, hb, hml, hown, hts⟩ (c_X7_isReplaced l D κ q 0 x u_105.1 u_105.2 ro 0 lv u_90 ((mtw x) i) (by omega) (by omega) (by omega) (by omega)) (cwV 1 hts gX7_replace_X7_isReplaced rfl rfl rfl (by decide +kernel) ⟨Nat.le_of_ble_eq_true rfl, Nat.le_of_ble_eq_true rfl⟩) hK hP rfl rfl (As := [.int (nI ((mtw x) i))]) (rest := []) rfl rfl hl.1 (Nat.le_of_ble_eq_true rfl) dX7_replace_175 ⟨Nat.le_of_ble_eq_true rfl, Nat.le_of_ble_eq_true rfl⟩ (fun r hr => ?_)
                                      subst hr
                                      refine lv_if_eq (tgt := 190) hx hb dX7_replace_178 (by decide) (fun c_178 => ?_) (fun c_178 => ?_)
                                      · skip
                                        refine lv_iinc (v := nI (i + 1)) (lv' := [(5, .int (nI (i + 1))), (0, .ref (q 0)), (4, .int 0)]) hx hb dX7_replace_190 hl (k := 2) rfl (nI_1 _) (by decide) rfl (fun ls hl => ?_)
                                        refine lv_goto (tgt := 128) hx hb dX7_replace_193 (by decide) ?_
                                        exact ih (i + 1) H locs ls (by omega) (by rw [hm9, m_fod, if_pos c_150, if_pos c_164, if_pos c_178]) hP hD hS (lv_sub hl [1, 2, 0] rfl)
                                      · skip
                                        have hm8 : m_fod x (mnd x) 0 = some i := by rw [hm9, m_fod, if_pos c_150, if_pos c_164, if_neg c_178]
                                        exfalso; rw [hf9.2] at hm8; cases hm8
                          exact li (mnd x) 0 H locs ls (by omega) rfl hP hD hS (lv_sub hl [2, 1, 0] rfl)
                      | succ k ih =>
                        intro x H locs ls hf9 hr9 hP hD hS hl
                        have iho := ih
                        obtain ⟨hn1, ho1, hl1, hs1, hs2, hs3⟩ := m_rlF_ok hf9
                        refine lv_iload hx hb dX7_replace_117 (lv_at hl 1 rfl) ?_
                        refine lv_if_eq (tgt := 199) hx hb dX7_replace_119 (by decide) (fun c_119 => ?_) (fun c_119 => ?_)
                        · skip
                          exfalso; revert c_119; decide
                        · skip
                          refine lv_iconst (v := 0) hx hb dX7_replace_122 (by decide) ?_
                          refine lv_istore (lv' := [(4, .int 0), (0, .ref (q 0))]) hx hb dX7_replace_123 hl (by decide) rfl (fun ls hl => ?_)
                          refine lv_iconst (v := 0) hx hb dX7_replace_125 (by decide) ?_
                          refine lv_istore (lv' := [(5, .int 0), (4, .int 0), (0, .ref (q 0))]) hx hb dX7_replace_126 hl (by decide) rfl (fun ls hl => ?_)
                          have li : ∀ (k2 i : Nat) (H : Heap) (locs : List Loc) (ls : Array Slot), (i + k2 = mnd x) → (m_fod x (mnd x) 0 = m_fod x k2 i) → va_P D vwCl (wN κ q 0 x u_105.1 u_105.2 ro 0 lv u_90) H → va_D A (wN κ q 0 x u_105.1 u_105.2 ro 0 lv u_90) → va_S A s.heap H locs → lv_has ls 6 [(0, .ref (q 0)), (4, .int 0), (5, .int (nI i))] → W p l e (headSpec wsX7_replace ({ frames := 2, cells := 0, slots := 0, locals := 49 })).room s m ([.ref (q 0), .int (nI a), .int (nI b)] : List Value).toArray below meth c H locs 0 0 (MQ below (va_Qi (S := (KX × (Nat → Int32))) (fun r u => (r, u) = m_replace K K2 kc cp cn kn be (nI a) (nI b)) (fun u => k_B D A (wN κ q u.1.1 u.1.2.1 u.1.2.2.1 u.1.2.2.2.1 ro u.1.2.2.2.2 lv u.2)) A) ([.ref (q 0), .int (nI a), .int (nI b)] : List Value).toArray s 0 0 A) (F0 m 128 ls []) := by
                            intro k2
                            induction k2 with
                            | zero =>
                              intro i H locs ls hi hm9 hP hD hS hl
                              refine lv_iload hx hb dX7_replace_128 (lv_at hl 2 rfl) ?_
                              refine lv_aload_n hx hb dX7_replace_130 rfl (lv_at hl 0 rfl) ?_
                              refine va_get (D := D) (ci := 7) (v := .int (nI (mnd x))) (C := RX7) (T := TX7) (N := 15) hx hb hts (iwX7_replace_7) hown hK.1 hP 0 rfl rfl 5 (by decide) (hts (.fieldLink RX7 43 "InverterGraphsModel" "nodes" "I") (by decide +kernel)) (fun _ h9 => h9) rfl dX7_replace_131 ?_
                              refine lv_icmp_ge (tgt := 196) hx hb dX7_replace_134 (by decide) (fun c_134 => ?_) (fun c_134 => ?_)
                              · skip
                                have c_134 : (mnd x) ≤ i := (nI_leI (a := (mnd x)) (b := i) (by omega) (by omega)).mp c_134
                                have e9 : mnd x = i := by omega
                                subst e9
                                refine lv_goto (tgt := 117) hx hb dX7_replace_196 (by decide) ?_
                                refine lv_iload hx hb dX7_replace_117 (lv_at hl 1 rfl) ?_
                                refine lv_if_eq (tgt := 199) hx hb dX7_replace_119 (by decide) (fun c_119 => ?_) (fun c_119 => ?_)
                                · skip
                                  exact rest x H locs ls (m_rlF_ok hf9) (by rw [hr9]; rw [m_rL, show m_fod x (mnd x) 0 = none from hm9]) hP hD hS (lv_sub hl [0] rfl)
                                · skip
                                  exfalso; exact c_119 rfl
                              · skip
                                have c_134 : ¬ ((mnd x) ≤ i) := fun h9 => c_134 ((nI_leI (a := (mnd x)) (b := i) (by omega) (by omega)).mpr h9)
                                exfalso; omega
                            | succ k2 ih =>
                              intro i H locs ls hi hm9 hP hD hS hl
                              refine lv_iload hx hb dX7_replace_128 (lv_at hl 2 rfl) ?_
                              refine lv_aload_n hx hb dX7_replace_130 rfl (lv_at hl 0 rfl) ?_
                              refine va_get (D := D) (ci := 7) (v := .int (nI (mnd x))) (C := RX7) (T := TX7) (N := 15) hx hb hts (iwX7_replace_7) hown hK.1 hP 0 rfl rfl 5 (by decide) (hts (.fieldLink RX7 43 "InverterGraphsModel" "nodes" "I") (by decide +kernel)) (fun _ h9 => h9) rfl dX7_replace_131 ?_
                              refine lv_icmp_ge (tgt := 196) hx hb dX7_replace_134 (by decide) (fun c_134 => ?_) (fun c_134 => ?_)
                              · skip
                                have c_134 : (mnd x) ≤ i := (nI_leI (a := (mnd x)) (b := i) (by omega) (by omega)).mp c_134
                                exfalso; omega
                              · skip
                                have c_134 : ¬ ((mnd x) ≤ i) := fun h9 => c_134 ((nI_leI (a := (mnd x)) (b := i) (by omega) (by omega)).mpr h9)
                                refine lv_iload hx hb dX7_replace_137 (lv_at hl 1 rfl) ?_
                                refine lv_if_ne (tgt := 196) hx hb dX7_replace_139 (by decide) (fun c_139 => ?_) (fun c_139 => ?_)
                                · skip
                                  exfalso; revert c_139; decide
                                · skip
                                  refine lv_aload_n hx hb dX7_replace_142 rfl (lv_at hl 0 rfl) ?_
                                  refine va_get (D := D) (ci := 7) (v := .ref (q 1)) (C := RX7) (T := TX7) (N := 15) hx hb hts (iwX7_replace_7) hown hK.1 hP 0 rfl rfl 1 (by decide) (hts (.fieldLink RX7 7 "InverterGraphsModel" "sorts" "[I") (by decide +kernel)) (fun _ h9 => h9) rfl dX7_replace_143 ?_
                                  refine lv_iload hx hb dX7_replace_146 (lv_at hl 2 rfl) ?_
                                  refine k_iald (D := D) (j := i) hx hb hK.1 hP 1 0 rfl rfl (by omega) (by omega) dX7_replace_148 ?_
                                  refine lv_iconst (v := 2) hx hb dX7_replace_149 (by decide) ?_
                                  refine lv_icmp_ne (tgt := 190) hx hb dX7_replace_150 (by decide) (fun c_150 => ?_) (fun c_150 => ?_)
                                  · skip
                                    refine lv_iinc (v := nI (i + 1)) (lv' := [(5, .int (nI (i + 1))), (0, .ref (q 0)), (4, .int 0)]) hx hb dX7_replace_190 hl (k := 2) rfl (nI_1 _) (by decide) rfl (fun ls hl => ?_)
                                    refine lv_goto (tgt := 128) hx hb dX7_replace_193 (by decide) ?_
                                    exact ih (i + 1) H locs ls (by omega) (by rw [hm9, m_fod, if_neg c_150]) hP hD hS (lv_sub hl [1, 2, 0] rfl)
                                  · skip
                                    have hx9 := hl1 i (by omega) c_150
                                    have hfa := hs1 i (by omega) (Or.inl c_150)
                                    have hfb := hs2 i (by omega) c_150
                                    refine lv_aload_n hx hb dX7_replace_153 rfl (lv_at hl 0 rfl) ?_
                                    refine lv_aload_n hx hb dX7_replace_154 rfl (lv_at hl 0 rfl) ?_
                                    refine va_get (D := D) (ci := 7) (v := .ref (q 2)) (C := RX7) (T := TX7) (N := 15) hx hb hts (iwX7_replace_7) hown hK.1 hP 0 rfl rfl 2 (by decide) (hts (.fieldLink RX7 13 "InverterGraphsModel" "ones" "[I") (by decide +kernel)) (fun _ h9 => h9) rfl dX7_replace_155 ?_
                                    refine lv_iload hx hb dX7_replace_158 (lv_at hl 2 rfl) ?_
                                    refine k_iald (D := D) (j := i) hx hb hK.1 hP 2 0 rfl rfl (by omega) (by omega) dX7_replace_160 ?_
                                    refine k_cRO (D := D) (κ := κ) (qc := (RX7, TX7, 15)) (ci := 7) (q0 := 0) ⟨hx, hb, hml, hown, hts⟩ (c_X7_isReplaced l D κ q 0 x u_105.1 u_105.2 ro 0 lv u_90 ((mon x) i) (by omega) (by omega) (by omega) (by omega)) (cwV 1 hts gX7_replace_X7_isReplaced rfl rfl rfl (by decide +kernel) ⟨Nat.le_of_ble_eq_true rfl, Nat.le_of_ble_eq_true rfl⟩) hK hP rfl rfl (As := [.int (nI ((mon x) i))]) (rest := []) rfl rfl hl.1 (Nat.le_of_ble_eq_true rfl) dX7_replace_161 ⟨Nat.le_of_ble_eq_true rfl, Nat.le_of_ble_eq_true rfl⟩ (fun r hr => ?_)
                                    subst hr
                                    refine lv_if_ne (tgt := 181) hx hb dX7_replace_164 (by decide) (fun c_164 => ?_) (fun c_164 => ?_)
                                    · skip
                                      have hm8 : m_fod x (mnd x) 0 = some i := by rw [hm9, m_fod, if_pos c_150, if_neg c_164]
                                      obtain ⟨n9, hn9, hf8⟩ := hf9.2.resolve_left (by rw [hm8]; intro q9; cases q9)
                                      obtain rfl : i = n9 := Option.some.inj (hm8.symm.trans hn9)
                                      refine lv_iconst (v := 1) hx hb dX7_replace_181 (by decide) ?_
                                      refine lv_istore (lv' := [(4, .int 1), (0, .ref (q 0)), (5, .int (nI i))]) hx hb dX7_replace_182 hl (by decide) rfl (fun ls hl => ?_)
                                      refine lv_aload_n hx hb dX7_replace_184 rfl (lv_at hl 1 rfl) ?_
                                      refine lv_iload hx hb dX7_replace_185 (lv_at hl 2 rfl) ?_
                                      refine k_cWUv (D := D) (κ := κ) (qc := (RX7, TX7, 15)) (ci := 7) (q0 := 0) ⟨hx, hb, hml, hown, hts⟩ (c_X7_change l D κ _ q 0 x u_105.1 u_105.2 ro 0 lv u_90 i K (by omega) (by omega) (by omega) (by omega) (by assumption) (by assumption) (by assumption)) (cwV 1 hts gX7_replace_X7_change rfl rfl rfl (by decide +kernel) ⟨Nat.le_of_ble_eq_true rfl, Nat.le_of_ble_eq_true rfl⟩) hK hP hD hS hA rfl rfl (As := [.int (nI i)]) (rest := []) rfl rfl hl.1 (Nat.le_of_ble_eq_true rfl) dX7_replace_187 ⟨Nat.le_of_ble_eq_true rfl, Nat.le_of_ble_eq_true rfl⟩ (fun u_187 H locs hw9 hP hD hS => ?_)
                                      have hu_187 := hw9
                                      have hP : va_P D vwCl (wN κ q 0 u_187 u_105.1 u_105.2 ro 0 lv u_90) H := hP
                                      have hD : va_D A (wN κ q 0 u_187 u_105.1 u_105.2 ro 0 lv u_90) := hD
                                      refine lv_iinc (v := nI (i + 1)) (lv' := [(5, .int (nI (i + 1))), (4, .int 1), (0, .ref (q 0))]) hx hb dX7_replace_190 hl (k := 2) rfl (nI_1 _) (by decide) rfl (fun ls hl => ?_)
                                      refine lv_goto (tgt := 128) hx hb dX7_replace_193 (by decide) ?_
                                      refine lv_iload hx hb dX7_replace_128 (lv_at hl 0 rfl) ?_
                                      refine lv_aload_n hx hb dX7_replace_130 rfl (lv_at hl 2 rfl) ?_
                                      refine va_get (D := D) (ci := 7) (v := .int (nI (mnd u_187))) (C := RX7) (T := TX7) (N := 15) hx hb hts (iwX7_replace_7) hown hK.1 hP 0 rfl rfl 5 (by decide) (hts (.fieldLink RX7 43 "InverterGraphsModel" "nodes" "I") (by decide +kernel)) (fun _ h9 => h9) rfl dX7_replace_131 ?_
                                      have hc9 : mnd u_187 = mnd x := by rw [hu_187]; unfold m_change; split <;> rfl
                                      refine lv_icmp_ge (tgt := 196) hx hb dX7_replace_134 (by decide) (fun c_134 => ?_) (fun c_134 => ?_)
                                      · skip
                                        refine lv_goto (tgt := 117) hx hb dX7_replace_196 (by decide) ?_
                                        exact iho u_187 H locs ls (by rw [hu_187]; exact hf8) (by rw [hr9, m_rL, hm8, hu_187]) hP hD hS (lv_sub hl [2, 1] rfl)
                                      · skip
                                        refine lv_iload hx hb dX7_replace_137 (lv_at hl 1 rfl) ?_
                                        refine lv_if_ne (tgt := 196) hx hb dX7_replace_139 (by decide) (fun c_139 => ?_) (fun c_139 => ?_)
                                        · skip
                                          refine lv_goto (tgt := 117) hx hb dX7_replace_196 (by decide) ?_
                                          exact iho u_187 H locs ls (by rw [hu_187]; exact hf8) (by rw [hr9, m_rL, hm8, hu_187]) hP hD hS (lv_sub hl [2, 1] rfl)
                                        · skip
                                          exfalso; revert c_139; decide
                                    · skip
                                      refine lv_aload_n hx hb dX7_replace_167 rfl (lv_at hl 0 rfl) ?_
                                      refine lv_aload_n hx hb dX7_replace_168 rfl (lv_at hl 0 rfl) ?_
                                      refine va_get (D := D) (ci := 7) (v := .ref (q 3)) (C := RX7) (T := TX7) (N := 15) hx hb hts (iwX7_replace_7) hown hK.1 hP 0 rfl rfl 3 (by decide) (hts (.fieldLink RX7 16 "InverterGraphsModel" "twos" "[I") (by decide +kernel)) (fun _ h9 => h9) rfl dX7_replace_169 ?_
                                      refine lv_iload hx hb dX7_replace_172 (lv_at hl 2 rfl) ?_
                                      refine k_iald (D := D) (j := i) hx hb hK.1 hP 3 0 rfl rfl (by omega) (by omega) dX7_replace_174 ?_
                                      refine k_cRO (D := D) (κ := κ) (qc := (RX7, TX7, 15)) (ci := 7) (q0 := 0) ⟨hx, hb, hml, hown, hts⟩ (c_X7_isReplaced l D κ q 0 x u_105.1 u_105.2 ro 0 lv u_90 ((mtw x) i) (by omega) (by omega) (by omega) (by omega)) (cwV 1 hts gX7_replace_X7_isReplaced rfl rfl rfl (by decide +kernel) ⟨Nat.le_of_ble_eq_true rfl, Nat.le_of_ble_eq_true rfl⟩) hK hP rfl rfl (As := [.int (nI ((mtw x) i))]) (rest := []) rfl rfl hl.1 (Nat.le_of_ble_eq_true rfl) dX7_replace_175 ⟨Nat.le_of_ble_eq_true rfl, Nat.le_of_ble_eq_true rfl⟩ (fun r hr => ?_)
                                      subst hr
                                      refine lv_if_eq (tgt := 190) hx hb dX7_replace_178 (by decide) (fun c_178 => ?_) (fun c_178 => ?_)
                                      · skip
                                        refine lv_iinc (v := nI (i + 1)) (lv' := [(5, .int (nI (i + 1))), (0, .ref (q 0)), (4, .int 0)]) hx hb dX7_replace_190 hl (k := 2) rfl (nI_1 _) (by decide) rfl (fun ls hl => ?_)
                                        refine lv_goto (tgt := 128) hx hb dX7_replace_193 (by decide) ?_
                                        exact ih (i + 1) H locs ls (by omega) (by rw [hm9, m_fod, if_pos c_150, if_pos c_164, if_pos c_178]) hP hD hS (lv_sub hl [1, 2, 0] rfl)
                                      · skip
                                        have hm8 : m_fod x (mnd x) 0 = some i := by rw [hm9, m_fod, if_pos c_150, if_pos c_164, if_neg c_178]
                                        obtain ⟨n9, hn9, hf8⟩ := hf9.2.resolve_left (by rw [hm8]; intro q9; cases q9)
                                        obtain rfl : i = n9 := Option.some.inj (hm8.symm.trans hn9)
                                        refine lv_iconst (v := 1) hx hb dX7_replace_181 (by decide) ?_
                                        refine lv_istore (lv' := [(4, .int 1), (0, .ref (q 0)), (5, .int (nI i))]) hx hb dX7_replace_182 hl (by decide) rfl (fun ls hl => ?_)
                                        refine lv_aload_n hx hb dX7_replace_184 rfl (lv_at hl 1 rfl) ?_
                                        refine lv_iload hx hb dX7_replace_185 (lv_at hl 2 rfl) ?_
                                        refine k_cWUv (D := D) (κ := κ) (qc := (RX7, TX7, 15)) (ci := 7) (q0 := 0) ⟨hx, hb, hml, hown, hts⟩ (c_X7_change l D κ _ q 0 x u_105.1 u_105.2 ro 0 lv u_90 i K (by omega) (by omega) (by omega) (by omega) (by assumption) (by assumption) (by assumption)) (cwV 1 hts gX7_replace_X7_change rfl rfl rfl (by decide +kernel) ⟨Nat.le_of_ble_eq_true rfl, Nat.le_of_ble_eq_true rfl⟩) hK hP hD hS hA rfl rfl (As := [.int (nI i)]) (rest := []) rfl rfl hl.1 (Nat.le_of_ble_eq_true rfl) dX7_replace_187 ⟨Nat.le_of_ble_eq_true rfl, Nat.le_of_ble_eq_true rfl⟩ (fun u_187 H locs hw9 hP hD hS => ?_)
                                        have hu_187 := hw9
                                        have hP : va_P D vwCl (wN κ q 0 u_187 u_105.1 u_105.2 ro 0 lv u_90) H := hP
                                        have hD : va_D A (wN κ q 0 u_187 u_105.1 u_105.2 ro 0 lv u_90) := hD
                                        refine lv_iinc (v := nI (i + 1)) (lv' := [(5, .int (nI (i + 1))), (4, .int 1), (0, .ref (q 0))]) hx hb dX7_replace_190 hl (k := 2) rfl (nI_1 _) (by decide) rfl (fun ls hl => ?_)
                                        refine lv_goto (tgt := 128) hx hb dX7_replace_193 (by decide) ?_
                                        refine lv_iload hx hb dX7_replace_128 (lv_at hl 0 rfl) ?_
                                        refine lv_aload_n hx hb dX7_replace_130 rfl (lv_at hl 2 rfl) ?_
                                        refine va_get (D := D) (ci := 7) (v := .int (nI (mnd u_187))) (C := RX7) (T := TX7) (N := 15) hx hb hts (iwX7_replace_7) hown hK.1 hP 0 rfl rfl 5 (by decide) (hts (.fieldLink RX7 43 "InverterGraphsModel" "nodes" "I") (by decide +kernel)) (fun _ h9 => h9) rfl dX7_replace_131 ?_
                                        have hc9 : mnd u_187 = mnd x := by rw [hu_187]; unfold m_change; split <;> rfl
                                        refine lv_icmp_ge (tgt := 196) hx hb dX7_replace_134 (by decide) (fun c_134 => ?_) (fun c_134 => ?_)
                                        · skip
                                          refine lv_goto (tgt := 117) hx hb dX7_replace_196 (by decide) ?_
                                          exact iho u_187 H locs ls (by rw [hu_187]; exact hf8) (by rw [hr9, m_rL, hm8, hu_187]) hP hD hS (lv_sub hl [2, 1] rfl)
                                        · skip
                                          refine lv_iload hx hb dX7_replace_137 (lv_at hl 1 rfl) ?_
                                          refine lv_if_ne (tgt := 196) hx hb dX7_replace_139 (by decide) (fun c_139 => ?_) (fun c_139 => ?_)
                                          · skip
                                            refine lv_goto (tgt := 117) hx hb dX7_replace_196 (by decide) ?_
                                            exact iho u_187 H locs ls (by rw [hu_187]; exact hf8) (by rw [hr9, m_rL, hm8, hu_187]) hP hD hS (lv_sub hl [2, 1] rfl)
                                          · skip
                                            exfalso; revert c_139; decide
                          exact li (mnd x) 0 H locs ls (by omega) rfl hP hD hS (lv_sub hl [2, 1, 0] rfl)
                    exact lo K2 (m_leave a (nI b) kc) H locs ls hrl9 rfl hP hD hS (lv_sub hl [2, 0] rfl)
                  · skip
                    refine lv_iconst (v := 1) hx hb dX7_replace_102 (by decide) ?_
                    exact W.iret (v := 1) hx hb hr (fun t ht hW => ⟨⟨1, ((0, kc, cp, cn, kn), u_90), rfl, (by unfold m_replace; try unfold m_rpX; rw [nI_clamp (show a < 2 ^ 31 by omega), nI_clamp (show b < 2 ^ 31 by omega), if_neg c_5, if_neg c_19, if_pos c_29, if_neg c_50, if_pos c_66]; unfold m_rpZ m_rpB; rw [← hu_90]; rw [if_neg c_99]), by rw [ht]; exact hP, hD⟩, hS.F ht⟩) hS.2.2 dX7_replace_103
                · skip
                  exfalso; revert c_81; decide
              · skip
                refine lv_iconst (v := 2) hx hb dX7_replace_69 (by decide) ?_
                refine lv_goto (tgt := 74) hx hb dX7_replace_70 (by decide) ?_
                refine va_put (D := D) (ci := 7) (v := .int 2) (ty := .int) (C := RX7) (T := TX7) (N := 15) hx hb hts (iwX7_replace_7) tyX7 tyX7_ok nmX7 hown hK.1 hP hD hS 0 rfl rfl 0 (by decide) (hts (.fieldLink RX7 47 "InverterGraphsModel" "thrown" "I") (by decide +kernel)) (fun _ h9 => h9) rfl (by decide +kernel) rfl rfl (Nat.le_of_ble_eq_true rfl) dX7_replace_74 (fun H locs hP hD hS => ?_)
                have hP : va_P D vwCl (wN κ q 2 kc cp cn ro kn lv be) H := hP
                have hD : va_D A (wN κ q 2 kc cp cn ro kn lv be) := hD
                refine lv_aload_n hx hb dX7_replace_77 rfl (lv_at hl 1 rfl) ?_
                refine va_get (D := D) (ci := 7) (v := .int 2) (C := RX7) (T := TX7) (N := 15) hx hb hts (iwX7_replace_7) hown hK.1 hP 0 rfl rfl 0 (by decide) (hts (.fieldLink RX7 47 "InverterGraphsModel" "thrown" "I") (by decide +kernel)) (fun _ h9 => h9) rfl dX7_replace_78 ?_
                refine lv_if_le (tgt := 86) hx hb dX7_replace_81 (by decide) (fun c_81 => ?_) (fun c_81 => ?_)
                · skip
                  exfalso; revert c_81; decide
                · skip
                  refine lv_iconst (v := 0) hx hb dX7_replace_84 (by decide) ?_
                  exact W.iret (v := 0) hx hb hr (fun t ht hW => ⟨⟨0, ((2, kc, cp, cn, kn), be), rfl, (by unfold m_replace; try unfold m_rpX; rw [nI_clamp (show a < 2 ^ 31 by omega), if_neg c_5, if_neg c_19, if_pos c_29, if_neg c_50, if_neg c_66]), by rw [ht]; exact hP, hD⟩, hS.F ht⟩) hS.2.2 dX7_replace_85
          · skip
            refine lv_iconst (v := 1) hx hb dX7_replace_53 (by decide) ?_
            refine lv_goto (tgt := 74) hx hb dX7_replace_54 (by decide) ?_
            refine va_put (D := D) (ci := 7) (v := .int 1) (ty := .int) (C := RX7) (T := TX7) (N := 15) hx hb hts (iwX7_replace_7) tyX7 tyX7_ok nmX7 hown hK.1 hP hD hS 0 rfl rfl 0 (by decide) (hts (.fieldLink RX7 47 "InverterGraphsModel" "thrown" "I") (by decide +kernel)) (fun _ h9 => h9) rfl (by decide +kernel) rfl rfl (Nat.le_of_ble_eq_true rfl) dX7_replace_74 (fun H locs hP hD hS => ?_)
            have hP : va_P D vwCl (wN κ q 1 kc cp cn ro kn lv be) H := hP
            have hD : va_D A (wN κ q 1 kc cp cn ro kn lv be) := hD
            refine lv_aload_n hx hb dX7_replace_77 rfl (lv_at hl 1 rfl) ?_
            refine va_get (D := D) (ci := 7) (v := .int 1) (C := RX7) (T := TX7) (N := 15) hx hb hts (iwX7_replace_7) hown hK.1 hP 0 rfl rfl 0 (by decide) (hts (.fieldLink RX7 47 "InverterGraphsModel" "thrown" "I") (by decide +kernel)) (fun _ h9 => h9) rfl dX7_replace_78 ?_
            refine lv_if_le (tgt := 86) hx hb dX7_replace_81 (by decide) (fun c_81 => ?_) (fun c_81 => ?_)
            · skip
              exfalso; revert c_81; decide
            · skip
              refine lv_iconst (v := 0) hx hb dX7_replace_84 (by decide) ?_
              exact W.iret (v := 0) hx hb hr (fun t ht hW => ⟨⟨0, ((1, kc, cp, cn, kn), be), rfl, (by unfold m_replace; try unfold m_rpX; rw [nI_clamp (show a < 2 ^ 31 by omega), if_neg c_5, if_neg c_19, if_pos c_29, if_pos c_50]), by rw [ht]; exact hP, hD⟩, hS.F ht⟩) hS.2.2 dX7_replace_85
  · skip
    refine lv_iconst (v := 1) hx hb dX7_replace_8 (by decide) ?_
    refine lv_goto (tgt := 37) hx hb dX7_replace_9 (by decide) ?_
    refine lv_istore_n (lv' := [(3, .int 1), (0, .ref (q 0)), (1, .int p0), (2, .int p1)]) hx hb dX7_replace_37 rfl hl (by decide) rfl (fun ls hl => ?_)
    refine lv_aload_n hx hb dX7_replace_38 rfl (lv_at hl 1 rfl) ?_
    refine lv_iload_n hx hb dX7_replace_39 rfl (lv_at hl 0 rfl) ?_
    refine lv_iconst (v := 1) hx hb dX7_replace_40 (by decide) ?_
    refine lv_icmp_eq (tgt := 53) hx hb dX7_replace_41 (by decide) (fun c_41 => ?_) (fun c_41 => ?_)
    · skip
      refine lv_iconst (v := 1) hx hb dX7_replace_53 (by decide) ?_
      refine lv_goto (tgt := 74) hx hb dX7_replace_54 (by decide) ?_
      refine va_put (D := D) (ci := 7) (v := .int 1) (ty := .int) (C := RX7) (T := TX7) (N := 15) hx hb hts (iwX7_replace_7) tyX7 tyX7_ok nmX7 hown hK.1 hP hD hS 0 rfl rfl 0 (by decide) (hts (.fieldLink RX7 47 "InverterGraphsModel" "thrown" "I") (by decide +kernel)) (fun _ h9 => h9) rfl (by decide +kernel) rfl rfl (Nat.le_of_ble_eq_true rfl) dX7_replace_74 (fun H locs hP hD hS => ?_)
      have hP : va_P D vwCl (wN κ q 1 kc cp cn ro kn lv be) H := hP
      have hD : va_D A (wN κ q 1 kc cp cn ro kn lv be) := hD
      refine lv_aload_n hx hb dX7_replace_77 rfl (lv_at hl 1 rfl) ?_
      refine va_get (D := D) (ci := 7) (v := .int 1) (C := RX7) (T := TX7) (N := 15) hx hb hts (iwX7_replace_7) hown hK.1 hP 0 rfl rfl 0 (by decide) (hts (.fieldLink RX7 47 "InverterGraphsModel" "thrown" "I") (by decide +kernel)) (fun _ h9 => h9) rfl dX7_replace_78 ?_
      refine lv_if_le (tgt := 86) hx hb dX7_replace_81 (by decide) (fun c_81 => ?_) (fun c_81 => ?_)
      · skip
        exfalso; revert c_81; decide
      · skip
        refine lv_iconst (v := 0) hx hb dX7_replace_84 (by decide) ?_
        exact W.iret (v := 0) hx hb hr (fun t ht hW => ⟨⟨0, ((1, kc, cp, cn, kn), be), rfl, (by unfold m_replace; try unfold m_rpX; rw [if_pos c_5]), by rw [ht]; exact hP, hD⟩, hS.F ht⟩) hS.2.2 dX7_replace_85
    · skip
      exfalso; revert c_41; decide
