/-! THE REFERENCE, fifth: box, sweep, simulate, undo of nothing -/
theorem m_b20 {x : Int32} (h1 : ¬ x < 1) (h2 : x ≤ 20) : ∃ b, 1 ≤ b ∧ b ≤ 20 ∧ x = nI b := by
  have e1 : ¬ x.toInt < 1 := fun h => h1 (Int32.lt_iff_toInt_lt.mpr (by simpa using h))
  have e2 : x.toInt ≤ 20 := by simpa using Int32.le_iff_toInt_le.mp h2
  refine ⟨x.toInt.toNat, by omega, by omega, Int32.toInt_inj.mp ?_⟩
  rw [nI_toInt (by omega)]
  omega
def m_fr (c : KC) : Nat → Nat → Nat
  | 0, i => i
  | k + 1, i => if mbo c (moc c - 1 - i) = 0 then m_fr c k (i + 1) else i
def m_bxl (f : Nat → Int32) (t i : Nat) : Nat → Int32 := fun x => if t - i ≤ x ∧ x < t then 1 else f x
theorem m_bxl_0 (f : Nat → Int32) (t : Nat) : m_bxl f t 0 = f := by funext x; simp only [m_bxl]; rw [if_neg (by omega)]
theorem m_bxl_s (f : Nat → Int32) (t i : Nat) (h : i < t) : upd (m_bxl f t i) (t - 1 - i) 1 = m_bxl f t (i + 1) := by
  funext x
  by_cases g : x = t - 1 - i
  · subst g; rw [pk_us]; simp only [m_bxl]; rw [if_pos (by omega)]
  · rw [pk_un g]; simp only [m_bxl]; by_cases h2 : t - i ≤ x ∧ x < t
    · rw [if_pos h2, if_pos (by omega)]
    · rw [if_neg h2, if_neg (by omega)]
def m_bxc (a : Nat) (c : KC) : KC := (mso c, mon c, mtw c, mst c, mnd c, mou c, m_bxl (mbo c) (moc c) a, moc c)
def m_olt (c : KC) : Nat → KC
  | 0 => c
  | i + 1 => m_new 4 0 0 (m_olt c i)
theorem m_olt_nd (c : KC) : ∀ i, mnd (m_olt c i) = mnd c + i := by
  intro i
  induction i with
  | zero => rfl
  | succ i ih => show mnd (m_olt c i) + 1 = _; rw [ih]; omega
theorem m_olt_oc (c : KC) : ∀ i, moc (m_olt c i) = moc c := by
  intro i
  induction i with
  | zero => rfl
  | succ i ih => show moc (m_olt c i) = _; rw [ih]
def m_box (kc : KC) (cp : Nat → Int32) (cn : Nat) (kn : Int32) (p0 p1 : Int32) : Int32 × KX :=
  if p0 < 0 then (0, 1, kc, cp, cn, kn) else if nI (m_fr kc (moc kc) 0) < p0 then (0, 1, kc, cp, cn, kn) else if p1 < 1 then (0, 1, kc, cp, cn, kn) else if p1 ≤ 20 then
    (if mnd kc + p1.toNatClampNeg ≤ 400 then (nI (2 * mnd kc), m_sv kc (m_olt (m_bxc p0.toNatClampNeg kc) p1.toNatClampNeg) cp cn) else (0, 2, kc, cp, cn, kn)) else (0, 1, kc, cp, cn, kn)
def m_swc (kc : KC) (be : Nat → Int32) : Nat → Int32
  | 0 => 0
  | i + 1 => if mso kc i = 2 then (if be i = 0 then m_swc kc be i + 1 else m_swc kc be i) else m_swc kc be i
def m_swl (kc : KC) (be : Nat → Int32) : Nat → KC
  | 0 => kc
  | i + 1 => if mso (m_swl kc be i) i = 2 then (if be i = 0 then m_leave i (-1) (m_swl kc be i) else m_swl kc be i) else m_swl kc be i
theorem m_swl_nd (c : KC) (be : Nat → Int32) : ∀ i, mnd (m_swl c be i) = mnd c ∧ moc (m_swl c be i) = moc c := by
  intro i
  induction i with
  | zero => exact ⟨rfl, rfl⟩
  | succ i ih =>
    rw [m_swl]
    split
    · split
      · exact ih
      · exact ih
    · exact ih
def m_swB (K : Nat) (kc : KC) (be : Nat → Int32) : Nat → Int32 := k_it (m_cF kc) K 1 (m_us0 kc be)
def m_sweep (K : Nat) (kc : KC) (cp : Nat → Int32) (cn : Nat) (kn : Int32) (be : Nat → Int32) : Int32 × KX :=
  if m_swc kc (m_swB K kc be) (mnd kc) ≤ 0 then (m_swc kc (m_swB K kc be) (mnd kc), 0, kc, cp, cn, kn) else (m_swc kc (m_swB K kc be) (mnd kc), m_sv kc (m_swl kc (m_swB K kc be) (mnd kc)) cp cn)
abbrev K3 : Type := Int32 × Int32 × (Nat → Int64)
def m_nn (kc : KC) (i : Nat) (x : Int32) : Int32 := if mso kc i = 5 then x else x + 1
def m_siS (kc : KC) (sd : Int64) (i : Nat) (x : K3) : K3 :=
  if mso kc i = 1 then (x.1 + 1, m_nn kc i x.2.1, vp_updL x.2.2 i (m_mix sd (Int32.toInt64 x.1))) else if mso kc i = 3 then (x.1 + 1, m_nn kc i x.2.1, vp_updL x.2.2 i (m_mix sd (Int32.toInt64 x.1))) else if mso kc i = 4 then (x.1 + 1, m_nn kc i x.2.1, vp_updL x.2.2 i (m_mix sd (Int32.toInt64 x.1))) else (x.1, m_nn kc i x.2.1, vp_updL x.2.2 i 0)
def m_si (kc : KC) (sd : Int64) (ro : Nat → Int64) : Nat → K3
  | 0 => (0, 0, ro)
  | i + 1 => m_siS kc sd i (m_si kc sd ro i)
def m_rl (kc : KC) (lv : Nat → Int32) (L : Nat) (ro : Nat → Int64) : Nat → (Nat → Int64)
  | 0 => ro
  | i + 1 => if mso kc i = 2 then (if lv i = nI L then vp_updL (m_rl kc lv L ro i) i (m_rowOf (m_rl kc lv L ro i) (mon kc i) &&& m_rowOf (m_rl kc lv L ro i) (mtw kc i)) else m_rl kc lv L ro i) else m_rl kc lv L ro i
def m_rlv (kc : KC) (lv : Nat → Int32) (ro : Nat → Int64) : Nat → (Nat → Int64)
  | 0 => ro
  | L + 1 => m_rl kc lv (L + 1) (m_rlv kc lv ro L) (mnd kc)
theorem iwX7_box_7 : ∀ w ∈ wsX70, w ∈ wsX7_box := by decide +kernel
set_option maxHeartbeats 4000000 in
set_option maxRecDepth 100000 in
theorem c_X7_box (l : Launch) (D : va_G) (κ : Nat → ClassId) (sz : Nat) (q : Nat → Nat) (th : Int32) (kc : KC) (cp : Nat → Int32) (cn : Nat) (ro : Nat → Int64) (kn : Int32) (lv be : Nat → Int32) (p0 p1 : Int32) (hnd : mnd kc ≤ 400) (hoc : moc kc ≤ 40) (hcn : cn ≤ 30) : k_mui (S := KX) l yX7_box wsX7_box 1 23 0 0 D κ [.ref (q 0), .int p0, .int p1] (wN κ q th kc cp cn ro kn lv be) sz (fun r u => (r, u) = m_box kc cp cn kn p0 p1) (fun u => wN κ q u.1 u.2.1 u.2.2.1 u.2.2.2.1 ro u.2.2.2.2 lv be) := by
  refine Met.ofW (cc := cX7_box) (maxL := 6) (ret := (some .int)) (by decide) rfl ?_
  intro p e s m args below meth c s₁ B hml hv
  obtain ⟨rfl, hsz, hK, hP, hD0⟩ := hv
  have hx := B.exec
  have hb := B.bytes
  have hr := B.returns
  have hts := atoms_spec (ws := wsX7_box) B.pre
  have hown : s.vm.findClass RX7 = some m.cls := findClass_of_methodNamed B.named
  have hlocks := B.notSynchronized
  subst hsz
  have hD := hD0.self (sz := s.heap.size)
  generalize hAe : va_A (wN κ q th kc cp cn ro kn lv be) s.heap.size = A at hD ⊢
  have hA : ∀ q : Nat, s.heap.size ≤ q → A q := fun q h => by rw [← hAe]; exact Or.inr h
  have hS : va_S A s.heap s.heap [] := va_S.rf
  have hP : va_P D vwCl (wN κ q th kc cp cn ro kn lv be) s.heap := hP
  have hl := lv_entry ([.ref (q 0), .int p0, .int p1]) (n := 6) (Nat.le_of_ble_eq_true rfl)
  rw [lg_entry_eq]
  generalize (lg_sl ([.ref (q 0), .int p0, .int p1]) ++ List.replicate (6 - (lg_sl ([.ref (q 0), .int p0, .int p1])).length) Slot.unset).toArray = ls at hl ⊢
  have hl : lv_has ls 6 [(0, .ref (q 0)), (1, .int p0), (2, .int p1)] := hl
  refine lv_iconst (v := 0) hx hb dX7_box_0 (by decide) ?_
  refine lv_istore_n (lv' := [(3, .int 0), (0, .ref (q 0)), (1, .int p0), (2, .int p1)]) hx hb dX7_box_1 rfl hl (by decide) rfl (fun ls hl => ?_)
  have rest : ∀ (f : Nat) (H : Heap) (locs : List Loc) (ls : Array Slot), (m_fr kc (moc kc) 0 = f) → (f ≤ moc kc) → va_P D vwCl (wN κ q th kc cp cn ro kn lv be) H → va_D A (wN κ q th kc cp cn ro kn lv be) → va_S A s.heap H locs → lv_has ls 6 [(0, .ref (q 0)), (1, .int p0), (2, .int p1), (3, .int (nI f))] → W p l e (headSpec wsX7_box ({ frames := 1, cells := 0, slots := 0, locals := 23 })).room s m ([.ref (q 0), .int p0, .int p1] : List Value).toArray below meth c H locs 0 0 (MQ below (va_Qi (S := KX) (fun r u => (r, u) = m_box kc cp cn kn p0 p1) (fun u => k_B D A (wN κ q u.1 u.2.1 u.2.2.1 u.2.2.2.1 ro u.2.2.2.2 lv be)) A) ([.ref (q 0), .int p0, .int p1] : List Value).toArray s 0 0 A) (F0 m 32 ls []) := by
    intro f H locs ls hf9 hf8 hP hD hS hl
    refine lv_aload_n hx hb dX7_box_32 rfl (lv_at hl 0 rfl) ?_
    refine lv_iload_n hx hb dX7_box_33 rfl (lv_at hl 1 rfl) ?_
    refine lv_if_lt (tgt := 53) hx hb dX7_box_34 (by decide) (fun c_34 => ?_) (fun c_34 => ?_)
    · skip
      refine lv_iconst (v := 1) hx hb dX7_box_53 (by decide) ?_
      refine lv_goto (tgt := 74) hx hb dX7_box_54 (by decide) ?_
      refine va_put (D := D) (ci := 7) (v := .int 1) (ty := .int) (C := RX7) (T := TX7) (N := 15) hx hb hts (iwX7_box_7) tyX7 tyX7_ok nmX7 hown hK.1 hP hD hS 0 rfl rfl 0 (by decide) (hts (.fieldLink RX7 47 "InverterGraphsModel" "thrown" "I") (by decide +kernel)) (fun _ h9 => h9) rfl (by decide +kernel) rfl rfl (Nat.le_of_ble_eq_true rfl) dX7_box_74 (fun H locs hP hD hS => ?_)
      have hP : va_P D vwCl (wN κ q 1 kc cp cn ro kn lv be) H := hP
      have hD : va_D A (wN κ q 1 kc cp cn ro kn lv be) := hD
      refine lv_aload_n hx hb dX7_box_77 rfl (lv_at hl 0 rfl) ?_
      refine va_get (D := D) (ci := 7) (v := .int 1) (C := RX7) (T := TX7) (N := 15) hx hb hts (iwX7_box_7) hown hK.1 hP 0 rfl rfl 0 (by decide) (hts (.fieldLink RX7 47 "InverterGraphsModel" "thrown" "I") (by decide +kernel)) (fun _ h9 => h9) rfl dX7_box_78 ?_
      refine lv_if_le (tgt := 86) hx hb dX7_box_81 (by decide) (fun c_81 => ?_) (fun c_81 => ?_)
      · skip
        exfalso; revert c_81; decide
      · skip
        refine lv_iconst (v := 0) hx hb dX7_box_84 (by decide) ?_
        exact W.iret (v := 0) hx hb hr (fun t ht hW => ⟨⟨0, (1, kc, cp, cn, kn), rfl, (by unfold m_box; rw [hf9, if_pos c_34]), by rw [ht]; exact hP, hD⟩, hS.F ht⟩) hS.2.2 dX7_box_85
    · skip
      refine lv_iload_n hx hb dX7_box_37 rfl (lv_at hl 1 rfl) ?_
      refine lv_iload_n hx hb dX7_box_38 rfl (lv_at hl 3 rfl) ?_
      refine lv_icmp_gt (tgt := 53) hx hb dX7_box_39 (by decide) (fun c_39 => ?_) (fun c_39 => ?_)
      · skip
        refine lv_iconst (v := 1) hx hb dX7_box_53 (by decide) ?_
        refine lv_goto (tgt := 74) hx hb dX7_box_54 (by decide) ?_
        refine va_put (D := D) (ci := 7) (v := .int 1) (ty := .int) (C := RX7) (T := TX7) (N := 15) hx hb hts (iwX7_box_7) tyX7 tyX7_ok nmX7 hown hK.1 hP hD hS 0 rfl rfl 0 (by decide) (hts (.fieldLink RX7 47 "InverterGraphsModel" "thrown" "I") (by decide +kernel)) (fun _ h9 => h9) rfl (by decide +kernel) rfl rfl (Nat.le_of_ble_eq_true rfl) dX7_box_74 (fun H locs hP hD hS => ?_)
        have hP : va_P D vwCl (wN κ q 1 kc cp cn ro kn lv be) H := hP
        have hD : va_D A (wN κ q 1 kc cp cn ro kn lv be) := hD
        refine lv_aload_n hx hb dX7_box_77 rfl (lv_at hl 0 rfl) ?_
        refine va_get (D := D) (ci := 7) (v := .int 1) (C := RX7) (T := TX7) (N := 15) hx hb hts (iwX7_box_7) hown hK.1 hP 0 rfl rfl 0 (by decide) (hts (.fieldLink RX7 47 "InverterGraphsModel" "thrown" "I") (by decide +kernel)) (fun _ h9 => h9) rfl dX7_box_78 ?_
        refine lv_if_le (tgt := 86) hx hb dX7_box_81 (by decide) (fun c_81 => ?_) (fun c_81 => ?_)
        · skip
          exfalso; revert c_81; decide
        · skip
          refine lv_iconst (v := 0) hx hb dX7_box_84 (by decide) ?_
          exact W.iret (v := 0) hx hb hr (fun t ht hW => ⟨⟨0, (1, kc, cp, cn, kn), rfl, (by unfold m_box; rw [hf9, if_neg c_34, if_pos c_39]), by rw [ht]; exact hP, hD⟩, hS.F ht⟩) hS.2.2 dX7_box_85
      · skip
        refine lv_iload_n hx hb dX7_box_42 rfl (lv_at hl 2 rfl) ?_
        refine lv_iconst (v := 1) hx hb dX7_box_43 (by decide) ?_
        refine lv_icmp_lt (tgt := 53) hx hb dX7_box_44 (by decide) (fun c_44 => ?_) (fun c_44 => ?_)
        · skip
          refine lv_iconst (v := 1) hx hb dX7_box_53 (by decide) ?_
          refine lv_goto (tgt := 74) hx hb dX7_box_54 (by decide) ?_
          refine va_put (D := D) (ci := 7) (v := .int 1) (ty := .int) (C := RX7) (T := TX7) (N := 15) hx hb hts (iwX7_box_7) tyX7 tyX7_ok nmX7 hown hK.1 hP hD hS 0 rfl rfl 0 (by decide) (hts (.fieldLink RX7 47 "InverterGraphsModel" "thrown" "I") (by decide +kernel)) (fun _ h9 => h9) rfl (by decide +kernel) rfl rfl (Nat.le_of_ble_eq_true rfl) dX7_box_74 (fun H locs hP hD hS => ?_)
          have hP : va_P D vwCl (wN κ q 1 kc cp cn ro kn lv be) H := hP
          have hD : va_D A (wN κ q 1 kc cp cn ro kn lv be) := hD
          refine lv_aload_n hx hb dX7_box_77 rfl (lv_at hl 0 rfl) ?_
          refine va_get (D := D) (ci := 7) (v := .int 1) (C := RX7) (T := TX7) (N := 15) hx hb hts (iwX7_box_7) hown hK.1 hP 0 rfl rfl 0 (by decide) (hts (.fieldLink RX7 47 "InverterGraphsModel" "thrown" "I") (by decide +kernel)) (fun _ h9 => h9) rfl dX7_box_78 ?_
          refine lv_if_le (tgt := 86) hx hb dX7_box_81 (by decide) (fun c_81 => ?_) (fun c_81 => ?_)
          · skip
            exfalso; revert c_81; decide
          · skip
            refine lv_iconst (v := 0) hx hb dX7_box_84 (by decide) ?_
            exact W.iret (v := 0) hx hb hr (fun t ht hW => ⟨⟨0, (1, kc, cp, cn, kn), rfl, (by unfold m_box; rw [hf9, if_neg c_34, if_neg c_39, if_pos c_44]), by rw [ht]; exact hP, hD⟩, hS.F ht⟩) hS.2.2 dX7_box_85
        · skip
          refine lv_iload_n hx hb dX7_box_47 rfl (lv_at hl 2 rfl) ?_
          refine lv_bipush (v := 20) hx hb dX7_box_48 (by decide) ?_
          refine lv_icmp_le (tgt := 57) hx hb dX7_box_50 (by decide) (fun c_50 => ?_) (fun c_50 => ?_)
          · skip
            obtain ⟨a, hva, rfl⟩ := nI_of c_34
            have ha9 : a ≤ f := Nat.le_of_not_lt (fun q9 => c_39 ((nI_ltI (by omega) (by omega)).mpr q9))
            obtain ⟨b, hb1, hb2, rfl⟩ := m_b20 c_44 c_50
            refine lv_aload_n hx hb dX7_box_57 rfl (lv_at hl 0 rfl) ?_
            refine va_get (D := D) (ci := 7) (v := .int (nI (mnd kc))) (C := RX7) (T := TX7) (N := 15) hx hb hts (iwX7_box_7) hown hK.1 hP 0 rfl rfl 5 (by decide) (hts (.fieldLink RX7 43 "InverterGraphsModel" "nodes" "I") (by decide +kernel)) (fun _ h9 => h9) rfl dX7_box_58 ?_
            refine lv_iload_n hx hb dX7_box_61 rfl (lv_at hl 2 rfl) ?_
            refine lv_iadd hx hb dX7_box_62 ?_
            refine lv_topi (nm_r (nI_add (mnd kc) b) ?_)
            refine lv_sipush (v := 400) hx hb dX7_box_63 (by decide) ?_
            refine lv_icmp_le (tgt := 73) hx hb dX7_box_66 (by decide) (fun c_66 => ?_) (fun c_66 => ?_)
            · skip
              have c_66 : ((mnd kc) + b) ≤ 400 := (nI_leI (a := ((mnd kc) + b)) (b := 400) (by omega) (by omega)).mp c_66
              refine lv_iconst (v := 0) hx hb dX7_box_73 (by decide) ?_
              refine va_put (D := D) (ci := 7) (v := .int 0) (ty := .int) (C := RX7) (T := TX7) (N := 15) hx hb hts (iwX7_box_7) tyX7 tyX7_ok nmX7 hown hK.1 hP hD hS 0 rfl rfl 0 (by decide) (hts (.fieldLink RX7 47 "InverterGraphsModel" "thrown" "I") (by decide +kernel)) (fun _ h9 => h9) rfl (by decide +kernel) rfl rfl (Nat.le_of_ble_eq_true rfl) dX7_box_74 (fun H locs hP hD hS => ?_)
              have hP : va_P D vwCl (wN κ q 0 kc cp cn ro kn lv be) H := hP
              have hD : va_D A (wN κ q 0 kc cp cn ro kn lv be) := hD
              refine lv_aload_n hx hb dX7_box_77 rfl (lv_at hl 0 rfl) ?_
              refine va_get (D := D) (ci := 7) (v := .int 0) (C := RX7) (T := TX7) (N := 15) hx hb hts (iwX7_box_7) hown hK.1 hP 0 rfl rfl 0 (by decide) (hts (.fieldLink RX7 47 "InverterGraphsModel" "thrown" "I") (by decide +kernel)) (fun _ h9 => h9) rfl dX7_box_78 ?_
              refine lv_if_le (tgt := 86) hx hb dX7_box_81 (by decide) (fun c_81 => ?_) (fun c_81 => ?_)
              · skip
                refine lv_aload_n hx hb dX7_box_86 rfl (lv_at hl 0 rfl) ?_
                refine k_cWUv (D := D) (κ := κ) (qc := (RX7, TX7, 15)) (ci := 7) (q0 := 0) ⟨hx, hb, hml, hown, hts⟩ (c_X7_save l D κ _ q 0 kc cp cn ro kn lv be  (by omega) (by omega) (by omega)) (cwV 0 hts gX7_box_X7_save rfl rfl rfl (by decide +kernel) ⟨Nat.le_of_ble_eq_true rfl, Nat.le_of_ble_eq_true rfl⟩) hK hP hD hS hA rfl rfl (As := []) (rest := []) rfl rfl hl.1 (Nat.le_of_ble_eq_true rfl) dX7_box_87 ⟨Nat.le_of_ble_eq_true rfl, Nat.le_of_ble_eq_true rfl⟩ (fun u_87 H locs hw9 hP hD hS => ?_)
                have hu_87 := hw9
                have hq_87 : u_87.2 ≤ 30 := by rw [hu_87]; exact m_save_le _ _ (by omega)
                have hP : va_P D vwCl (wN κ q 0 kc u_87.1 u_87.2 ro 0 lv be) H := hP
                have hD : va_D A (wN κ q 0 kc u_87.1 u_87.2 ro 0 lv be) := hD
                refine lv_iconst (v := 0) hx hb dX7_box_90 (by decide) ?_
                refine lv_istore (lv' := [(4, .int 0), (0, .ref (q 0)), (1, .int (nI a)), (2, .int (nI b)), (3, .int (nI f))]) hx hb dX7_box_91 hl (by decide) rfl (fun ls hl => ?_)
                have l2 : ∀ (k i : Nat) (H : Heap) (locs : List Loc) (ls : Array Slot), (i + k = b) → va_P D vwCl (wN κ q 0 (m_olt (m_bxc a kc) i) u_87.1 u_87.2 ro 0 lv be) H → va_D A (wN κ q 0 (m_olt (m_bxc a kc) i) u_87.1 u_87.2 ro 0 lv be) → va_S A s.heap H locs → lv_has ls 6 [(0, .ref (q 0)), (1, .int (nI a)), (2, .int (nI b)), (3, .int (nI f)), (4, .int (nI (mnd kc))), (5, .int (nI i))] → W p l e (headSpec wsX7_box ({ frames := 1, cells := 0, slots := 0, locals := 23 })).room s m ([.ref (q 0), .int (nI a), .int (nI b)] : List Value).toArray below meth c H locs 0 0 (MQ below (va_Qi (S := KX) (fun r u => (r, u) = m_box kc cp cn kn (nI a) (nI b)) (fun u => k_B D A (wN κ q u.1 u.2.1 u.2.2.1 u.2.2.2.1 ro u.2.2.2.2 lv be)) A) ([.ref (q 0), .int (nI a), .int (nI b)] : List Value).toArray s 0 0 A) (F0 m 129 ls []) := by
                  intro k
                  induction k with
                  | zero =>
                    intro i H locs ls hi hP hD hS hl
                    refine lv_iload hx hb dX7_box_129 (lv_at hl 5 rfl) ?_
                    refine lv_iload_n hx hb dX7_box_131 rfl (lv_at hl 2 rfl) ?_
                    refine lv_icmp_ge (tgt := 149) hx hb dX7_box_132 (by decide) (fun c_132 => ?_) (fun c_132 => ?_)
                    · skip
                      have c_132 : b ≤ i := (nI_leI (a := b) (b := i) (by omega) (by omega)).mp c_132
                      have e9 : b = i := by omega
                      subst e9
                      refine lv_iconst (v := 2) hx hb dX7_box_149 (by decide) ?_
                      refine lv_iload hx hb dX7_box_150 (lv_at hl 4 rfl) ?_
                      refine lv_imul hx hb dX7_box_152 ?_
                      refine lv_topi (nm_r (pk_mul 2 (mnd kc)) ?_)
                      exact W.iret (v := nI (2 * (mnd kc))) hx hb hr (fun t ht hW => ⟨⟨nI (2 * (mnd kc)), (0, m_olt (m_bxc a kc) b, u_87.1, u_87.2, 0), rfl, (by unfold m_box; rw [hf9, nI_clamp (show a < 2 ^ 31 by omega), nI_clamp (show b < 2 ^ 31 by omega), if_neg c_34, if_neg c_39, if_neg c_44, if_pos c_50, if_pos c_66]; unfold m_sv; rw [← hu_87] <;> rfl), by rw [ht]; exact hP, hD⟩, hS.F ht⟩) hS.2.2 dX7_box_153
                    · skip
                      have c_132 : ¬ (b ≤ i) := fun h9 => c_132 ((nI_leI (a := b) (b := i) (by omega) (by omega)).mpr h9)
                      exfalso; omega
                  | succ k ih =>
                    intro i H locs ls hi hP hD hS hl
                    refine lv_iload hx hb dX7_box_129 (lv_at hl 5 rfl) ?_
                    refine lv_iload_n hx hb dX7_box_131 rfl (lv_at hl 2 rfl) ?_
                    refine lv_icmp_ge (tgt := 149) hx hb dX7_box_132 (by decide) (fun c_132 => ?_) (fun c_132 => ?_)
                    · skip
                      have c_132 : b ≤ i := (nI_leI (a := b) (b := i) (by omega) (by omega)).mp c_132
                      exfalso; omega
                    · skip
                      have c_132 : ¬ (b ≤ i) := fun h9 => c_132 ((nI_leI (a := b) (b := i) (by omega) (by omega)).mpr h9)
                      have hn8 := m_olt_nd (m_bxc a kc) i
                      have ho8 := m_olt_oc (m_bxc a kc) i
                      have hn7 : mnd (m_bxc a kc) = mnd kc := rfl
                      have ho7 : moc (m_bxc a kc) = moc kc := rfl
                      refine lv_aload_n hx hb dX7_box_135 rfl (lv_at hl 0 rfl) ?_
                      refine lv_iconst (v := 4) hx hb dX7_box_136 (by decide) ?_
                      refine lv_iconst (v := 0) hx hb dX7_box_137 (by decide) ?_
                      refine lv_iconst (v := 0) hx hb dX7_box_138 (by decide) ?_
                      refine k_cWUi (D := D) (κ := κ) (qc := (RX7, TX7, 15)) (ci := 7) (q0 := 0) ⟨hx, hb, hml, hown, hts⟩ (c_X7_newNode l D κ _ q 0 (m_olt (m_bxc a kc) i) u_87.1 u_87.2 ro 0 lv be 4 0 0 (by omega) (by omega) (by omega) (by omega)) (cwV 3 hts gX7_box_X7_newNode rfl rfl rfl (by decide +kernel) ⟨Nat.le_of_ble_eq_true rfl, Nat.le_of_ble_eq_true rfl⟩) hK hP hD hS hA rfl rfl (As := [.int 4, .int 0, .int 0]) (rest := []) rfl rfl hl.1 (Nat.le_of_ble_eq_true rfl) dX7_box_139 ⟨Nat.le_of_ble_eq_true rfl, Nat.le_of_ble_eq_true rfl⟩ (fun r _ H locs hr hP hD hS => ?_)
                      have hP : va_P D vwCl (wN κ q 0 (m_new 4 0 0 (m_olt (m_bxc a kc) i)) u_87.1 u_87.2 ro 0 lv be) H := hP
                      have hD : va_D A (wN κ q 0 (m_new 4 0 0 (m_olt (m_bxc a kc) i)) u_87.1 u_87.2 ro 0 lv be) := hD
                      subst hr
                      refine lv_pop hx hb dX7_box_142 rfl ?_
                      refine lv_iinc (v := nI (i + 1)) (lv' := [(5, .int (nI (i + 1))), (0, .ref (q 0)), (1, .int (nI a)), (2, .int (nI b)), (3, .int (nI f)), (4, .int (nI (mnd kc)))]) hx hb dX7_box_143 hl (k := 5) rfl (nI_1 _) (by decide) rfl (fun ls hl => ?_)
                      refine lv_goto (tgt := 129) hx hb dX7_box_146 (by decide) ?_
                      exact ih (i + 1) H locs ls (by omega) hP hD hS (lv_sub hl [1, 2, 3, 4, 5, 0] rfl)
                have l1 : ∀ (k i : Nat) (H : Heap) (locs : List Loc) (ls : Array Slot), (i + k = a) → va_P D vwCl (wN κ q 0 (mso kc, mon kc, mtw kc, mst kc, mnd kc, mou kc, m_bxl (mbo kc) (moc kc) i, moc kc) u_87.1 u_87.2 ro 0 lv be) H → va_D A (wN κ q 0 (mso kc, mon kc, mtw kc, mst kc, mnd kc, mou kc, m_bxl (mbo kc) (moc kc) i, moc kc) u_87.1 u_87.2 ro 0 lv be) → va_S A s.heap H locs → lv_has ls 6 [(0, .ref (q 0)), (1, .int (nI a)), (2, .int (nI b)), (3, .int (nI f)), (4, .int (nI i))] → W p l e (headSpec wsX7_box ({ frames := 1, cells := 0, slots := 0, locals := 23 })).room s m ([.ref (q 0), .int (nI a), .int (nI b)] : List Value).toArray below meth c H locs 0 0 (MQ below (va_Qi (S := KX) (fun r u => (r, u) = m_box kc cp cn kn (nI a) (nI b)) (fun u => k_B D A (wN κ q u.1 u.2.1 u.2.2.1 u.2.2.2.1 ro u.2.2.2.2 lv be)) A) ([.ref (q 0), .int (nI a), .int (nI b)] : List Value).toArray s 0 0 A) (F0 m 93 ls []) := by
                  intro k
                  induction k with
                  | zero =>
                    intro i H locs ls hi hP hD hS hl
                    refine lv_iload hx hb dX7_box_93 (lv_at hl 4 rfl) ?_
                    refine lv_iload_n hx hb dX7_box_95 rfl (lv_at hl 1 rfl) ?_
                    refine lv_icmp_ge (tgt := 120) hx hb dX7_box_96 (by decide) (fun c_96 => ?_) (fun c_96 => ?_)
                    · skip
                      have c_96 : a ≤ i := (nI_leI (a := a) (b := i) (by omega) (by omega)).mp c_96
                      have e9 : a = i := by omega
                      subst e9
                      refine lv_aload_n hx hb dX7_box_120 rfl (lv_at hl 0 rfl) ?_
                      refine va_get (D := D) (ci := 7) (v := .int (nI (mnd kc))) (C := RX7) (T := TX7) (N := 15) hx hb hts (iwX7_box_7) hown hK.1 hP 0 rfl rfl 5 (by decide) (hts (.fieldLink RX7 43 "InverterGraphsModel" "nodes" "I") (by decide +kernel)) (fun _ h9 => h9) rfl dX7_box_121 ?_
                      refine lv_istore (lv' := [(4, .int (nI (mnd kc))), (0, .ref (q 0)), (1, .int (nI a)), (2, .int (nI b)), (3, .int (nI f))]) hx hb dX7_box_124 hl (by decide) rfl (fun ls hl => ?_)
                      refine lv_iconst (v := 0) hx hb dX7_box_126 (by decide) ?_
                      refine lv_istore (lv' := [(5, .int 0), (4, .int (nI (mnd kc))), (0, .ref (q 0)), (1, .int (nI a)), (2, .int (nI b)), (3, .int (nI f))]) hx hb dX7_box_127 hl (by decide) rfl (fun ls hl => ?_)
                      exact l2 b 0 H locs ls (by omega) hP hD hS (lv_sub hl [2, 3, 4, 5, 1, 0] rfl)
                    · skip
                      have c_96 : ¬ (a ≤ i) := fun h9 => c_96 ((nI_leI (a := a) (b := i) (by omega) (by omega)).mpr h9)
                      exfalso; omega
                  | succ k ih =>
                    intro i H locs ls hi hP hD hS hl
                    refine lv_iload hx hb dX7_box_93 (lv_at hl 4 rfl) ?_
                    refine lv_iload_n hx hb dX7_box_95 rfl (lv_at hl 1 rfl) ?_
                    refine lv_icmp_ge (tgt := 120) hx hb dX7_box_96 (by decide) (fun c_96 => ?_) (fun c_96 => ?_)
                    · skip
                      have c_96 : a ≤ i := (nI_leI (a := a) (b := i) (by omega) (by omega)).mp c_96
                      exfalso; omega
                    · skip
                      have c_96 : ¬ (a ≤ i) := fun h9 => c_96 ((nI_leI (a := a) (b := i) (by omega) (by omega)).mpr h9)
                      refine lv_aload_n hx hb dX7_box_99 rfl (lv_at hl 0 rfl) ?_
                      refine va_get (D := D) (ci := 7) (v := .ref (q 6)) (C := RX7) (T := TX7) (N := 15) hx hb hts (iwX7_box_7) hown hK.1 hP 0 rfl rfl 7 (by decide) (hts (.fieldLink RX7 25 "InverterGraphsModel" "boxed" "[Z") (by decide +kernel)) (fun _ h9 => h9) rfl dX7_box_100 ?_
                      refine lv_aload_n hx hb dX7_box_103 rfl (lv_at hl 0 rfl) ?_
                      refine va_get (D := D) (ci := 7) (v := .int (nI (moc kc))) (C := RX7) (T := TX7) (N := 15) hx hb hts (iwX7_box_7) hown hK.1 hP 0 rfl rfl 8 (by decide) (hts (.fieldLink RX7 54 "InverterGraphsModel" "outputCount" "I") (by decide +kernel)) (fun _ h9 => h9) rfl dX7_box_104 ?_
                      refine lv_iconst (v := 1) hx hb dX7_box_107 (by decide) ?_
                      refine lv_isub hx hb dX7_box_108 ?_
                      refine lv_topi (nm_r (pk_sub (a := moc kc) (b := 1) (by omega)) ?_)
                      refine lv_iload hx hb dX7_box_109 (lv_at hl 4 rfl) ?_
                      refine lv_isub hx hb dX7_box_111 ?_
                      refine lv_topi (nm_r (pk_sub (a := (moc kc) - 1) (b := i) (by omega)) ?_)
                      refine lv_iconst (v := 1) hx hb dX7_box_112 (by decide) ?_
                      refine k_zast (D := D) (j := ((moc kc) - 1) - i) hx hb hK.1 hP hD hS 6 2 rfl rfl (by omega) (by omega) (rfl) dX7_box_113 (fun H locs hP hD hS => ?_)
                      have hP : va_P D vwCl (wN κ q 0 (mso kc, mon kc, mtw kc, mst kc, mnd kc, mou kc, upd (m_bxl (mbo kc) (moc kc) i) (((moc kc) - 1) - i) 1, moc kc) u_87.1 u_87.2 ro 0 lv be) H := hP
                      have hD : va_D A (wN κ q 0 (mso kc, mon kc, mtw kc, mst kc, mnd kc, mou kc, upd (m_bxl (mbo kc) (moc kc) i) (((moc kc) - 1) - i) 1, moc kc) u_87.1 u_87.2 ro 0 lv be) := hD
                      refine lv_iinc (v := nI (i + 1)) (lv' := [(4, .int (nI (i + 1))), (0, .ref (q 0)), (1, .int (nI a)), (2, .int (nI b)), (3, .int (nI f))]) hx hb dX7_box_114 hl (k := 4) rfl (nI_1 _) (by decide) rfl (fun ls hl => ?_)
                      refine lv_goto (tgt := 93) hx hb dX7_box_117 (by decide) ?_
                      exact ih (i + 1) H locs ls (by omega) (by rw [← m_bxl_s _ _ _ (show i < moc kc by omega)]; exact hP) (by rw [← m_bxl_s _ _ _ (show i < moc kc by omega)]; exact hD) hS (lv_sub hl [1, 2, 3, 4, 0] rfl)
                exact l1 a 0 H locs ls (by omega) (by rw [m_bxl_0]; exact hP) (by rw [m_bxl_0]; exact hD) hS (lv_sub hl [1, 2, 3, 4, 0] rfl)
              · skip
                exfalso; revert c_81; decide
            · skip
              have c_66 : ¬ (((mnd kc) + b) ≤ 400) := fun h9 => c_66 ((nI_leI (a := ((mnd kc) + b)) (b := 400) (by omega) (by omega)).mpr h9)
              refine lv_iconst (v := 2) hx hb dX7_box_69 (by decide) ?_
              refine lv_goto (tgt := 74) hx hb dX7_box_70 (by decide) ?_
              refine va_put (D := D) (ci := 7) (v := .int 2) (ty := .int) (C := RX7) (T := TX7) (N := 15) hx hb hts (iwX7_box_7) tyX7 tyX7_ok nmX7 hown hK.1 hP hD hS 0 rfl rfl 0 (by decide) (hts (.fieldLink RX7 47 "InverterGraphsModel" "thrown" "I") (by decide +kernel)) (fun _ h9 => h9) rfl (by decide +kernel) rfl rfl (Nat.le_of_ble_eq_true rfl) dX7_box_74 (fun H locs hP hD hS => ?_)
              have hP : va_P D vwCl (wN κ q 2 kc cp cn ro kn lv be) H := hP
              have hD : va_D A (wN κ q 2 kc cp cn ro kn lv be) := hD
              refine lv_aload_n hx hb dX7_box_77 rfl (lv_at hl 0 rfl) ?_
              refine va_get (D := D) (ci := 7) (v := .int 2) (C := RX7) (T := TX7) (N := 15) hx hb hts (iwX7_box_7) hown hK.1 hP 0 rfl rfl 0 (by decide) (hts (.fieldLink RX7 47 "InverterGraphsModel" "thrown" "I") (by decide +kernel)) (fun _ h9 => h9) rfl dX7_box_78 ?_
              refine lv_if_le (tgt := 86) hx hb dX7_box_81 (by decide) (fun c_81 => ?_) (fun c_81 => ?_)
              · skip
                exfalso; revert c_81; decide
              · skip
                refine lv_iconst (v := 0) hx hb dX7_box_84 (by decide) ?_
                exact W.iret (v := 0) hx hb hr (fun t ht hW => ⟨⟨0, (2, kc, cp, cn, kn), rfl, (by unfold m_box; rw [hf9, nI_clamp (show a < 2 ^ 31 by omega), nI_clamp (show b < 2 ^ 31 by omega), if_neg c_34, if_neg c_39, if_neg c_44, if_pos c_50, if_neg c_66]), by rw [ht]; exact hP, hD⟩, hS.F ht⟩) hS.2.2 dX7_box_85
          · skip
            refine lv_iconst (v := 1) hx hb dX7_box_53 (by decide) ?_
            refine lv_goto (tgt := 74) hx hb dX7_box_54 (by decide) ?_
            refine va_put (D := D) (ci := 7) (v := .int 1) (ty := .int) (C := RX7) (T := TX7) (N := 15) hx hb hts (iwX7_box_7) tyX7 tyX7_ok nmX7 hown hK.1 hP hD hS 0 rfl rfl 0 (by decide) (hts (.fieldLink RX7 47 "InverterGraphsModel" "thrown" "I") (by decide +kernel)) (fun _ h9 => h9) rfl (by decide +kernel) rfl rfl (Nat.le_of_ble_eq_true rfl) dX7_box_74 (fun H locs hP hD hS => ?_)
            have hP : va_P D vwCl (wN κ q 1 kc cp cn ro kn lv be) H := hP
            have hD : va_D A (wN κ q 1 kc cp cn ro kn lv be) := hD
            refine lv_aload_n hx hb dX7_box_77 rfl (lv_at hl 0 rfl) ?_
            refine va_get (D := D) (ci := 7) (v := .int 1) (C := RX7) (T := TX7) (N := 15) hx hb hts (iwX7_box_7) hown hK.1 hP 0 rfl rfl 0 (by decide) (hts (.fieldLink RX7 47 "InverterGraphsModel" "thrown" "I") (by decide +kernel)) (fun _ h9 => h9) rfl dX7_box_78 ?_
            refine lv_if_le (tgt := 86) hx hb dX7_box_81 (by decide) (fun c_81 => ?_) (fun c_81 => ?_)
            · skip
              exfalso; revert c_81; decide
            · skip
              refine lv_iconst (v := 0) hx hb dX7_box_84 (by decide) ?_
              exact W.iret (v := 0) hx hb hr (fun t ht hW => ⟨⟨0, (1, kc, cp, cn, kn), rfl, (by unfold m_box; rw [hf9, if_neg c_34, if_neg c_39, if_neg c_44, if_neg c_50]), by rw [ht]; exact hP, hD⟩, hS.F ht⟩) hS.2.2 dX7_box_85
  have lp : ∀ (k i : Nat) (H : Heap) (locs : List Loc) (ls : Array Slot), (i + k = moc kc) → (m_fr kc (moc kc) 0 = m_fr kc k i) → va_P D vwCl (wN κ q th kc cp cn ro kn lv be) H → va_D A (wN κ q th kc cp cn ro kn lv be) → va_S A s.heap H locs → lv_has ls 6 [(0, .ref (q 0)), (1, .int p0), (2, .int p1), (3, .int (nI i))] → W p l e (headSpec wsX7_box ({ frames := 1, cells := 0, slots := 0, locals := 23 })).room s m ([.ref (q 0), .int p0, .int p1] : List Value).toArray below meth c H locs 0 0 (MQ below (va_Qi (S := KX) (fun r u => (r, u) = m_box kc cp cn kn p0 p1) (fun u => k_B D A (wN κ q u.1 u.2.1 u.2.2.1 u.2.2.2.1 ro u.2.2.2.2 lv be)) A) ([.ref (q 0), .int p0, .int p1] : List Value).toArray s 0 0 A) (F0 m 2 ls []) := by
    intro k
    induction k with
    | zero =>
      intro i H locs ls hi hr9 hP hD hS hl
      refine lv_iload_n hx hb dX7_box_2 rfl (lv_at hl 3 rfl) ?_
      refine lv_aload_n hx hb dX7_box_3 rfl (lv_at hl 0 rfl) ?_
      refine va_get (D := D) (ci := 7) (v := .int (nI (moc kc))) (C := RX7) (T := TX7) (N := 15) hx hb hts (iwX7_box_7) hown hK.1 hP 0 rfl rfl 8 (by decide) (hts (.fieldLink RX7 54 "InverterGraphsModel" "outputCount" "I") (by decide +kernel)) (fun _ h9 => h9) rfl dX7_box_4 ?_
      refine lv_icmp_ge (tgt := 32) hx hb dX7_box_7 (by decide) (fun c_7 => ?_) (fun c_7 => ?_)
      · skip
        have c_7 : (moc kc) ≤ i := (nI_leI (a := (moc kc)) (b := i) (by omega) (by omega)).mp c_7
        exact rest i H locs ls (by rw [hr9]; rfl) (by omega) hP hD hS (lv_sub hl [0, 1, 2, 3] rfl)
      · skip
        have c_7 : ¬ ((moc kc) ≤ i) := fun h9 => c_7 ((nI_leI (a := (moc kc)) (b := i) (by omega) (by omega)).mpr h9)
        exfalso; omega
    | succ k ih =>
      intro i H locs ls hi hr9 hP hD hS hl
      refine lv_iload_n hx hb dX7_box_2 rfl (lv_at hl 3 rfl) ?_
      refine lv_aload_n hx hb dX7_box_3 rfl (lv_at hl 0 rfl) ?_
      refine va_get (D := D) (ci := 7) (v := .int (nI (moc kc))) (C := RX7) (T := TX7) (N := 15) hx hb hts (iwX7_box_7) hown hK.1 hP 0 rfl rfl 8 (by decide) (hts (.fieldLink RX7 54 "InverterGraphsModel" "outputCount" "I") (by decide +kernel)) (fun _ h9 => h9) rfl dX7_box_4 ?_
      refine lv_icmp_ge (tgt := 32) hx hb dX7_box_7 (by decide) (fun c_7 => ?_) (fun c_7 => ?_)
      · skip
        have c_7 : (moc kc) ≤ i := (nI_leI (a := (moc kc)) (b := i) (by omega) (by omega)).mp c_7
        exfalso; omega
      · skip
        have c_7 : ¬ ((moc kc) ≤ i) := fun h9 => c_7 ((nI_leI (a := (moc kc)) (b := i) (by omega) (by omega)).mpr h9)
        refine lv_aload_n hx hb dX7_box_10 rfl (lv_at hl 0 rfl) ?_
        refine va_get (D := D) (ci := 7) (v := .ref (q 6)) (C := RX7) (T := TX7) (N := 15) hx hb hts (iwX7_box_7) hown hK.1 hP 0 rfl rfl 7 (by decide) (hts (.fieldLink RX7 25 "InverterGraphsModel" "boxed" "[Z") (by decide +kernel)) (fun _ h9 => h9) rfl dX7_box_11 ?_
        refine lv_aload_n hx hb dX7_box_14 rfl (lv_at hl 0 rfl) ?_
        refine va_get (D := D) (ci := 7) (v := .int (nI (moc kc))) (C := RX7) (T := TX7) (N := 15) hx hb hts (iwX7_box_7) hown hK.1 hP 0 rfl rfl 8 (by decide) (hts (.fieldLink RX7 54 "InverterGraphsModel" "outputCount" "I") (by decide +kernel)) (fun _ h9 => h9) rfl dX7_box_15 ?_
        refine lv_iconst (v := 1) hx hb dX7_box_18 (by decide) ?_
        refine lv_isub hx hb dX7_box_19 ?_
        refine lv_topi (nm_r (pk_sub (a := moc kc) (b := 1) (by omega)) ?_)
        refine lv_iload_n hx hb dX7_box_20 rfl (lv_at hl 3 rfl) ?_
        refine lv_isub hx hb dX7_box_21 ?_
        refine lv_topi (nm_r (pk_sub (a := (moc kc) - 1) (b := i) (by omega)) ?_)
        refine k_zald (D := D) (j := ((moc kc) - 1) - i) hx hb hK.1 hP 6 2 rfl rfl (by omega) (by omega) dX7_box_22 ?_
        refine lv_if_ne (tgt := 32) hx hb dX7_box_23 (by decide) (fun c_23 => ?_) (fun c_23 => ?_)
        · skip
          exact rest i H locs ls (by rw [hr9, m_fr, if_neg c_23]) (by omega) hP hD hS (lv_sub hl [0, 1, 2, 3] rfl)
        · skip
          refine lv_iinc (v := nI (i + 1)) (lv' := [(3, .int (nI (i + 1))), (0, .ref (q 0)), (1, .int p0), (2, .int p1)]) hx hb dX7_box_26 hl (k := 3) rfl (nI_1 _) (by decide) rfl (fun ls hl => ?_)
          refine lv_goto (tgt := 2) hx hb dX7_box_29 (by decide) ?_
          exact ih (i + 1) H locs ls (by omega) (by rw [hr9, m_fr, if_pos c_23]) hP hD hS (lv_sub hl [1, 2, 3, 0] rfl)
  exact lp (moc kc) 0 _ _ ls (by omega) rfl hP hD hS (lv_sub hl [1, 2, 3, 0] rfl)
theorem iwX7_sweep_7 : ∀ w ∈ wsX70, w ∈ wsX7_sweep := by decide +kernel
set_option maxHeartbeats 4000000 in
set_option maxRecDepth 100000 in
theorem c_X7_sweep (l : Launch) (D : va_G) (κ : Nat → ClassId) (sz : Nat) (q : Nat → Nat) (th : Int32) (kc : KC) (cp : Nat → Int32) (cn : Nat) (ro : Nat → Int64) (kn : Int32) (lv be : Nat → Int32) (K : Nat) (hnd : mnd kc ≤ 400) (hoc : moc kc ≤ 40) (hcn : cn ≤ 30) (hlt : ∀ j, j < mnd kc → mso kc j = 2 → mon kc j < 2 * mnd kc ∧ mtw kc j < 2 * mnd kc) (hla : ∀ j, j < mnd kc → mso kc j = 3 → mon kc j < 2 * mnd kc) (hlo : ∀ j, j < moc kc → mou kc j < 2 * mnd kc) (hfin : k_itF (m_cF kc) (fun _ => True) K 1 (m_us0 kc be)) : k_mui (S := KX) l yX7_sweep wsX7_sweep 1 22 0 0 D κ [.ref (q 0)] (wN κ q th kc cp cn ro kn lv be) sz (fun r u => (r, u) = m_sweep K kc cp cn kn be) (fun u => wN κ q u.1 u.2.1 u.2.2.1 u.2.2.2.1 ro u.2.2.2.2 lv (m_swB K kc be)) := by
  refine Met.ofW (cc := cX7_sweep) (maxL := 3) (ret := (some .int)) (by decide) rfl ?_
  intro p e s m args below meth c s₁ B hml hv
  obtain ⟨rfl, hsz, hK, hP, hD0⟩ := hv
  have hx := B.exec
  have hb := B.bytes
  have hr := B.returns
  have hts := atoms_spec (ws := wsX7_sweep) B.pre
  have hown : s.vm.findClass RX7 = some m.cls := findClass_of_methodNamed B.named
  have hlocks := B.notSynchronized
  subst hsz
  have hD := hD0.self (sz := s.heap.size)
  generalize hAe : va_A (wN κ q th kc cp cn ro kn lv be) s.heap.size = A at hD ⊢
  have hA : ∀ q : Nat, s.heap.size ≤ q → A q := fun q h => by rw [← hAe]; exact Or.inr h
  have hS : va_S A s.heap s.heap [] := va_S.rf
  have hP : va_P D vwCl (wN κ q th kc cp cn ro kn lv be) s.heap := hP
  have hl := lv_entry ([.ref (q 0)]) (n := 3) (Nat.le_of_ble_eq_true rfl)
  rw [lg_entry_eq]
  generalize (lg_sl ([.ref (q 0)]) ++ List.replicate (3 - (lg_sl ([.ref (q 0)])).length) Slot.unset).toArray = ls at hl ⊢
  have hl : lv_has ls 3 [(0, .ref (q 0))] := hl
  refine lv_aload_n hx hb dX7_sweep_0 rfl (lv_at hl 0 rfl) ?_
  refine lv_iconst (v := 0) hx hb dX7_sweep_1 (by decide) ?_
  refine va_put (D := D) (ci := 7) (v := .int 0) (ty := .int) (C := RX7) (T := TX7) (N := 15) hx hb hts (iwX7_sweep_7) tyX7 tyX7_ok nmX7 hown hK.1 hP hD hS 0 rfl rfl 0 (by decide) (hts (.fieldLink RX7 47 "InverterGraphsModel" "thrown" "I") (by decide +kernel)) (fun _ h9 => h9) rfl (by decide +kernel) rfl rfl (Nat.le_of_ble_eq_true rfl) dX7_sweep_2 (fun H locs hP hD hS => ?_)
  have hP : va_P D vwCl (wN κ q 0 kc cp cn ro kn lv be) H := hP
  have hD : va_D A (wN κ q 0 kc cp cn ro kn lv be) := hD
  refine lv_aload_n hx hb dX7_sweep_5 rfl (lv_at hl 0 rfl) ?_
  refine k_cWUv (D := D) (κ := κ) (qc := (RX7, TX7, 15)) (ci := 7) (q0 := 0) ⟨hx, hb, hml, hown, hts⟩ (c_X7_used l D κ _ q 0 kc cp cn ro kn lv be K (by omega) (by omega) (by omega) (by assumption) (by assumption) (by assumption) (by assumption)) (cwV 0 hts gX7_sweep_X7_used rfl rfl rfl (by decide +kernel) ⟨Nat.le_of_ble_eq_true rfl, Nat.le_of_ble_eq_true rfl⟩) hK hP hD hS hA rfl rfl (As := []) (rest := []) rfl rfl hl.1 (Nat.le_of_ble_eq_true rfl) dX7_sweep_6 ⟨Nat.le_of_ble_eq_true rfl, Nat.le_of_ble_eq_true rfl⟩ (fun u_6 H locs hw9 hP hD hS => ?_)
  have hu_6 := hw9
  have hP : va_P D vwCl (wN κ q 0 kc cp cn ro kn lv u_6) H := hP
  have hD : va_D A (wN κ q 0 kc cp cn ro kn lv u_6) := hD
  refine lv_iconst (v := 0) hx hb dX7_sweep_9 (by decide) ?_
  refine lv_istore_n (lv' := [(1, .int 0), (0, .ref (q 0))]) hx hb dX7_sweep_10 rfl hl (by decide) rfl (fun ls hl => ?_)
  refine lv_iconst (v := 0) hx hb dX7_sweep_11 (by decide) ?_
  refine lv_istore_n (lv' := [(2, .int 0), (1, .int 0), (0, .ref (q 0))]) hx hb dX7_sweep_12 rfl hl (by decide) rfl (fun ls hl => ?_)
  have l1 : ∀ (k i : Nat) (H : Heap) (locs : List Loc) (ls : Array Slot), (i + k = mnd kc) → va_P D vwCl (wN κ q 0 kc cp cn ro kn lv u_6) H → va_D A (wN κ q 0 kc cp cn ro kn lv u_6) → va_S A s.heap H locs → lv_has ls 3 [(0, .ref (q 0)), (1, .int (m_swc kc u_6 i)), (2, .int (nI i))] → W p l e (headSpec wsX7_sweep ({ frames := 1, cells := 0, slots := 0, locals := 22 })).room s m ([.ref (q 0)] : List Value).toArray below meth c H locs 0 0 (MQ below (va_Qi (S := KX) (fun r u => (r, u) = m_sweep K kc cp cn kn be) (fun u => k_B D A (wN κ q u.1 u.2.1 u.2.2.1 u.2.2.2.1 ro u.2.2.2.2 lv (m_swB K kc be))) A) ([.ref (q 0)] : List Value).toArray s 0 0 A) (F0 m 13 ls []) := by
    intro k
    induction k with
    | zero =>
      intro i H locs ls hi hP hD hS hl
      refine lv_iload_n hx hb dX7_sweep_13 rfl (lv_at hl 2 rfl) ?_
      refine lv_aload_n hx hb dX7_sweep_14 rfl (lv_at hl 0 rfl) ?_
      refine va_get (D := D) (ci := 7) (v := .int (nI (mnd kc))) (C := RX7) (T := TX7) (N := 15) hx hb hts (iwX7_sweep_7) hown hK.1 hP 0 rfl rfl 5 (by decide) (hts (.fieldLink RX7 43 "InverterGraphsModel" "nodes" "I") (by decide +kernel)) (fun _ h9 => h9) rfl dX7_sweep_15 ?_
      refine lv_icmp_ge (tgt := 54) hx hb dX7_sweep_18 (by decide) (fun c_18 => ?_) (fun c_18 => ?_)
      · skip
        have c_18 : (mnd kc) ≤ i := (nI_leI (a := (mnd kc)) (b := i) (by omega) (by omega)).mp c_18
        have e9 : mnd kc = i := by omega
        subst e9
        refine lv_iload_n hx hb dX7_sweep_54 rfl (lv_at hl 1 rfl) ?_
        refine lv_if_le (tgt := 103) hx hb dX7_sweep_55 (by decide) (fun c_55 => ?_) (fun c_55 => ?_)
        · skip
          refine lv_iload_n hx hb dX7_sweep_103 rfl (lv_at hl 1 rfl) ?_
          have e8 : m_swB K kc be = u_6 := hu_6.symm
          rw [e8]
          exact W.iret (v := m_swc kc u_6 (mnd kc)) hx hb hr (fun t ht hW => ⟨⟨m_swc kc u_6 (mnd kc), (0, kc, cp, cn, kn), rfl, (by unfold m_sweep; unfold m_swB; rw [← hu_6, if_pos c_55]), by rw [ht]; exact hP, hD⟩, hS.F ht⟩) hS.2.2 dX7_sweep_104
        · skip
          refine lv_aload_n hx hb dX7_sweep_58 rfl (lv_at hl 0 rfl) ?_
          refine k_cWUv (D := D) (κ := κ) (qc := (RX7, TX7, 15)) (ci := 7) (q0 := 0) ⟨hx, hb, hml, hown, hts⟩ (c_X7_save l D κ _ q 0 kc cp cn ro kn lv u_6  (by omega) (by omega) (by omega)) (cwV 0 hts gX7_sweep_X7_save rfl rfl rfl (by decide +kernel) ⟨Nat.le_of_ble_eq_true rfl, Nat.le_of_ble_eq_true rfl⟩) hK hP hD hS hA rfl rfl (As := []) (rest := []) rfl rfl hl.1 (Nat.le_of_ble_eq_true rfl) dX7_sweep_59 ⟨Nat.le_of_ble_eq_true rfl, Nat.le_of_ble_eq_true rfl⟩ (fun u_59 H locs hw9 hP hD hS => ?_)
          have hu_59 := hw9
          have hq_59 : u_59.2 ≤ 30 := by rw [hu_59]; exact m_save_le _ _ (by omega)
          have hP : va_P D vwCl (wN κ q 0 kc u_59.1 u_59.2 ro 0 lv u_6) H := hP
          have hD : va_D A (wN κ q 0 kc u_59.1 u_59.2 ro 0 lv u_6) := hD
          refine lv_iconst (v := 0) hx hb dX7_sweep_62 (by decide) ?_
          refine lv_istore_n (lv' := [(2, .int 0), (0, .ref (q 0)), (1, .int (m_swc kc u_6 (mnd kc)))]) hx hb dX7_sweep_63 rfl hl (by decide) rfl (fun ls hl => ?_)
          have l2 : ∀ (k i : Nat) (H : Heap) (locs : List Loc) (ls : Array Slot), (i + k = mnd kc) → va_P D vwCl (wN κ q 0 (m_swl kc u_6 i) u_59.1 u_59.2 ro 0 lv u_6) H → va_D A (wN κ q 0 (m_swl kc u_6 i) u_59.1 u_59.2 ro 0 lv u_6) → va_S A s.heap H locs → lv_has ls 3 [(0, .ref (q 0)), (1, .int (m_swc kc u_6 (mnd kc))), (2, .int (nI i))] → W p l e (headSpec wsX7_sweep ({ frames := 1, cells := 0, slots := 0, locals := 22 })).room s m ([.ref (q 0)] : List Value).toArray below meth c H locs 0 0 (MQ below (va_Qi (S := KX) (fun r u => (r, u) = m_sweep K kc cp cn kn be) (fun u => k_B D A (wN κ q u.1 u.2.1 u.2.2.1 u.2.2.2.1 ro u.2.2.2.2 lv (m_swB K kc be))) A) ([.ref (q 0)] : List Value).toArray s 0 0 A) (F0 m 64 ls []) := by
            intro k
            induction k with
            | zero =>
              intro i H locs ls hi hP hD hS hl
              have hn8 := m_swl_nd kc u_6 i
              refine lv_iload_n hx hb dX7_sweep_64 rfl (lv_at hl 2 rfl) ?_
              refine lv_aload_n hx hb dX7_sweep_65 rfl (lv_at hl 0 rfl) ?_
              refine va_get (D := D) (ci := 7) (v := .int (nI (mnd (m_swl kc u_6 i)))) (C := RX7) (T := TX7) (N := 15) hx hb hts (iwX7_sweep_7) hown hK.1 hP 0 rfl rfl 5 (by decide) (hts (.fieldLink RX7 43 "InverterGraphsModel" "nodes" "I") (by decide +kernel)) (fun _ h9 => h9) rfl dX7_sweep_66 ?_
              refine lv_icmp_ge (tgt := 103) hx hb dX7_sweep_69 (by decide) (fun c_69 => ?_) (fun c_69 => ?_)
              · skip
                have c_69 : (mnd (m_swl kc u_6 i)) ≤ i := (nI_leI (a := (mnd (m_swl kc u_6 i))) (b := i) (by omega) (by omega)).mp c_69
                have e9 : mnd kc = i := by omega
                subst e9
                refine lv_iload_n hx hb dX7_sweep_103 rfl (lv_at hl 1 rfl) ?_
                have e8 : m_swB K kc be = u_6 := hu_6.symm
                rw [e8]
                exact W.iret (v := m_swc kc u_6 (mnd kc)) hx hb hr (fun t ht hW => ⟨⟨m_swc kc u_6 (mnd kc), (0, m_swl kc u_6 (mnd kc), u_59.1, u_59.2, 0), rfl, (by unfold m_sweep; unfold m_swB; rw [← hu_6, if_neg c_55]; unfold m_sv; rw [← hu_59] <;> rfl), by rw [ht]; exact hP, hD⟩, hS.F ht⟩) hS.2.2 dX7_sweep_104
              · skip
                have c_69 : ¬ ((mnd (m_swl kc u_6 i)) ≤ i) := fun h9 => c_69 ((nI_leI (a := (mnd (m_swl kc u_6 i))) (b := i) (by omega) (by omega)).mpr h9)
                exfalso; omega
            | succ k ih =>
              intro i H locs ls hi hP hD hS hl
              have hn8 := m_swl_nd kc u_6 i
              refine lv_iload_n hx hb dX7_sweep_64 rfl (lv_at hl 2 rfl) ?_
              refine lv_aload_n hx hb dX7_sweep_65 rfl (lv_at hl 0 rfl) ?_
              refine va_get (D := D) (ci := 7) (v := .int (nI (mnd (m_swl kc u_6 i)))) (C := RX7) (T := TX7) (N := 15) hx hb hts (iwX7_sweep_7) hown hK.1 hP 0 rfl rfl 5 (by decide) (hts (.fieldLink RX7 43 "InverterGraphsModel" "nodes" "I") (by decide +kernel)) (fun _ h9 => h9) rfl dX7_sweep_66 ?_
              refine lv_icmp_ge (tgt := 103) hx hb dX7_sweep_69 (by decide) (fun c_69 => ?_) (fun c_69 => ?_)
              · skip
                have c_69 : (mnd (m_swl kc u_6 i)) ≤ i := (nI_leI (a := (mnd (m_swl kc u_6 i))) (b := i) (by omega) (by omega)).mp c_69
                exfalso; omega
              · skip
                have c_69 : ¬ ((mnd (m_swl kc u_6 i)) ≤ i) := fun h9 => c_69 ((nI_leI (a := (mnd (m_swl kc u_6 i))) (b := i) (by omega) (by omega)).mpr h9)
                refine lv_aload_n hx hb dX7_sweep_72 rfl (lv_at hl 0 rfl) ?_
                refine va_get (D := D) (ci := 7) (v := .ref (q 1)) (C := RX7) (T := TX7) (N := 15) hx hb hts (iwX7_sweep_7) hown hK.1 hP 0 rfl rfl 1 (by decide) (hts (.fieldLink RX7 7 "InverterGraphsModel" "sorts" "[I") (by decide +kernel)) (fun _ h9 => h9) rfl dX7_sweep_73 ?_
                refine lv_iload_n hx hb dX7_sweep_76 rfl (lv_at hl 2 rfl) ?_
                refine k_iald (D := D) (j := i) hx hb hK.1 hP 1 0 rfl rfl (by omega) (by omega) dX7_sweep_77 ?_
                refine lv_iconst (v := 2) hx hb dX7_sweep_78 (by decide) ?_
                refine lv_icmp_ne (tgt := 97) hx hb dX7_sweep_79 (by decide) (fun c_79 => ?_) (fun c_79 => ?_)
                · skip
                  refine lv_iinc (v := nI (i + 1)) (lv' := [(2, .int (nI (i + 1))), (0, .ref (q 0)), (1, .int (m_swc kc u_6 (mnd kc)))]) hx hb dX7_sweep_97 hl (k := 2) rfl (nI_1 _) (by decide) rfl (fun ls hl => ?_)
                  refine lv_goto (tgt := 64) hx hb dX7_sweep_100 (by decide) ?_
                  exact ih (i + 1) H locs ls (by omega) (by rw [m_swl, if_neg c_79]; exact hP) (by rw [m_swl, if_neg c_79]; exact hD) hS (lv_sub hl [1, 2, 0] rfl)
                · skip
                  refine lv_aload_n hx hb dX7_sweep_82 rfl (lv_at hl 0 rfl) ?_
                  refine va_get (D := D) (ci := 7) (v := .ref (q 10)) (C := RX7) (T := TX7) (N := 15) hx hb hts (iwX7_sweep_7) hown hK.1 hP 0 rfl rfl 14 (by decide) (hts (.fieldLink RX7 40 "InverterGraphsModel" "below" "[Z") (by decide +kernel)) (fun _ h9 => h9) rfl dX7_sweep_83 ?_
                  refine lv_iload_n hx hb dX7_sweep_86 rfl (lv_at hl 2 rfl) ?_
                  refine k_zald (D := D) (j := i) hx hb hK.1 hP 10 2 rfl rfl (by omega) (by omega) dX7_sweep_87 ?_
                  refine lv_if_ne (tgt := 97) hx hb dX7_sweep_88 (by decide) (fun c_88 => ?_) (fun c_88 => ?_)
                  · skip
                    refine lv_iinc (v := nI (i + 1)) (lv' := [(2, .int (nI (i + 1))), (0, .ref (q 0)), (1, .int (m_swc kc u_6 (mnd kc)))]) hx hb dX7_sweep_97 hl (k := 2) rfl (nI_1 _) (by decide) rfl (fun ls hl => ?_)
                    refine lv_goto (tgt := 64) hx hb dX7_sweep_100 (by decide) ?_
                    exact ih (i + 1) H locs ls (by omega) (by rw [m_swl, if_pos c_79, if_neg c_88]; exact hP) (by rw [m_swl, if_pos c_79, if_neg c_88]; exact hD) hS (lv_sub hl [1, 2, 0] rfl)
                  · skip
                    refine lv_aload_n hx hb dX7_sweep_91 rfl (lv_at hl 0 rfl) ?_
                    refine lv_iload_n hx hb dX7_sweep_92 rfl (lv_at hl 2 rfl) ?_
                    refine lv_iconst (v := (-1)) hx hb dX7_sweep_93 (by decide) ?_
                    refine k_cWUv (D := D) (κ := κ) (qc := (RX7, TX7, 15)) (ci := 7) (q0 := 0) ⟨hx, hb, hml, hown, hts⟩ (c_X7_leave l D κ _ q 0 (m_swl kc u_6 i) u_59.1 u_59.2 ro 0 lv u_6 i (-1) (by omega) (by omega) (by omega) (by omega)) (cwV 2 hts gX7_sweep_X7_leave rfl rfl rfl (by decide +kernel) ⟨Nat.le_of_ble_eq_true rfl, Nat.le_of_ble_eq_true rfl⟩) hK hP hD hS hA rfl rfl (As := [.int (nI i), .int (-1)]) (rest := []) rfl rfl hl.1 (Nat.le_of_ble_eq_true rfl) dX7_sweep_94 ⟨Nat.le_of_ble_eq_true rfl, Nat.le_of_ble_eq_true rfl⟩ (fun _ H locs hw9 hP hD hS => ?_)
                    have hP : va_P D vwCl (wN κ q 0 (m_leave i (-1) (m_swl kc u_6 i)) u_59.1 u_59.2 ro 0 lv u_6) H := hP
                    have hD : va_D A (wN κ q 0 (m_leave i (-1) (m_swl kc u_6 i)) u_59.1 u_59.2 ro 0 lv u_6) := hD
                    refine lv_iinc (v := nI (i + 1)) (lv' := [(2, .int (nI (i + 1))), (0, .ref (q 0)), (1, .int (m_swc kc u_6 (mnd kc)))]) hx hb dX7_sweep_97 hl (k := 2) rfl (nI_1 _) (by decide) rfl (fun ls hl => ?_)
                    refine lv_goto (tgt := 64) hx hb dX7_sweep_100 (by decide) ?_
                    exact ih (i + 1) H locs ls (by omega) (by rw [m_swl, if_pos c_79, if_pos c_88]; exact hP) (by rw [m_swl, if_pos c_79, if_pos c_88]; exact hD) hS (lv_sub hl [1, 2, 0] rfl)
          exact l2 (mnd kc) 0 H locs ls (by omega) hP hD hS (lv_sub hl [1, 2, 0] rfl)
      · skip
        have c_18 : ¬ ((mnd kc) ≤ i) := fun h9 => c_18 ((nI_leI (a := (mnd kc)) (b := i) (by omega) (by omega)).mpr h9)
        exfalso; omega
    | succ k ih =>
      intro i H locs ls hi hP hD hS hl
      refine lv_iload_n hx hb dX7_sweep_13 rfl (lv_at hl 2 rfl) ?_
      refine lv_aload_n hx hb dX7_sweep_14 rfl (lv_at hl 0 rfl) ?_
      refine va_get (D := D) (ci := 7) (v := .int (nI (mnd kc))) (C := RX7) (T := TX7) (N := 15) hx hb hts (iwX7_sweep_7) hown hK.1 hP 0 rfl rfl 5 (by decide) (hts (.fieldLink RX7 43 "InverterGraphsModel" "nodes" "I") (by decide +kernel)) (fun _ h9 => h9) rfl dX7_sweep_15 ?_
      refine lv_icmp_ge (tgt := 54) hx hb dX7_sweep_18 (by decide) (fun c_18 => ?_) (fun c_18 => ?_)
      · skip
        have c_18 : (mnd kc) ≤ i := (nI_leI (a := (mnd kc)) (b := i) (by omega) (by omega)).mp c_18
        exfalso; omega
      · skip
        have c_18 : ¬ ((mnd kc) ≤ i) := fun h9 => c_18 ((nI_leI (a := (mnd kc)) (b := i) (by omega) (by omega)).mpr h9)
        refine lv_aload_n hx hb dX7_sweep_21 rfl (lv_at hl 0 rfl) ?_
        refine va_get (D := D) (ci := 7) (v := .ref (q 1)) (C := RX7) (T := TX7) (N := 15) hx hb hts (iwX7_sweep_7) hown hK.1 hP 0 rfl rfl 1 (by decide) (hts (.fieldLink RX7 7 "InverterGraphsModel" "sorts" "[I") (by decide +kernel)) (fun _ h9 => h9) rfl dX7_sweep_22 ?_
        refine lv_iload_n hx hb dX7_sweep_25 rfl (lv_at hl 2 rfl) ?_
        refine k_iald (D := D) (j := i) hx hb hK.1 hP 1 0 rfl rfl (by omega) (by omega) dX7_sweep_26 ?_
        refine lv_iconst (v := 2) hx hb dX7_sweep_27 (by decide) ?_
        refine lv_icmp_ne (tgt := 46) hx hb dX7_sweep_28 (by decide) (fun c_28 => ?_) (fun c_28 => ?_)
        · skip
          refine lv_iload_n hx hb dX7_sweep_46 rfl (lv_at hl 1 rfl) ?_
          refine lv_istore_n (lv' := [(1, .int (m_swc kc u_6 i)), (0, .ref (q 0)), (2, .int (nI i))]) hx hb dX7_sweep_47 rfl hl (by decide) rfl (fun ls hl => ?_)
          refine lv_iinc (v := nI (i + 1)) (lv' := [(2, .int (nI (i + 1))), (1, .int (m_swc kc u_6 i)), (0, .ref (q 0))]) hx hb dX7_sweep_48 hl (k := 2) rfl (nI_1 _) (by decide) rfl (fun ls hl => ?_)
          refine lv_goto (tgt := 13) hx hb dX7_sweep_51 (by decide) ?_
          exact ih (i + 1) H locs ls (by omega) hP hD hS (by rw [show m_swc kc u_6 (i + 1) = m_swc kc u_6 i from by rw [m_swc, if_neg c_28]]; exact lv_sub hl [2, 1, 0] rfl)
        · skip
          refine lv_aload_n hx hb dX7_sweep_31 rfl (lv_at hl 0 rfl) ?_
          refine va_get (D := D) (ci := 7) (v := .ref (q 10)) (C := RX7) (T := TX7) (N := 15) hx hb hts (iwX7_sweep_7) hown hK.1 hP 0 rfl rfl 14 (by decide) (hts (.fieldLink RX7 40 "InverterGraphsModel" "below" "[Z") (by decide +kernel)) (fun _ h9 => h9) rfl dX7_sweep_32 ?_
          refine lv_iload_n hx hb dX7_sweep_35 rfl (lv_at hl 2 rfl) ?_
          refine k_zald (D := D) (j := i) hx hb hK.1 hP 10 2 rfl rfl (by omega) (by omega) dX7_sweep_36 ?_
          refine lv_if_ne (tgt := 46) hx hb dX7_sweep_37 (by decide) (fun c_37 => ?_) (fun c_37 => ?_)
          · skip
            refine lv_iload_n hx hb dX7_sweep_46 rfl (lv_at hl 1 rfl) ?_
            refine lv_istore_n (lv' := [(1, .int (m_swc kc u_6 i)), (0, .ref (q 0)), (2, .int (nI i))]) hx hb dX7_sweep_47 rfl hl (by decide) rfl (fun ls hl => ?_)
            refine lv_iinc (v := nI (i + 1)) (lv' := [(2, .int (nI (i + 1))), (1, .int (m_swc kc u_6 i)), (0, .ref (q 0))]) hx hb dX7_sweep_48 hl (k := 2) rfl (nI_1 _) (by decide) rfl (fun ls hl => ?_)
            refine lv_goto (tgt := 13) hx hb dX7_sweep_51 (by decide) ?_
            exact ih (i + 1) H locs ls (by omega) hP hD hS (by rw [show m_swc kc u_6 (i + 1) = m_swc kc u_6 i from by rw [m_swc, if_pos c_28, if_neg c_37]]; exact lv_sub hl [2, 1, 0] rfl)
          · skip
            refine lv_iload_n hx hb dX7_sweep_40 rfl (lv_at hl 1 rfl) ?_
            refine lv_iconst (v := 1) hx hb dX7_sweep_41 (by decide) ?_
            refine lv_iadd hx hb dX7_sweep_42 ?_
            refine lv_goto (tgt := 47) hx hb dX7_sweep_43 (by decide) ?_
            refine lv_istore_n (lv' := [(1, .int ((m_swc kc u_6 i) + 1)), (0, .ref (q 0)), (2, .int (nI i))]) hx hb dX7_sweep_47 rfl hl (by decide) rfl (fun ls hl => ?_)
            refine lv_iinc (v := nI (i + 1)) (lv' := [(2, .int (nI (i + 1))), (1, .int ((m_swc kc u_6 i) + 1)), (0, .ref (q 0))]) hx hb dX7_sweep_48 hl (k := 2) rfl (nI_1 _) (by decide) rfl (fun ls hl => ?_)
            refine lv_goto (tgt := 13) hx hb dX7_sweep_51 (by decide) ?_
            exact ih (i + 1) H locs ls (by omega) hP hD hS (by rw [show m_swc kc u_6 (i + 1) = (m_swc kc u_6 i) + 1 from by rw [m_swc, if_pos c_28, if_pos c_37]]; exact lv_sub hl [2, 1, 0] rfl)
  exact l1 (mnd kc) 0 H locs ls (by omega) hP hD hS (lv_sub hl [2, 1, 0] rfl)
theorem iwX7_undo0_7 : ∀ w ∈ wsX70, w ∈ wsX7_undo := by decide +kernel
set_option maxHeartbeats 4000000 in
set_option maxRecDepth 100000 in
theorem c_X7_undo0 (l : Launch) (D : va_G) (κ : Nat → ClassId) (sz : Nat) (q : Nat → Nat) (th : Int32) (kc : KC) (cp : Nat → Int32) (cn : Nat) (ro : Nat → Int64) (kn : Int32) (lv be : Nat → Int32) (hnd : mnd kc ≤ 400) (hoc : moc kc ≤ 40) (hcn : cn ≤ 30) (hc9 : cn = 0) : k_mui (S := Unit) l yX7_undo wsX7_undo 0 0 0 0 D κ [.ref (q 0)] (wN κ q th kc cp cn ro kn lv be) sz (fun r u => r = 0) (fun u => wN κ q 0 kc cp cn ro kn lv be) := by
  refine Met.ofW (cc := cX7_undo) (maxL := 3) (ret := (some .boolean)) (by decide) rfl ?_
  intro p e s m args below meth c s₁ B hml hv
  obtain ⟨rfl, hsz, hK, hP, hD0⟩ := hv
  have hx := B.exec
  have hb := B.bytes
  have hr := B.returns
  have hts := atoms_spec (ws := wsX7_undo) B.pre
  have hown : s.vm.findClass RX7 = some m.cls := findClass_of_methodNamed B.named
  have hlocks := B.notSynchronized
  subst hsz
  have hD := hD0.self (sz := s.heap.size)
  generalize hAe : va_A (wN κ q th kc cp cn ro kn lv be) s.heap.size = A at hD ⊢
  have hA : ∀ q : Nat, s.heap.size ≤ q → A q := fun q h => by rw [← hAe]; exact Or.inr h
  have hS : va_S A s.heap s.heap [] := va_S.rf
  have hP : va_P D vwCl (wN κ q th kc cp cn ro kn lv be) s.heap := hP
  have hl := lv_entry ([.ref (q 0)]) (n := 3) (Nat.le_of_ble_eq_true rfl)
  rw [lg_entry_eq]
  generalize (lg_sl ([.ref (q 0)]) ++ List.replicate (3 - (lg_sl ([.ref (q 0)])).length) Slot.unset).toArray = ls at hl ⊢
  have hl : lv_has ls 3 [(0, .ref (q 0))] := hl
  refine lv_aload_n hx hb dX7_undo_0 rfl (lv_at hl 0 rfl) ?_
  refine lv_iconst (v := 0) hx hb dX7_undo_1 (by decide) ?_
  refine va_put (D := D) (ci := 7) (v := .int 0) (ty := .int) (C := RX7) (T := TX7) (N := 15) hx hb hts (iwX7_undo0_7) tyX7 tyX7_ok nmX7 hown hK.1 hP hD hS 0 rfl rfl 0 (by decide) (hts (.fieldLink RX7 47 "InverterGraphsModel" "thrown" "I") (by decide +kernel)) (fun _ h9 => h9) rfl (by decide +kernel) rfl rfl (Nat.le_of_ble_eq_true rfl) dX7_undo_2 (fun H locs hP hD hS => ?_)
  have hP : va_P D vwCl (wN κ q 0 kc cp cn ro kn lv be) H := hP
  have hD : va_D A (wN κ q 0 kc cp cn ro kn lv be) := hD
  refine lv_aload_n hx hb dX7_undo_5 rfl (lv_at hl 0 rfl) ?_
  refine va_get (D := D) (ci := 7) (v := .int (nI cn)) (C := RX7) (T := TX7) (N := 15) hx hb hts (iwX7_undo0_7) hown hK.1 hP 0 rfl rfl 10 (by decide) (hts (.fieldLink RX7 50 "InverterGraphsModel" "copyCount" "I") (by decide +kernel)) (fun _ h9 => h9) rfl dX7_undo_6 ?_
  refine lv_if_ne (tgt := 14) hx hb dX7_undo_9 (by decide) (fun c_9 => ?_) (fun c_9 => ?_)
  · skip
    have c_9 : ¬ (cn = 0) := fun h9 => c_9 ((nI_eq (a := cn) (b := 0) (by omega) (by omega)).mpr h9)
    exfalso; omega
  · skip
    have c_9 : cn = 0 := (nI_eq (a := cn) (b := 0) (by omega) (by omega)).mp c_9
    refine lv_iconst (v := 0) hx hb dX7_undo_12 (by decide) ?_
    exact W.zret (ty := .boolean) (v := 0) hx hb hr rfl (fun t ht hW => ⟨⟨0, (), rfl, rfl, by rw [ht]; exact hP, hD⟩, hS.F ht⟩) hS.2.2 dX7_undo_13
