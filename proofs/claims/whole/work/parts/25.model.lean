/-! THE REFERENCE, sixth: simulate -/
def m_sim (K h : Nat) (kc : KC) (lv : Nat → Int32) (ro : Nat → Int64) (sd : Int64) : Int32 × (Nat → Int64) × (Nat → Int32) := ((m_si kc sd ro (mnd kc)).2.1, m_rlv kc (m_lvF K kc lv) (m_si kc sd ro (mnd kc)).2.2 h, m_lvF K kc lv)
theorem iwX7_simulate_7 : ∀ w ∈ wsX70, w ∈ wsX7_simulate := by decide +kernel
set_option maxHeartbeats 4000000 in
set_option maxRecDepth 100000 in
theorem c_X7_simulate (l : Launch) (D : va_G) (κ : Nat → ClassId) (sz : Nat) (q : Nat → Nat) (th : Int32) (kc : KC) (cp : Nat → Int32) (cn : Nat) (ro : Nat → Int64) (kn : Int32) (lv be : Nat → Int32) (p1 : Int64) (K h : Nat) (hnd : mnd kc ≤ 400) (hoc : moc kc ≤ 40) (hcn : cn ≤ 30) (hlt : ∀ j, j < mnd kc → mso kc j = 2 → mon kc j < 2 * mnd kc ∧ mtw kc j < 2 * mnd kc) (hfin : k_itF (m_fF kc) (fun _ => True) K 1 (k_fillF lv 0 (mnd kc))) (hh : m_gr (m_lvF K kc lv) (mnd kc) = nI h) (hh4 : h ≤ 400) : k_mui (S := ((Nat → Int64) × (Nat → Int32))) l yX7_simulate wsX7_simulate 1 25 0 0 D κ [.ref (q 0), .long p1] (wN κ q th kc cp cn ro kn lv be) sz (fun r u => (r, u) = m_sim K h kc lv ro p1) (fun u => wN κ q 0 kc cp cn u.1 1 u.2 be) := by
  refine Met.ofW (cc := cX7_simulate) (maxL := 8) (ret := (some .int)) (by decide) rfl ?_
  intro p e s m args below meth c s₁ B hml hv
  obtain ⟨rfl, hsz, hK, hP, hD0⟩ := hv
  have hx := B.exec
  have hb := B.bytes
  have hr := B.returns
  have hts := atoms_spec (ws := wsX7_simulate) B.pre
  have hown : s.vm.findClass RX7 = some m.cls := findClass_of_methodNamed B.named
  have hlocks := B.notSynchronized
  subst hsz
  have hD := hD0.self (sz := s.heap.size)
  generalize hAe : va_A (wN κ q th kc cp cn ro kn lv be) s.heap.size = A at hD ⊢
  have hA : ∀ q : Nat, s.heap.size ≤ q → A q := fun q h => by rw [← hAe]; exact Or.inr h
  have hS : va_S A s.heap s.heap [] := va_S.rf
  have hP : va_P D vwCl (wN κ q th kc cp cn ro kn lv be) s.heap := hP
  have hl := lv_entry ([.ref (q 0), .long p1]) (n := 8) (Nat.le_of_ble_eq_true rfl)
  rw [lg_entry_eq]
  generalize (lg_sl ([.ref (q 0), .long p1]) ++ List.replicate (8 - (lg_sl ([.ref (q 0), .long p1])).length) Slot.unset).toArray = ls at hl ⊢
  have hl : lv_has ls 8 [(0, .ref (q 0)), (1, .long p1)] := hl
  refine lv_aload_n hx hb dX7_simulate_0 rfl (lv_at hl 0 rfl) ?_
  refine lv_iconst (v := 0) hx hb dX7_simulate_1 (by decide) ?_
  refine va_put (D := D) (ci := 7) (v := .int 0) (ty := .int) (C := RX7) (T := TX7) (N := 15) hx hb hts (iwX7_simulate_7) tyX7 tyX7_ok nmX7 hown hK.1 hP hD hS 0 rfl rfl 0 (by decide) (hts (.fieldLink RX7 47 "InverterGraphsModel" "thrown" "I") (by decide +kernel)) (fun _ h9 => h9) rfl (by decide +kernel) rfl rfl (Nat.le_of_ble_eq_true rfl) dX7_simulate_2 (fun H locs hP hD hS => ?_)
  have hP : va_P D vwCl (wN κ q 0 kc cp cn ro kn lv be) H := hP
  have hD : va_D A (wN κ q 0 kc cp cn ro kn lv be) := hD
  refine lv_iconst (v := 0) hx hb dX7_simulate_5 (by decide) ?_
  refine lv_istore_n (lv' := [(3, .int 0), (0, .ref (q 0)), (1, .long p1)]) hx hb dX7_simulate_6 rfl hl (by decide) rfl (fun ls hl => ?_)
  refine lv_iconst (v := 0) hx hb dX7_simulate_7 (by decide) ?_
  refine lv_istore (lv' := [(4, .int 0), (3, .int 0), (0, .ref (q 0)), (1, .long p1)]) hx hb dX7_simulate_8 hl (by decide) rfl (fun ls hl => ?_)
  refine lv_aload_n hx hb dX7_simulate_10 rfl (lv_at hl 2 rfl) ?_
  refine k_cWUv (D := D) (κ := κ) (qc := (RX7, TX7, 15)) (ci := 7) (q0 := 0) ⟨hx, hb, hml, hown, hts⟩ (c_X7_findLevels l D κ _ q 0 kc cp cn ro kn lv be K (by omega) (by omega) (by omega) (by assumption) (by assumption)) (cwV 0 hts gX7_simulate_X7_findLevels rfl rfl rfl (by decide +kernel) ⟨Nat.le_of_ble_eq_true rfl, Nat.le_of_ble_eq_true rfl⟩) hK hP hD hS hA rfl rfl (As := []) (rest := []) rfl rfl hl.1 (Nat.le_of_ble_eq_true rfl) dX7_simulate_11 ⟨Nat.le_of_ble_eq_true rfl, Nat.le_of_ble_eq_true rfl⟩ (fun u_11 H locs hw9 hP hD hS => ?_)
  have hu_11 := hw9
  have hP : va_P D vwCl (wN κ q 0 kc cp cn ro kn u_11 be) H := hP
  have hD : va_D A (wN κ q 0 kc cp cn ro kn u_11 be) := hD
  refine lv_iconst (v := 0) hx hb dX7_simulate_14 (by decide) ?_
  refine lv_istore (lv' := [(5, .int 0), (4, .int 0), (3, .int 0), (0, .ref (q 0)), (1, .long p1)]) hx hb dX7_simulate_15 hl (by decide) rfl (fun ls hl => ?_)
  have l2 : ∀ (k i : Nat) (H : Heap) (locs : List Loc) (ls : Array Slot), (i + k = h) → va_P D vwCl (wN κ q 0 kc cp cn (m_rlv kc u_11 ((m_si kc p1 ro (mnd kc)).2.2) i) kn u_11 be) H → va_D A (wN κ q 0 kc cp cn (m_rlv kc u_11 ((m_si kc p1 ro (mnd kc)).2.2) i) kn u_11 be) → va_S A s.heap H locs → lv_has ls 8 [(0, .ref (q 0)), (1, .long p1), (4, .int ((m_si kc p1 ro (mnd kc)).2.1)), (5, .int (nI h)), (6, .int (nI (i + 1)))] → W p l e (headSpec wsX7_simulate ({ frames := 1, cells := 0, slots := 0, locals := 25 })).room s m ([.ref (q 0), .long p1] : List Value).toArray below meth c H locs 0 0 (MQ below (va_Qi (S := ((Nat → Int64) × (Nat → Int32))) (fun r u => (r, u) = m_sim K h kc lv ro p1) (fun u => k_B D A (wN κ q 0 kc cp cn u.1 1 u.2 be)) A) ([.ref (q 0), .long p1] : List Value).toArray s 0 0 A) (F0 m 138 ls []) := by
    intro k
    induction k with
    | zero =>
      intro i H locs ls hi hP hD hS hl
      refine lv_iload hx hb dX7_simulate_138 (lv_at hl 4 rfl) ?_
      refine lv_iload hx hb dX7_simulate_140 (lv_at hl 3 rfl) ?_
      refine lv_icmp_gt (tgt := 222) hx hb dX7_simulate_142 (by decide) (fun c_142 => ?_) (fun c_142 => ?_)
      · skip
        have c_142 : h < (i + 1) := (nI_ltI (a := h) (b := (i + 1)) (by omega) (by omega)).mp c_142
        have e9 : h = i := by omega
        subst e9
        refine lv_aload_n hx hb dX7_simulate_222 rfl (lv_at hl 0 rfl) ?_
        refine lv_iconst (v := 1) hx hb dX7_simulate_223 (by decide) ?_
        refine va_put (D := D) (ci := 7) (v := .int 1) (ty := .boolean) (C := RX7) (T := TX7) (N := 15) hx hb hts (iwX7_simulate_7) tyX7 tyX7_ok nmX7 hown hK.1 hP hD hS 0 rfl rfl 12 (by decide) (hts (.fieldLink RX7 57 "InverterGraphsModel" "known" "Z") (by decide +kernel)) (fun _ h9 => h9) rfl (by decide +kernel) rfl rfl (Nat.le_of_ble_eq_true rfl) dX7_simulate_224 (fun H locs hP hD hS => ?_)
        have hP : va_P D vwCl (wN κ q 0 kc cp cn (m_rlv kc u_11 ((m_si kc p1 ro (mnd kc)).2.2) h) 1 u_11 be) H := hP
        have hD : va_D A (wN κ q 0 kc cp cn (m_rlv kc u_11 ((m_si kc p1 ro (mnd kc)).2.2) h) 1 u_11 be) := hD
        refine lv_iload hx hb dX7_simulate_227 (lv_at hl 2 rfl) ?_
        exact W.iret (v := (m_si kc p1 ro (mnd kc)).2.1) hx hb hr (fun t ht hW => ⟨⟨(m_si kc p1 ro (mnd kc)).2.1, (m_rlv kc u_11 ((m_si kc p1 ro (mnd kc)).2.2) h, u_11), rfl, (by unfold m_sim m_lvF; rw [← hu_11] <;> rfl), by rw [ht]; exact hP, hD⟩, hS.F ht⟩) hS.2.2 dX7_simulate_229
      · skip
        have c_142 : ¬ (h < (i + 1)) := fun h9 => c_142 ((nI_ltI (a := h) (b := (i + 1)) (by omega) (by omega)).mpr h9)
        exfalso; omega
    | succ k ih =>
      intro i H locs ls hi hP hD hS hl
      refine lv_iload hx hb dX7_simulate_138 (lv_at hl 4 rfl) ?_
      refine lv_iload hx hb dX7_simulate_140 (lv_at hl 3 rfl) ?_
      refine lv_icmp_gt (tgt := 222) hx hb dX7_simulate_142 (by decide) (fun c_142 => ?_) (fun c_142 => ?_)
      · skip
        have c_142 : h < (i + 1) := (nI_ltI (a := h) (b := (i + 1)) (by omega) (by omega)).mp c_142
        exfalso; omega
      · skip
        have c_142 : ¬ (h < (i + 1)) := fun h9 => c_142 ((nI_ltI (a := h) (b := (i + 1)) (by omega) (by omega)).mpr h9)
        refine lv_iconst (v := 0) hx hb dX7_simulate_145 (by decide) ?_
        refine lv_istore (lv' := [(7, .int 0), (0, .ref (q 0)), (1, .long p1), (4, .int ((m_si kc p1 ro (mnd kc)).2.1)), (5, .int (nI h)), (6, .int (nI (i + 1)))]) hx hb dX7_simulate_146 hl (by decide) rfl (fun ls hl => ?_)
        have l3 : ∀ (k2 j : Nat) (H : Heap) (locs : List Loc) (ls : Array Slot), (j + k2 = mnd kc) → va_P D vwCl (wN κ q 0 kc cp cn (m_rl kc u_11 (i + 1) (m_rlv kc u_11 ((m_si kc p1 ro (mnd kc)).2.2) i) j) kn u_11 be) H → va_D A (wN κ q 0 kc cp cn (m_rl kc u_11 (i + 1) (m_rlv kc u_11 ((m_si kc p1 ro (mnd kc)).2.2) i) j) kn u_11 be) → va_S A s.heap H locs → lv_has ls 8 [(0, .ref (q 0)), (1, .long p1), (4, .int ((m_si kc p1 ro (mnd kc)).2.1)), (5, .int (nI h)), (6, .int (nI (i + 1))), (7, .int (nI j))] → W p l e (headSpec wsX7_simulate ({ frames := 1, cells := 0, slots := 0, locals := 25 })).room s m ([.ref (q 0), .long p1] : List Value).toArray below meth c H locs 0 0 (MQ below (va_Qi (S := ((Nat → Int64) × (Nat → Int32))) (fun r u => (r, u) = m_sim K h kc lv ro p1) (fun u => k_B D A (wN κ q 0 kc cp cn u.1 1 u.2 be)) A) ([.ref (q 0), .long p1] : List Value).toArray s 0 0 A) (F0 m 148 ls []) := by
          intro k2
          induction k2 with
          | zero =>
            intro j H locs ls hj hP hD hS hl
            refine lv_iload hx hb dX7_simulate_148 (lv_at hl 5 rfl) ?_
            refine lv_aload_n hx hb dX7_simulate_150 rfl (lv_at hl 0 rfl) ?_
            refine va_get (D := D) (ci := 7) (v := .int (nI (mnd kc))) (C := RX7) (T := TX7) (N := 15) hx hb hts (iwX7_simulate_7) hown hK.1 hP 0 rfl rfl 5 (by decide) (hts (.fieldLink RX7 43 "InverterGraphsModel" "nodes" "I") (by decide +kernel)) (fun _ h9 => h9) rfl dX7_simulate_151 ?_
            refine lv_icmp_ge (tgt := 216) hx hb dX7_simulate_154 (by decide) (fun c_154 => ?_) (fun c_154 => ?_)
            · skip
              have c_154 : (mnd kc) ≤ j := (nI_leI (a := (mnd kc)) (b := j) (by omega) (by omega)).mp c_154
              have e9 : mnd kc = j := by omega
              subst e9
              refine lv_iinc (v := nI (i + 1 + 1)) (lv' := [(6, .int (nI (i + 1 + 1))), (0, .ref (q 0)), (1, .long p1), (4, .int ((m_si kc p1 ro (mnd kc)).2.1)), (5, .int (nI h)), (7, .int (nI (mnd kc)))]) hx hb dX7_simulate_216 hl (k := 4) rfl (nI_1 _) (by decide) rfl (fun ls hl => ?_)
              refine lv_goto (tgt := 138) hx hb dX7_simulate_219 (by decide) ?_
              exact ih (i + 1) H locs ls (by omega) hP hD hS (lv_sub hl [1, 2, 3, 4, 0] rfl)
            · skip
              have c_154 : ¬ ((mnd kc) ≤ j) := fun h9 => c_154 ((nI_leI (a := (mnd kc)) (b := j) (by omega) (by omega)).mpr h9)
              exfalso; omega
          | succ k2 ih =>
            intro j H locs ls hj hP hD hS hl
            refine lv_iload hx hb dX7_simulate_148 (lv_at hl 5 rfl) ?_
            refine lv_aload_n hx hb dX7_simulate_150 rfl (lv_at hl 0 rfl) ?_
            refine va_get (D := D) (ci := 7) (v := .int (nI (mnd kc))) (C := RX7) (T := TX7) (N := 15) hx hb hts (iwX7_simulate_7) hown hK.1 hP 0 rfl rfl 5 (by decide) (hts (.fieldLink RX7 43 "InverterGraphsModel" "nodes" "I") (by decide +kernel)) (fun _ h9 => h9) rfl dX7_simulate_151 ?_
            refine lv_icmp_ge (tgt := 216) hx hb dX7_simulate_154 (by decide) (fun c_154 => ?_) (fun c_154 => ?_)
            · skip
              have c_154 : (mnd kc) ≤ j := (nI_leI (a := (mnd kc)) (b := j) (by omega) (by omega)).mp c_154
              exfalso; omega
            · skip
              have c_154 : ¬ ((mnd kc) ≤ j) := fun h9 => c_154 ((nI_leI (a := (mnd kc)) (b := j) (by omega) (by omega)).mpr h9)
              refine lv_aload_n hx hb dX7_simulate_157 rfl (lv_at hl 0 rfl) ?_
              refine va_get (D := D) (ci := 7) (v := .ref (q 1)) (C := RX7) (T := TX7) (N := 15) hx hb hts (iwX7_simulate_7) hown hK.1 hP 0 rfl rfl 1 (by decide) (hts (.fieldLink RX7 7 "InverterGraphsModel" "sorts" "[I") (by decide +kernel)) (fun _ h9 => h9) rfl dX7_simulate_158 ?_
              refine lv_iload hx hb dX7_simulate_161 (lv_at hl 5 rfl) ?_
              refine k_iald (D := D) (j := j) hx hb hK.1 hP 1 0 rfl rfl (by omega) (by omega) dX7_simulate_163 ?_
              refine lv_iconst (v := 2) hx hb dX7_simulate_164 (by decide) ?_
              refine lv_icmp_ne (tgt := 210) hx hb dX7_simulate_165 (by decide) (fun c_165 => ?_) (fun c_165 => ?_)
              · skip
                refine lv_iinc (v := nI (j + 1)) (lv' := [(7, .int (nI (j + 1))), (0, .ref (q 0)), (1, .long p1), (4, .int ((m_si kc p1 ro (mnd kc)).2.1)), (5, .int (nI h)), (6, .int (nI (i + 1)))]) hx hb dX7_simulate_210 hl (k := 5) rfl (nI_1 _) (by decide) rfl (fun ls hl => ?_)
                refine lv_goto (tgt := 148) hx hb dX7_simulate_213 (by decide) ?_
                exact ih (j + 1) H locs ls (by omega) (by rw [m_rl, if_neg c_165]; exact hP) (by rw [m_rl, if_neg c_165]; exact hD) hS (lv_sub hl [1, 2, 3, 4, 5, 0] rfl)
              · skip
                have hx9 := hlt j (by omega) c_165
                refine lv_aload_n hx hb dX7_simulate_168 rfl (lv_at hl 0 rfl) ?_
                refine va_get (D := D) (ci := 7) (v := .ref (q 9)) (C := RX7) (T := TX7) (N := 15) hx hb hts (iwX7_simulate_7) hown hK.1 hP 0 rfl rfl 13 (by decide) (hts (.fieldLink RX7 37 "InverterGraphsModel" "levels" "[I") (by decide +kernel)) (fun _ h9 => h9) rfl dX7_simulate_169 ?_
                refine lv_iload hx hb dX7_simulate_172 (lv_at hl 5 rfl) ?_
                refine k_iald (D := D) (j := j) hx hb hK.1 hP 9 0 rfl rfl (by omega) (by omega) dX7_simulate_174 ?_
                refine lv_iload hx hb dX7_simulate_175 (lv_at hl 4 rfl) ?_
                refine lv_icmp_ne (tgt := 210) hx hb dX7_simulate_177 (by decide) (fun c_177 => ?_) (fun c_177 => ?_)
                · skip
                  refine lv_iinc (v := nI (j + 1)) (lv' := [(7, .int (nI (j + 1))), (0, .ref (q 0)), (1, .long p1), (4, .int ((m_si kc p1 ro (mnd kc)).2.1)), (5, .int (nI h)), (6, .int (nI (i + 1)))]) hx hb dX7_simulate_210 hl (k := 5) rfl (nI_1 _) (by decide) rfl (fun ls hl => ?_)
                  refine lv_goto (tgt := 148) hx hb dX7_simulate_213 (by decide) ?_
                  exact ih (j + 1) H locs ls (by omega) (by rw [m_rl, if_pos c_165, if_neg c_177]; exact hP) (by rw [m_rl, if_pos c_165, if_neg c_177]; exact hD) hS (lv_sub hl [1, 2, 3, 4, 5, 0] rfl)
                · skip
                  refine lv_aload_n hx hb dX7_simulate_180 rfl (lv_at hl 0 rfl) ?_
                  refine va_get (D := D) (ci := 7) (v := .ref (q 8)) (C := RX7) (T := TX7) (N := 15) hx hb hts (iwX7_simulate_7) hown hK.1 hP 0 rfl rfl 11 (by decide) (hts (.fieldLink RX7 33 "InverterGraphsModel" "rows" "[J") (by decide +kernel)) (fun _ h9 => h9) rfl dX7_simulate_181 ?_
                  refine lv_iload hx hb dX7_simulate_184 (lv_at hl 5 rfl) ?_
                  refine lv_aload_n hx hb dX7_simulate_186 rfl (lv_at hl 0 rfl) ?_
                  refine lv_aload_n hx hb dX7_simulate_187 rfl (lv_at hl 0 rfl) ?_
                  refine va_get (D := D) (ci := 7) (v := .ref (q 2)) (C := RX7) (T := TX7) (N := 15) hx hb hts (iwX7_simulate_7) hown hK.1 hP 0 rfl rfl 2 (by decide) (hts (.fieldLink RX7 13 "InverterGraphsModel" "ones" "[I") (by decide +kernel)) (fun _ h9 => h9) rfl dX7_simulate_188 ?_
                  refine lv_iload hx hb dX7_simulate_191 (lv_at hl 5 rfl) ?_
                  refine k_iald (D := D) (j := j) hx hb hK.1 hP 2 0 rfl rfl (by omega) (by omega) dX7_simulate_193 ?_
                  refine k_cROl (D := D) (κ := κ) (qc := (RX7, TX7, 15)) (ci := 7) (q0 := 0) ⟨hx, hb, hml, hown, hts⟩ (c_X7_rowOf l D κ q 0 kc cp cn (m_rl kc u_11 (i + 1) (m_rlv kc u_11 ((m_si kc p1 ro (mnd kc)).2.2) i) j) kn u_11 be ((mon kc) j) (by omega) (by omega) (by omega) (by omega)) (cwV 1 hts gX7_simulate_X7_rowOf rfl rfl rfl (by decide +kernel) ⟨Nat.le_of_ble_eq_true rfl, Nat.le_of_ble_eq_true rfl⟩) hK hP rfl rfl (As := [.int (nI ((mon kc) j))]) (rest := [.int (nI j), .ref (q 8)]) rfl rfl hl.1 (Nat.le_of_ble_eq_true rfl) dX7_simulate_194 ⟨Nat.le_of_ble_eq_true rfl, Nat.le_of_ble_eq_true rfl⟩ (fun r hr => ?_)
                  subst hr
                  refine lv_aload_n hx hb dX7_simulate_197 rfl (lv_at hl 0 rfl) ?_
                  refine lv_aload_n hx hb dX7_simulate_198 rfl (lv_at hl 0 rfl) ?_
                  refine va_get (D := D) (ci := 7) (v := .ref (q 3)) (C := RX7) (T := TX7) (N := 15) hx hb hts (iwX7_simulate_7) hown hK.1 hP 0 rfl rfl 3 (by decide) (hts (.fieldLink RX7 16 "InverterGraphsModel" "twos" "[I") (by decide +kernel)) (fun _ h9 => h9) rfl dX7_simulate_199 ?_
                  refine lv_iload hx hb dX7_simulate_202 (lv_at hl 5 rfl) ?_
                  refine k_iald (D := D) (j := j) hx hb hK.1 hP 3 0 rfl rfl (by omega) (by omega) dX7_simulate_204 ?_
                  refine k_cROl (D := D) (κ := κ) (qc := (RX7, TX7, 15)) (ci := 7) (q0 := 0) ⟨hx, hb, hml, hown, hts⟩ (c_X7_rowOf l D κ q 0 kc cp cn (m_rl kc u_11 (i + 1) (m_rlv kc u_11 ((m_si kc p1 ro (mnd kc)).2.2) i) j) kn u_11 be ((mtw kc) j) (by omega) (by omega) (by omega) (by omega)) (cwV 1 hts gX7_simulate_X7_rowOf rfl rfl rfl (by decide +kernel) ⟨Nat.le_of_ble_eq_true rfl, Nat.le_of_ble_eq_true rfl⟩) hK hP rfl rfl (As := [.int (nI ((mtw kc) j))]) (rest := [.long (m_rowOf (m_rl kc u_11 (i + 1) (m_rlv kc u_11 ((m_si kc p1 ro (mnd kc)).2.2) i) j) ((mon kc) j)), .int (nI j), .ref (q 8)]) rfl rfl hl.1 (Nat.le_of_ble_eq_true rfl) dX7_simulate_205 ⟨Nat.le_of_ble_eq_true rfl, Nat.le_of_ble_eq_true rfl⟩ (fun r hr => ?_)
                  subst hr
                  refine lv_land hx hb dX7_simulate_208 ?_
                  refine k_last (D := D) (j := j) hx hb hK.1 hP hD hS 8 1 rfl rfl (by omega) (by omega) dX7_simulate_209 (fun H locs hP hD hS => ?_)
                  have hP : va_P D vwCl (wN κ q 0 kc cp cn (vp_updL (m_rl kc u_11 (i + 1) (m_rlv kc u_11 ((m_si kc p1 ro (mnd kc)).2.2) i) j) j ((m_rowOf (m_rl kc u_11 (i + 1) (m_rlv kc u_11 ((m_si kc p1 ro (mnd kc)).2.2) i) j) ((mon kc) j)) &&& (m_rowOf (m_rl kc u_11 (i + 1) (m_rlv kc u_11 ((m_si kc p1 ro (mnd kc)).2.2) i) j) ((mtw kc) j)))) kn u_11 be) H := hP
                  have hD : va_D A (wN κ q 0 kc cp cn (vp_updL (m_rl kc u_11 (i + 1) (m_rlv kc u_11 ((m_si kc p1 ro (mnd kc)).2.2) i) j) j ((m_rowOf (m_rl kc u_11 (i + 1) (m_rlv kc u_11 ((m_si kc p1 ro (mnd kc)).2.2) i) j) ((mon kc) j)) &&& (m_rowOf (m_rl kc u_11 (i + 1) (m_rlv kc u_11 ((m_si kc p1 ro (mnd kc)).2.2) i) j) ((mtw kc) j)))) kn u_11 be) := hD
                  refine lv_iinc (v := nI (j + 1)) (lv' := [(7, .int (nI (j + 1))), (0, .ref (q 0)), (1, .long p1), (4, .int ((m_si kc p1 ro (mnd kc)).2.1)), (5, .int (nI h)), (6, .int (nI (i + 1)))]) hx hb dX7_simulate_210 hl (k := 5) rfl (nI_1 _) (by decide) rfl (fun ls hl => ?_)
                  refine lv_goto (tgt := 148) hx hb dX7_simulate_213 (by decide) ?_
                  exact ih (j + 1) H locs ls (by omega) (by rw [m_rl, if_pos c_165, if_pos c_177]; exact hP) (by rw [m_rl, if_pos c_165, if_pos c_177]; exact hD) hS (lv_sub hl [1, 2, 3, 4, 5, 0] rfl)
        exact l3 (mnd kc) 0 H locs ls (by omega) hP hD hS (lv_sub hl [1, 2, 3, 4, 5, 0] rfl)
  have l1 : ∀ (k i : Nat) (H : Heap) (locs : List Loc) (ls : Array Slot), (i + k = mnd kc) → va_P D vwCl (wN κ q 0 kc cp cn ((m_si kc p1 ro i).2.2) kn u_11 be) H → va_D A (wN κ q 0 kc cp cn ((m_si kc p1 ro i).2.2) kn u_11 be) → va_S A s.heap H locs → lv_has ls 8 [(0, .ref (q 0)), (1, .long p1), (3, .int ((m_si kc p1 ro i).1)), (4, .int ((m_si kc p1 ro i).2.1)), (5, .int (nI i))] → W p l e (headSpec wsX7_simulate ({ frames := 1, cells := 0, slots := 0, locals := 25 })).room s m ([.ref (q 0), .long p1] : List Value).toArray below meth c H locs 0 0 (MQ below (va_Qi (S := ((Nat → Int64) × (Nat → Int32))) (fun r u => (r, u) = m_sim K h kc lv ro p1) (fun u => k_B D A (wN κ q 0 kc cp cn u.1 1 u.2 be)) A) ([.ref (q 0), .long p1] : List Value).toArray s 0 0 A) (F0 m 17 ls []) := by
    intro k
    induction k with
    | zero =>
      intro i H locs ls hi hP hD hS hl
      refine lv_iload hx hb dX7_simulate_17 (lv_at hl 4 rfl) ?_
      refine lv_aload_n hx hb dX7_simulate_19 rfl (lv_at hl 0 rfl) ?_
      refine va_get (D := D) (ci := 7) (v := .int (nI (mnd kc))) (C := RX7) (T := TX7) (N := 15) hx hb hts (iwX7_simulate_7) hown hK.1 hP 0 rfl rfl 5 (by decide) (hts (.fieldLink RX7 43 "InverterGraphsModel" "nodes" "I") (by decide +kernel)) (fun _ h9 => h9) rfl dX7_simulate_20 ?_
      refine lv_icmp_ge (tgt := 129) hx hb dX7_simulate_23 (by decide) (fun c_23 => ?_) (fun c_23 => ?_)
      · skip
        have c_23 : (mnd kc) ≤ i := (nI_leI (a := (mnd kc)) (b := i) (by omega) (by omega)).mp c_23
        have e9 : mnd kc = i := by omega
        subst e9
        refine lv_aload_n hx hb dX7_simulate_129 rfl (lv_at hl 0 rfl) ?_
        refine k_cRO (D := D) (κ := κ) (qc := (RX7, TX7, 15)) (ci := 7) (q0 := 0) ⟨hx, hb, hml, hown, hts⟩ (c_X7_greatest l D κ q 0 kc cp cn ((m_si kc p1 ro (mnd kc)).2.2) kn u_11 be  (by omega) (by omega) (by omega) ) (cwV 0 hts gX7_simulate_X7_greatest rfl rfl rfl (by decide +kernel) ⟨Nat.le_of_ble_eq_true rfl, Nat.le_of_ble_eq_true rfl⟩) hK hP rfl rfl (As := []) (rest := []) rfl rfl hl.1 (Nat.le_of_ble_eq_true rfl) dX7_simulate_130 ⟨Nat.le_of_ble_eq_true rfl, Nat.le_of_ble_eq_true rfl⟩ (fun r hr => ?_)
        subst hr
        refine lv_topi (nm_r (show m_gr u_11 (mnd kc) = nI h by rw [hu_11]; exact hh) ?_)
        refine lv_istore (lv' := [(5, .int (nI h)), (0, .ref (q 0)), (1, .long p1), (3, .int ((m_si kc p1 ro (mnd kc)).1)), (4, .int ((m_si kc p1 ro (mnd kc)).2.1))]) hx hb dX7_simulate_133 hl (by decide) rfl (fun ls hl => ?_)
        refine lv_iconst (v := 1) hx hb dX7_simulate_135 (by decide) ?_
        refine lv_istore (lv' := [(6, .int 1), (5, .int (nI h)), (0, .ref (q 0)), (1, .long p1), (3, .int ((m_si kc p1 ro (mnd kc)).1)), (4, .int ((m_si kc p1 ro (mnd kc)).2.1))]) hx hb dX7_simulate_136 hl (by decide) rfl (fun ls hl => ?_)
        exact l2 h 0 H locs ls (by omega) hP hD hS (lv_sub hl [2, 3, 5, 1, 0] rfl)
      · skip
        have c_23 : ¬ ((mnd kc) ≤ i) := fun h9 => c_23 ((nI_leI (a := (mnd kc)) (b := i) (by omega) (by omega)).mpr h9)
        exfalso; omega
    | succ k ih =>
      intro i H locs ls hi hP hD hS hl
      refine lv_iload hx hb dX7_simulate_17 (lv_at hl 4 rfl) ?_
      refine lv_aload_n hx hb dX7_simulate_19 rfl (lv_at hl 0 rfl) ?_
      refine va_get (D := D) (ci := 7) (v := .int (nI (mnd kc))) (C := RX7) (T := TX7) (N := 15) hx hb hts (iwX7_simulate_7) hown hK.1 hP 0 rfl rfl 5 (by decide) (hts (.fieldLink RX7 43 "InverterGraphsModel" "nodes" "I") (by decide +kernel)) (fun _ h9 => h9) rfl dX7_simulate_20 ?_
      refine lv_icmp_ge (tgt := 129) hx hb dX7_simulate_23 (by decide) (fun c_23 => ?_) (fun c_23 => ?_)
      · skip
        have c_23 : (mnd kc) ≤ i := (nI_leI (a := (mnd kc)) (b := i) (by omega) (by omega)).mp c_23
        exfalso; omega
      · skip
        have c_23 : ¬ ((mnd kc) ≤ i) := fun h9 => c_23 ((nI_leI (a := (mnd kc)) (b := i) (by omega) (by omega)).mpr h9)
        refine lv_aload_n hx hb dX7_simulate_26 rfl (lv_at hl 0 rfl) ?_
        refine va_get (D := D) (ci := 7) (v := .ref (q 1)) (C := RX7) (T := TX7) (N := 15) hx hb hts (iwX7_simulate_7) hown hK.1 hP 0 rfl rfl 1 (by decide) (hts (.fieldLink RX7 7 "InverterGraphsModel" "sorts" "[I") (by decide +kernel)) (fun _ h9 => h9) rfl dX7_simulate_27 ?_
        refine lv_iload hx hb dX7_simulate_30 (lv_at hl 4 rfl) ?_
        refine k_iald (D := D) (j := i) hx hb hK.1 hP 1 0 rfl rfl (by omega) (by omega) dX7_simulate_32 ?_
        refine lv_iconst (v := 1) hx hb dX7_simulate_33 (by decide) ?_
        refine lv_icmp_eq (tgt := 59) hx hb dX7_simulate_34 (by decide) (fun c_34 => ?_) (fun c_34 => ?_)
        · skip
          refine lv_iconst (v := 1) hx hb dX7_simulate_59 (by decide) ?_
          refine lv_goto (tgt := 64) hx hb dX7_simulate_60 (by decide) ?_
          refine lv_istore (lv' := [(6, .int 1), (0, .ref (q 0)), (1, .long p1), (3, .int ((m_si kc p1 ro i).1)), (4, .int ((m_si kc p1 ro i).2.1)), (5, .int (nI i))]) hx hb dX7_simulate_64 hl (by decide) rfl (fun ls hl => ?_)
          refine lv_aload_n hx hb dX7_simulate_66 rfl (lv_at hl 1 rfl) ?_
          refine va_get (D := D) (ci := 7) (v := .ref (q 8)) (C := RX7) (T := TX7) (N := 15) hx hb hts (iwX7_simulate_7) hown hK.1 hP 0 rfl rfl 11 (by decide) (hts (.fieldLink RX7 33 "InverterGraphsModel" "rows" "[J") (by decide +kernel)) (fun _ h9 => h9) rfl dX7_simulate_67 ?_
          refine lv_iload hx hb dX7_simulate_70 (lv_at hl 5 rfl) ?_
          refine lv_iload hx hb dX7_simulate_72 (lv_at hl 0 rfl) ?_
          refine lv_if_eq (tgt := 86) hx hb dX7_simulate_74 (by decide) (fun c_74 => ?_) (fun c_74 => ?_)
          · skip
            exfalso; revert c_74; decide
          · skip
            refine lv_lload_n hx hb dX7_simulate_77 rfl (lv_at hl 2 rfl) ?_
            refine lv_iload_n hx hb dX7_simulate_78 rfl (lv_at hl 3 rfl) ?_
            refine lv_i2l (v := Int32.toInt64 ((m_si kc p1 ro i).1)) hx hb dX7_simulate_79 rfl ?_
            refine k_cSTl ⟨hx, hb, hml, hown, hts⟩ (c_X7_mix l p1 (Int32.toInt64 ((m_si kc p1 ro i).1))) (va_cwS 2 hts gX7_simulate_X7_mix rfl rfl rfl (by decide +kernel) ⟨Nat.le_of_ble_eq_true rfl, Nat.le_of_ble_eq_true rfl⟩) (As := [.long p1, .long (Int32.toInt64 ((m_si kc p1 ro i).1))]) (rest := [.int (nI i), .ref (q 8)]) rfl rfl hl.1 (Nat.le_of_ble_eq_true rfl) dX7_simulate_80 ⟨Nat.le_of_ble_eq_true rfl, Nat.le_of_ble_eq_true rfl⟩ (fun r hr => ?_)
            subst hr
            refine lv_goto (tgt := 87) hx hb dX7_simulate_83 (by decide) ?_
            refine k_last (D := D) (j := i) hx hb hK.1 hP hD hS 8 1 rfl rfl (by omega) (by omega) dX7_simulate_87 (fun H locs hP hD hS => ?_)
            have hP : va_P D vwCl (wN κ q 0 kc cp cn (vp_updL ((m_si kc p1 ro i).2.2) i (m_mix p1 (Int32.toInt64 ((m_si kc p1 ro i).1)))) kn u_11 be) H := hP
            have hD : va_D A (wN κ q 0 kc cp cn (vp_updL ((m_si kc p1 ro i).2.2) i (m_mix p1 (Int32.toInt64 ((m_si kc p1 ro i).1)))) kn u_11 be) := hD
            refine lv_iload hx hb dX7_simulate_88 (lv_at hl 0 rfl) ?_
            refine lv_if_eq (tgt := 99) hx hb dX7_simulate_90 (by decide) (fun c_90 => ?_) (fun c_90 => ?_)
            · skip
              exfalso; revert c_90; decide
            · skip
              refine lv_iload_n hx hb dX7_simulate_93 rfl (lv_at hl 3 rfl) ?_
              refine lv_iconst (v := 1) hx hb dX7_simulate_94 (by decide) ?_
              refine lv_iadd hx hb dX7_simulate_95 ?_
              refine lv_goto (tgt := 100) hx hb dX7_simulate_96 (by decide) ?_
              refine lv_istore_n (lv' := [(3, .int (((m_si kc p1 ro i).1) + 1)), (6, .int 1), (0, .ref (q 0)), (1, .long p1), (4, .int ((m_si kc p1 ro i).2.1)), (5, .int (nI i))]) hx hb dX7_simulate_100 rfl hl (by decide) rfl (fun ls hl => ?_)
              refine lv_aload_n hx hb dX7_simulate_101 rfl (lv_at hl 2 rfl) ?_
              refine va_get (D := D) (ci := 7) (v := .ref (q 1)) (C := RX7) (T := TX7) (N := 15) hx hb hts (iwX7_simulate_7) hown hK.1 hP 0 rfl rfl 1 (by decide) (hts (.fieldLink RX7 7 "InverterGraphsModel" "sorts" "[I") (by decide +kernel)) (fun _ h9 => h9) rfl dX7_simulate_102 ?_
              refine lv_iload hx hb dX7_simulate_105 (lv_at hl 5 rfl) ?_
              refine k_iald (D := D) (j := i) hx hb hK.1 hP 1 0 rfl rfl (by omega) (by omega) dX7_simulate_107 ?_
              refine lv_iconst (v := 5) hx hb dX7_simulate_108 (by decide) ?_
              refine lv_icmp_ne (tgt := 117) hx hb dX7_simulate_109 (by decide) (fun c_109 => ?_) (fun c_109 => ?_)
              · skip
                refine lv_iload hx hb dX7_simulate_117 (lv_at hl 4 rfl) ?_
                refine lv_iconst (v := 1) hx hb dX7_simulate_119 (by decide) ?_
                refine lv_iadd hx hb dX7_simulate_120 ?_
                refine lv_istore (lv' := [(4, .int (((m_si kc p1 ro i).2.1) + 1)), (3, .int (((m_si kc p1 ro i).1) + 1)), (6, .int 1), (0, .ref (q 0)), (1, .long p1), (5, .int (nI i))]) hx hb dX7_simulate_121 hl (by decide) rfl (fun ls hl => ?_)
                refine lv_iinc (v := nI (i + 1)) (lv' := [(5, .int (nI (i + 1))), (4, .int (((m_si kc p1 ro i).2.1) + 1)), (3, .int (((m_si kc p1 ro i).1) + 1)), (6, .int 1), (0, .ref (q 0)), (1, .long p1)]) hx hb dX7_simulate_123 hl (k := 5) rfl (nI_1 _) (by decide) rfl (fun ls hl => ?_)
                refine lv_goto (tgt := 17) hx hb dX7_simulate_126 (by decide) ?_
                have e9 : m_si kc p1 ro (i + 1) = (((m_si kc p1 ro i).1) + 1, ((m_si kc p1 ro i).2.1) + 1, vp_updL ((m_si kc p1 ro i).2.2) i (m_mix p1 (Int32.toInt64 ((m_si kc p1 ro i).1)))) := by show m_siS kc p1 i _ = _; unfold m_siS m_nn; rw [if_pos c_34, if_neg c_109]
                exact ih (i + 1) H locs ls (by omega) (by rw [e9]; exact hP) (by rw [e9]; exact hD) hS (by rw [e9]; exact lv_sub hl [4, 5, 2, 1, 0] rfl)
              · skip
                refine lv_iload hx hb dX7_simulate_112 (lv_at hl 4 rfl) ?_
                refine lv_goto (tgt := 121) hx hb dX7_simulate_114 (by decide) ?_
                refine lv_istore (lv' := [(4, .int ((m_si kc p1 ro i).2.1)), (3, .int (((m_si kc p1 ro i).1) + 1)), (6, .int 1), (0, .ref (q 0)), (1, .long p1), (5, .int (nI i))]) hx hb dX7_simulate_121 hl (by decide) rfl (fun ls hl => ?_)
                refine lv_iinc (v := nI (i + 1)) (lv' := [(5, .int (nI (i + 1))), (4, .int ((m_si kc p1 ro i).2.1)), (3, .int (((m_si kc p1 ro i).1) + 1)), (6, .int 1), (0, .ref (q 0)), (1, .long p1)]) hx hb dX7_simulate_123 hl (k := 5) rfl (nI_1 _) (by decide) rfl (fun ls hl => ?_)
                refine lv_goto (tgt := 17) hx hb dX7_simulate_126 (by decide) ?_
                have e9 : m_si kc p1 ro (i + 1) = (((m_si kc p1 ro i).1) + 1, (m_si kc p1 ro i).2.1, vp_updL ((m_si kc p1 ro i).2.2) i (m_mix p1 (Int32.toInt64 ((m_si kc p1 ro i).1)))) := by show m_siS kc p1 i _ = _; unfold m_siS m_nn; rw [if_pos c_34, if_pos c_109]
                exact ih (i + 1) H locs ls (by omega) (by rw [e9]; exact hP) (by rw [e9]; exact hD) hS (by rw [e9]; exact lv_sub hl [4, 5, 2, 1, 0] rfl)
        · skip
          refine lv_aload_n hx hb dX7_simulate_37 rfl (lv_at hl 0 rfl) ?_
          refine va_get (D := D) (ci := 7) (v := .ref (q 1)) (C := RX7) (T := TX7) (N := 15) hx hb hts (iwX7_simulate_7) hown hK.1 hP 0 rfl rfl 1 (by decide) (hts (.fieldLink RX7 7 "InverterGraphsModel" "sorts" "[I") (by decide +kernel)) (fun _ h9 => h9) rfl dX7_simulate_38 ?_
          refine lv_iload hx hb dX7_simulate_41 (lv_at hl 4 rfl) ?_
          refine k_iald (D := D) (j := i) hx hb hK.1 hP 1 0 rfl rfl (by omega) (by omega) dX7_simulate_43 ?_
          refine lv_iconst (v := 3) hx hb dX7_simulate_44 (by decide) ?_
          refine lv_icmp_eq (tgt := 59) hx hb dX7_simulate_45 (by decide) (fun c_45 => ?_) (fun c_45 => ?_)
          · skip
            refine lv_iconst (v := 1) hx hb dX7_simulate_59 (by decide) ?_
            refine lv_goto (tgt := 64) hx hb dX7_simulate_60 (by decide) ?_
            refine lv_istore (lv' := [(6, .int 1), (0, .ref (q 0)), (1, .long p1), (3, .int ((m_si kc p1 ro i).1)), (4, .int ((m_si kc p1 ro i).2.1)), (5, .int (nI i))]) hx hb dX7_simulate_64 hl (by decide) rfl (fun ls hl => ?_)
            refine lv_aload_n hx hb dX7_simulate_66 rfl (lv_at hl 1 rfl) ?_
            refine va_get (D := D) (ci := 7) (v := .ref (q 8)) (C := RX7) (T := TX7) (N := 15) hx hb hts (iwX7_simulate_7) hown hK.1 hP 0 rfl rfl 11 (by decide) (hts (.fieldLink RX7 33 "InverterGraphsModel" "rows" "[J") (by decide +kernel)) (fun _ h9 => h9) rfl dX7_simulate_67 ?_
            refine lv_iload hx hb dX7_simulate_70 (lv_at hl 5 rfl) ?_
            refine lv_iload hx hb dX7_simulate_72 (lv_at hl 0 rfl) ?_
            refine lv_if_eq (tgt := 86) hx hb dX7_simulate_74 (by decide) (fun c_74 => ?_) (fun c_74 => ?_)
            · skip
              exfalso; revert c_74; decide
            · skip
              refine lv_lload_n hx hb dX7_simulate_77 rfl (lv_at hl 2 rfl) ?_
              refine lv_iload_n hx hb dX7_simulate_78 rfl (lv_at hl 3 rfl) ?_
              refine lv_i2l (v := Int32.toInt64 ((m_si kc p1 ro i).1)) hx hb dX7_simulate_79 rfl ?_
              refine k_cSTl ⟨hx, hb, hml, hown, hts⟩ (c_X7_mix l p1 (Int32.toInt64 ((m_si kc p1 ro i).1))) (va_cwS 2 hts gX7_simulate_X7_mix rfl rfl rfl (by decide +kernel) ⟨Nat.le_of_ble_eq_true rfl, Nat.le_of_ble_eq_true rfl⟩) (As := [.long p1, .long (Int32.toInt64 ((m_si kc p1 ro i).1))]) (rest := [.int (nI i), .ref (q 8)]) rfl rfl hl.1 (Nat.le_of_ble_eq_true rfl) dX7_simulate_80 ⟨Nat.le_of_ble_eq_true rfl, Nat.le_of_ble_eq_true rfl⟩ (fun r hr => ?_)
              subst hr
              refine lv_goto (tgt := 87) hx hb dX7_simulate_83 (by decide) ?_
              refine k_last (D := D) (j := i) hx hb hK.1 hP hD hS 8 1 rfl rfl (by omega) (by omega) dX7_simulate_87 (fun H locs hP hD hS => ?_)
              have hP : va_P D vwCl (wN κ q 0 kc cp cn (vp_updL ((m_si kc p1 ro i).2.2) i (m_mix p1 (Int32.toInt64 ((m_si kc p1 ro i).1)))) kn u_11 be) H := hP
              have hD : va_D A (wN κ q 0 kc cp cn (vp_updL ((m_si kc p1 ro i).2.2) i (m_mix p1 (Int32.toInt64 ((m_si kc p1 ro i).1)))) kn u_11 be) := hD
              refine lv_iload hx hb dX7_simulate_88 (lv_at hl 0 rfl) ?_
              refine lv_if_eq (tgt := 99) hx hb dX7_simulate_90 (by decide) (fun c_90 => ?_) (fun c_90 => ?_)
              · skip
                exfalso; revert c_90; decide
              · skip
                refine lv_iload_n hx hb dX7_simulate_93 rfl (lv_at hl 3 rfl) ?_
                refine lv_iconst (v := 1) hx hb dX7_simulate_94 (by decide) ?_
                refine lv_iadd hx hb dX7_simulate_95 ?_
                refine lv_goto (tgt := 100) hx hb dX7_simulate_96 (by decide) ?_
                refine lv_istore_n (lv' := [(3, .int (((m_si kc p1 ro i).1) + 1)), (6, .int 1), (0, .ref (q 0)), (1, .long p1), (4, .int ((m_si kc p1 ro i).2.1)), (5, .int (nI i))]) hx hb dX7_simulate_100 rfl hl (by decide) rfl (fun ls hl => ?_)
                refine lv_aload_n hx hb dX7_simulate_101 rfl (lv_at hl 2 rfl) ?_
                refine va_get (D := D) (ci := 7) (v := .ref (q 1)) (C := RX7) (T := TX7) (N := 15) hx hb hts (iwX7_simulate_7) hown hK.1 hP 0 rfl rfl 1 (by decide) (hts (.fieldLink RX7 7 "InverterGraphsModel" "sorts" "[I") (by decide +kernel)) (fun _ h9 => h9) rfl dX7_simulate_102 ?_
                refine lv_iload hx hb dX7_simulate_105 (lv_at hl 5 rfl) ?_
                refine k_iald (D := D) (j := i) hx hb hK.1 hP 1 0 rfl rfl (by omega) (by omega) dX7_simulate_107 ?_
                refine lv_iconst (v := 5) hx hb dX7_simulate_108 (by decide) ?_
                refine lv_icmp_ne (tgt := 117) hx hb dX7_simulate_109 (by decide) (fun c_109 => ?_) (fun c_109 => ?_)
                · skip
                  refine lv_iload hx hb dX7_simulate_117 (lv_at hl 4 rfl) ?_
                  refine lv_iconst (v := 1) hx hb dX7_simulate_119 (by decide) ?_
                  refine lv_iadd hx hb dX7_simulate_120 ?_
                  refine lv_istore (lv' := [(4, .int (((m_si kc p1 ro i).2.1) + 1)), (3, .int (((m_si kc p1 ro i).1) + 1)), (6, .int 1), (0, .ref (q 0)), (1, .long p1), (5, .int (nI i))]) hx hb dX7_simulate_121 hl (by decide) rfl (fun ls hl => ?_)
                  refine lv_iinc (v := nI (i + 1)) (lv' := [(5, .int (nI (i + 1))), (4, .int (((m_si kc p1 ro i).2.1) + 1)), (3, .int (((m_si kc p1 ro i).1) + 1)), (6, .int 1), (0, .ref (q 0)), (1, .long p1)]) hx hb dX7_simulate_123 hl (k := 5) rfl (nI_1 _) (by decide) rfl (fun ls hl => ?_)
                  refine lv_goto (tgt := 17) hx hb dX7_simulate_126 (by decide) ?_
                  have e9 : m_si kc p1 ro (i + 1) = (((m_si kc p1 ro i).1) + 1, ((m_si kc p1 ro i).2.1) + 1, vp_updL ((m_si kc p1 ro i).2.2) i (m_mix p1 (Int32.toInt64 ((m_si kc p1 ro i).1)))) := by show m_siS kc p1 i _ = _; unfold m_siS m_nn; rw [if_neg c_34, if_pos c_45, if_neg c_109]
                  exact ih (i + 1) H locs ls (by omega) (by rw [e9]; exact hP) (by rw [e9]; exact hD) hS (by rw [e9]; exact lv_sub hl [4, 5, 2, 1, 0] rfl)
                · skip
                  refine lv_iload hx hb dX7_simulate_112 (lv_at hl 4 rfl) ?_
                  refine lv_goto (tgt := 121) hx hb dX7_simulate_114 (by decide) ?_
                  refine lv_istore (lv' := [(4, .int ((m_si kc p1 ro i).2.1)), (3, .int (((m_si kc p1 ro i).1) + 1)), (6, .int 1), (0, .ref (q 0)), (1, .long p1), (5, .int (nI i))]) hx hb dX7_simulate_121 hl (by decide) rfl (fun ls hl => ?_)
                  refine lv_iinc (v := nI (i + 1)) (lv' := [(5, .int (nI (i + 1))), (4, .int ((m_si kc p1 ro i).2.1)), (3, .int (((m_si kc p1 ro i).1) + 1)), (6, .int 1), (0, .ref (q 0)), (1, .long p1)]) hx hb dX7_simulate_123 hl (k := 5) rfl (nI_1 _) (by decide) rfl (fun ls hl => ?_)
                  refine lv_goto (tgt := 17) hx hb dX7_simulate_126 (by decide) ?_
                  have e9 : m_si kc p1 ro (i + 1) = (((m_si kc p1 ro i).1) + 1, (m_si kc p1 ro i).2.1, vp_updL ((m_si kc p1 ro i).2.2) i (m_mix p1 (Int32.toInt64 ((m_si kc p1 ro i).1)))) := by show m_siS kc p1 i _ = _; unfold m_siS m_nn; rw [if_neg c_34, if_pos c_45, if_pos c_109]
                  exact ih (i + 1) H locs ls (by omega) (by rw [e9]; exact hP) (by rw [e9]; exact hD) hS (by rw [e9]; exact lv_sub hl [4, 5, 2, 1, 0] rfl)
          · skip
            refine lv_aload_n hx hb dX7_simulate_48 rfl (lv_at hl 0 rfl) ?_
            refine va_get (D := D) (ci := 7) (v := .ref (q 1)) (C := RX7) (T := TX7) (N := 15) hx hb hts (iwX7_simulate_7) hown hK.1 hP 0 rfl rfl 1 (by decide) (hts (.fieldLink RX7 7 "InverterGraphsModel" "sorts" "[I") (by decide +kernel)) (fun _ h9 => h9) rfl dX7_simulate_49 ?_
            refine lv_iload hx hb dX7_simulate_52 (lv_at hl 4 rfl) ?_
            refine k_iald (D := D) (j := i) hx hb hK.1 hP 1 0 rfl rfl (by omega) (by omega) dX7_simulate_54 ?_
            refine lv_iconst (v := 4) hx hb dX7_simulate_55 (by decide) ?_
            refine lv_icmp_ne (tgt := 63) hx hb dX7_simulate_56 (by decide) (fun c_56 => ?_) (fun c_56 => ?_)
            · skip
              refine lv_iconst (v := 0) hx hb dX7_simulate_63 (by decide) ?_
              refine lv_istore (lv' := [(6, .int 0), (0, .ref (q 0)), (1, .long p1), (3, .int ((m_si kc p1 ro i).1)), (4, .int ((m_si kc p1 ro i).2.1)), (5, .int (nI i))]) hx hb dX7_simulate_64 hl (by decide) rfl (fun ls hl => ?_)
              refine lv_aload_n hx hb dX7_simulate_66 rfl (lv_at hl 1 rfl) ?_
              refine va_get (D := D) (ci := 7) (v := .ref (q 8)) (C := RX7) (T := TX7) (N := 15) hx hb hts (iwX7_simulate_7) hown hK.1 hP 0 rfl rfl 11 (by decide) (hts (.fieldLink RX7 33 "InverterGraphsModel" "rows" "[J") (by decide +kernel)) (fun _ h9 => h9) rfl dX7_simulate_67 ?_
              refine lv_iload hx hb dX7_simulate_70 (lv_at hl 5 rfl) ?_
              refine lv_iload hx hb dX7_simulate_72 (lv_at hl 0 rfl) ?_
              refine lv_if_eq (tgt := 86) hx hb dX7_simulate_74 (by decide) (fun c_74 => ?_) (fun c_74 => ?_)
              · skip
                refine lv_lconst (v := 0) hx hb dX7_simulate_86 (by decide) ?_
                refine k_last (D := D) (j := i) hx hb hK.1 hP hD hS 8 1 rfl rfl (by omega) (by omega) dX7_simulate_87 (fun H locs hP hD hS => ?_)
                have hP : va_P D vwCl (wN κ q 0 kc cp cn (vp_updL ((m_si kc p1 ro i).2.2) i 0) kn u_11 be) H := hP
                have hD : va_D A (wN κ q 0 kc cp cn (vp_updL ((m_si kc p1 ro i).2.2) i 0) kn u_11 be) := hD
                refine lv_iload hx hb dX7_simulate_88 (lv_at hl 0 rfl) ?_
                refine lv_if_eq (tgt := 99) hx hb dX7_simulate_90 (by decide) (fun c_90 => ?_) (fun c_90 => ?_)
                · skip
                  refine lv_iload_n hx hb dX7_simulate_99 rfl (lv_at hl 3 rfl) ?_
                  refine lv_istore_n (lv' := [(3, .int ((m_si kc p1 ro i).1)), (6, .int 0), (0, .ref (q 0)), (1, .long p1), (4, .int ((m_si kc p1 ro i).2.1)), (5, .int (nI i))]) hx hb dX7_simulate_100 rfl hl (by decide) rfl (fun ls hl => ?_)
                  refine lv_aload_n hx hb dX7_simulate_101 rfl (lv_at hl 2 rfl) ?_
                  refine va_get (D := D) (ci := 7) (v := .ref (q 1)) (C := RX7) (T := TX7) (N := 15) hx hb hts (iwX7_simulate_7) hown hK.1 hP 0 rfl rfl 1 (by decide) (hts (.fieldLink RX7 7 "InverterGraphsModel" "sorts" "[I") (by decide +kernel)) (fun _ h9 => h9) rfl dX7_simulate_102 ?_
                  refine lv_iload hx hb dX7_simulate_105 (lv_at hl 5 rfl) ?_
                  refine k_iald (D := D) (j := i) hx hb hK.1 hP 1 0 rfl rfl (by omega) (by omega) dX7_simulate_107 ?_
                  refine lv_iconst (v := 5) hx hb dX7_simulate_108 (by decide) ?_
                  refine lv_icmp_ne (tgt := 117) hx hb dX7_simulate_109 (by decide) (fun c_109 => ?_) (fun c_109 => ?_)
                  · skip
                    refine lv_iload hx hb dX7_simulate_117 (lv_at hl 4 rfl) ?_
                    refine lv_iconst (v := 1) hx hb dX7_simulate_119 (by decide) ?_
                    refine lv_iadd hx hb dX7_simulate_120 ?_
                    refine lv_istore (lv' := [(4, .int (((m_si kc p1 ro i).2.1) + 1)), (3, .int ((m_si kc p1 ro i).1)), (6, .int 0), (0, .ref (q 0)), (1, .long p1), (5, .int (nI i))]) hx hb dX7_simulate_121 hl (by decide) rfl (fun ls hl => ?_)
                    refine lv_iinc (v := nI (i + 1)) (lv' := [(5, .int (nI (i + 1))), (4, .int (((m_si kc p1 ro i).2.1) + 1)), (3, .int ((m_si kc p1 ro i).1)), (6, .int 0), (0, .ref (q 0)), (1, .long p1)]) hx hb dX7_simulate_123 hl (k := 5) rfl (nI_1 _) (by decide) rfl (fun ls hl => ?_)
                    refine lv_goto (tgt := 17) hx hb dX7_simulate_126 (by decide) ?_
                    have e9 : m_si kc p1 ro (i + 1) = ((m_si kc p1 ro i).1, ((m_si kc p1 ro i).2.1) + 1, vp_updL ((m_si kc p1 ro i).2.2) i 0) := by show m_siS kc p1 i _ = _; unfold m_siS m_nn; rw [if_neg c_34, if_neg c_45, if_neg c_56, if_neg c_109]
                    exact ih (i + 1) H locs ls (by omega) (by rw [e9]; exact hP) (by rw [e9]; exact hD) hS (by rw [e9]; exact lv_sub hl [4, 5, 2, 1, 0] rfl)
                  · skip
                    refine lv_iload hx hb dX7_simulate_112 (lv_at hl 4 rfl) ?_
                    refine lv_goto (tgt := 121) hx hb dX7_simulate_114 (by decide) ?_
                    refine lv_istore (lv' := [(4, .int ((m_si kc p1 ro i).2.1)), (3, .int ((m_si kc p1 ro i).1)), (6, .int 0), (0, .ref (q 0)), (1, .long p1), (5, .int (nI i))]) hx hb dX7_simulate_121 hl (by decide) rfl (fun ls hl => ?_)
                    refine lv_iinc (v := nI (i + 1)) (lv' := [(5, .int (nI (i + 1))), (4, .int ((m_si kc p1 ro i).2.1)), (3, .int ((m_si kc p1 ro i).1)), (6, .int 0), (0, .ref (q 0)), (1, .long p1)]) hx hb dX7_simulate_123 hl (k := 5) rfl (nI_1 _) (by decide) rfl (fun ls hl => ?_)
                    refine lv_goto (tgt := 17) hx hb dX7_simulate_126 (by decide) ?_
                    have e9 : m_si kc p1 ro (i + 1) = ((m_si kc p1 ro i).1, (m_si kc p1 ro i).2.1, vp_updL ((m_si kc p1 ro i).2.2) i 0) := by show m_siS kc p1 i _ = _; unfold m_siS m_nn; rw [if_neg c_34, if_neg c_45, if_neg c_56, if_pos c_109]
                    exact ih (i + 1) H locs ls (by omega) (by rw [e9]; exact hP) (by rw [e9]; exact hD) hS (by rw [e9]; exact lv_sub hl [4, 5, 2, 1, 0] rfl)
                · skip
                  exfalso; revert c_90; decide
              · skip
                exfalso; revert c_74; decide
            · skip
              refine lv_iconst (v := 1) hx hb dX7_simulate_59 (by decide) ?_
              refine lv_goto (tgt := 64) hx hb dX7_simulate_60 (by decide) ?_
              refine lv_istore (lv' := [(6, .int 1), (0, .ref (q 0)), (1, .long p1), (3, .int ((m_si kc p1 ro i).1)), (4, .int ((m_si kc p1 ro i).2.1)), (5, .int (nI i))]) hx hb dX7_simulate_64 hl (by decide) rfl (fun ls hl => ?_)
              refine lv_aload_n hx hb dX7_simulate_66 rfl (lv_at hl 1 rfl) ?_
              refine va_get (D := D) (ci := 7) (v := .ref (q 8)) (C := RX7) (T := TX7) (N := 15) hx hb hts (iwX7_simulate_7) hown hK.1 hP 0 rfl rfl 11 (by decide) (hts (.fieldLink RX7 33 "InverterGraphsModel" "rows" "[J") (by decide +kernel)) (fun _ h9 => h9) rfl dX7_simulate_67 ?_
              refine lv_iload hx hb dX7_simulate_70 (lv_at hl 5 rfl) ?_
              refine lv_iload hx hb dX7_simulate_72 (lv_at hl 0 rfl) ?_
              refine lv_if_eq (tgt := 86) hx hb dX7_simulate_74 (by decide) (fun c_74 => ?_) (fun c_74 => ?_)
              · skip
                exfalso; revert c_74; decide
              · skip
                refine lv_lload_n hx hb dX7_simulate_77 rfl (lv_at hl 2 rfl) ?_
                refine lv_iload_n hx hb dX7_simulate_78 rfl (lv_at hl 3 rfl) ?_
                refine lv_i2l (v := Int32.toInt64 ((m_si kc p1 ro i).1)) hx hb dX7_simulate_79 rfl ?_
                refine k_cSTl ⟨hx, hb, hml, hown, hts⟩ (c_X7_mix l p1 (Int32.toInt64 ((m_si kc p1 ro i).1))) (va_cwS 2 hts gX7_simulate_X7_mix rfl rfl rfl (by decide +kernel) ⟨Nat.le_of_ble_eq_true rfl, Nat.le_of_ble_eq_true rfl⟩) (As := [.long p1, .long (Int32.toInt64 ((m_si kc p1 ro i).1))]) (rest := [.int (nI i), .ref (q 8)]) rfl rfl hl.1 (Nat.le_of_ble_eq_true rfl) dX7_simulate_80 ⟨Nat.le_of_ble_eq_true rfl, Nat.le_of_ble_eq_true rfl⟩ (fun r hr => ?_)
                subst hr
                refine lv_goto (tgt := 87) hx hb dX7_simulate_83 (by decide) ?_
                refine k_last (D := D) (j := i) hx hb hK.1 hP hD hS 8 1 rfl rfl (by omega) (by omega) dX7_simulate_87 (fun H locs hP hD hS => ?_)
                have hP : va_P D vwCl (wN κ q 0 kc cp cn (vp_updL ((m_si kc p1 ro i).2.2) i (m_mix p1 (Int32.toInt64 ((m_si kc p1 ro i).1)))) kn u_11 be) H := hP
                have hD : va_D A (wN κ q 0 kc cp cn (vp_updL ((m_si kc p1 ro i).2.2) i (m_mix p1 (Int32.toInt64 ((m_si kc p1 ro i).1)))) kn u_11 be) := hD
                refine lv_iload hx hb dX7_simulate_88 (lv_at hl 0 rfl) ?_
                refine lv_if_eq (tgt := 99) hx hb dX7_simulate_90 (by decide) (fun c_90 => ?_) (fun c_90 => ?_)
                · skip
                  exfalso; revert c_90; decide
                · skip
                  refine lv_iload_n hx hb dX7_simulate_93 rfl (lv_at hl 3 rfl) ?_
                  refine lv_iconst (v := 1) hx hb dX7_simulate_94 (by decide) ?_
                  refine lv_iadd hx hb dX7_simulate_95 ?_
                  refine lv_goto (tgt := 100) hx hb dX7_simulate_96 (by decide) ?_
                  refine lv_istore_n (lv' := [(3, .int (((m_si kc p1 ro i).1) + 1)), (6, .int 1), (0, .ref (q 0)), (1, .long p1), (4, .int ((m_si kc p1 ro i).2.1)), (5, .int (nI i))]) hx hb dX7_simulate_100 rfl hl (by decide) rfl (fun ls hl => ?_)
                  refine lv_aload_n hx hb dX7_simulate_101 rfl (lv_at hl 2 rfl) ?_
                  refine va_get (D := D) (ci := 7) (v := .ref (q 1)) (C := RX7) (T := TX7) (N := 15) hx hb hts (iwX7_simulate_7) hown hK.1 hP 0 rfl rfl 1 (by decide) (hts (.fieldLink RX7 7 "InverterGraphsModel" "sorts" "[I") (by decide +kernel)) (fun _ h9 => h9) rfl dX7_simulate_102 ?_
                  refine lv_iload hx hb dX7_simulate_105 (lv_at hl 5 rfl) ?_
                  refine k_iald (D := D) (j := i) hx hb hK.1 hP 1 0 rfl rfl (by omega) (by omega) dX7_simulate_107 ?_
                  refine lv_iconst (v := 5) hx hb dX7_simulate_108 (by decide) ?_
                  refine lv_icmp_ne (tgt := 117) hx hb dX7_simulate_109 (by decide) (fun c_109 => ?_) (fun c_109 => ?_)
                  · skip
                    refine lv_iload hx hb dX7_simulate_117 (lv_at hl 4 rfl) ?_
                    refine lv_iconst (v := 1) hx hb dX7_simulate_119 (by decide) ?_
                    refine lv_iadd hx hb dX7_simulate_120 ?_
                    refine lv_istore (lv' := [(4, .int (((m_si kc p1 ro i).2.1) + 1)), (3, .int (((m_si kc p1 ro i).1) + 1)), (6, .int 1), (0, .ref (q 0)), (1, .long p1), (5, .int (nI i))]) hx hb dX7_simulate_121 hl (by decide) rfl (fun ls hl => ?_)
                    refine lv_iinc (v := nI (i + 1)) (lv' := [(5, .int (nI (i + 1))), (4, .int (((m_si kc p1 ro i).2.1) + 1)), (3, .int (((m_si kc p1 ro i).1) + 1)), (6, .int 1), (0, .ref (q 0)), (1, .long p1)]) hx hb dX7_simulate_123 hl (k := 5) rfl (nI_1 _) (by decide) rfl (fun ls hl => ?_)
                    refine lv_goto (tgt := 17) hx hb dX7_simulate_126 (by decide) ?_
                    have e9 : m_si kc p1 ro (i + 1) = (((m_si kc p1 ro i).1) + 1, ((m_si kc p1 ro i).2.1) + 1, vp_updL ((m_si kc p1 ro i).2.2) i (m_mix p1 (Int32.toInt64 ((m_si kc p1 ro i).1)))) := by show m_siS kc p1 i _ = _; unfold m_siS m_nn; rw [if_neg c_34, if_neg c_45, if_pos c_56, if_neg c_109]
                    exact ih (i + 1) H locs ls (by omega) (by rw [e9]; exact hP) (by rw [e9]; exact hD) hS (by rw [e9]; exact lv_sub hl [4, 5, 2, 1, 0] rfl)
                  · skip
                    refine lv_iload hx hb dX7_simulate_112 (lv_at hl 4 rfl) ?_
                    refine lv_goto (tgt := 121) hx hb dX7_simulate_114 (by decide) ?_
                    refine lv_istore (lv' := [(4, .int ((m_si kc p1 ro i).2.1)), (3, .int (((m_si kc p1 ro i).1) + 1)), (6, .int 1), (0, .ref (q 0)), (1, .long p1), (5, .int (nI i))]) hx hb dX7_simulate_121 hl (by decide) rfl (fun ls hl => ?_)
                    refine lv_iinc (v := nI (i + 1)) (lv' := [(5, .int (nI (i + 1))), (4, .int ((m_si kc p1 ro i).2.1)), (3, .int (((m_si kc p1 ro i).1) + 1)), (6, .int 1), (0, .ref (q 0)), (1, .long p1)]) hx hb dX7_simulate_123 hl (k := 5) rfl (nI_1 _) (by decide) rfl (fun ls hl => ?_)
                    refine lv_goto (tgt := 17) hx hb dX7_simulate_126 (by decide) ?_
                    have e9 : m_si kc p1 ro (i + 1) = (((m_si kc p1 ro i).1) + 1, (m_si kc p1 ro i).2.1, vp_updL ((m_si kc p1 ro i).2.2) i (m_mix p1 (Int32.toInt64 ((m_si kc p1 ro i).1)))) := by show m_siS kc p1 i _ = _; unfold m_siS m_nn; rw [if_neg c_34, if_neg c_45, if_pos c_56, if_pos c_109]
                    exact ih (i + 1) H locs ls (by omega) (by rw [e9]; exact hP) (by rw [e9]; exact hD) hS (by rw [e9]; exact lv_sub hl [4, 5, 2, 1, 0] rfl)
  exact l1 (mnd kc) 0 H locs ls (by omega) hP hD hS (lv_sub hl [3, 4, 2, 1, 0] rfl)
