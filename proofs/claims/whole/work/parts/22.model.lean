/-! THE REFERENCE, third: copies and rows -/
def m_slot (c : KC) (y : Nat) : Int32 := if y < 400 then mso c y else if y < 800 then nI (mon c (y - 400)) else if y < 1200 then nI (mtw c (y - 800)) else if y < 1600 then mst c (y - 1200) else if y < 1640 then nI (mou c (y - 1600)) else if y < 1680 then (if mbo c (y - 1640) = 0 then 0 else 1) else if y < 1681 then nI (mnd c) else nI (moc c)
theorem m_slot_0 (c : KC) {i : Nat} (h : i < 400) : m_slot c i = mso c i := by unfold m_slot; rw [if_pos h]
theorem m_slot_1 (c : KC) {i : Nat} (h : i < 400) : m_slot c (400 + i) = nI (mon c i) := by unfold m_slot; rw [if_neg (by omega), if_pos (by omega), show 400 + i - 400 = i by omega]
theorem m_slot_2 (c : KC) {i : Nat} (h : i < 400) : m_slot c (800 + i) = nI (mtw c i) := by unfold m_slot; rw [if_neg (by omega), if_neg (by omega), if_pos (by omega), show 800 + i - 800 = i by omega]
theorem m_slot_3 (c : KC) {i : Nat} (h : i < 400) : m_slot c (1200 + i) = mst c i := by unfold m_slot; rw [if_neg (by omega), if_neg (by omega), if_neg (by omega), if_pos (by omega), show 1200 + i - 1200 = i by omega]
theorem m_slot_4 (c : KC) {i : Nat} (h : i < 40) : m_slot c (1600 + i) = nI (mou c i) := by unfold m_slot; rw [if_neg (by omega), if_neg (by omega), if_neg (by omega), if_neg (by omega), if_pos (by omega), show 1600 + i - 1600 = i by omega]
theorem m_slot_5 (c : KC) {i : Nat} (h : i < 40) : m_slot c (1640 + i) = if mbo c i = 0 then 0 else 1 := by unfold m_slot; rw [if_neg (by omega), if_neg (by omega), if_neg (by omega), if_neg (by omega), if_neg (by omega), if_pos (by omega), show 1640 + i - 1640 = i by omega]
theorem m_slot_6 (c : KC) : m_slot c 1680 = nI (mnd c) := rfl
theorem m_slot_7 (c : KC) : m_slot c 1681 = nI (moc c) := rfl
def m_sv1 (c : KC) (t : Nat) (cp : Nat → Int32) (i : Nat) : Nat → Int32 := fun k => if t ≤ k ∧ k < t + 1600 ∧ (k - t) % 400 < i then m_slot c (k - t) else cp k
theorem m_sv1_0 (c : KC) (t : Nat) (cp : Nat → Int32) : m_sv1 c t cp 0 = cp := by funext k; simp [m_sv1]
theorem m_sv1_s (c : KC) (t : Nat) (cp : Nat → Int32) {i : Nat} (hi : i < 400) : upd (upd (upd (upd (m_sv1 c t cp i) (t + i) (mso c i)) (t + 400 + i) (nI (mon c i))) (t + 800 + i) (nI (mtw c i))) (t + 1200 + i) (mst c i) = m_sv1 c t cp (i + 1) := by
  funext k
  by_cases h3 : k = t + 1200 + i
  · subst h3; rw [pk_us]; simp only [m_sv1]; rw [if_pos (by omega), show t + 1200 + i - t = 1200 + i by omega, m_slot_3 c hi]
  rw [pk_un h3]
  by_cases h2 : k = t + 800 + i
  · subst h2; rw [pk_us]; simp only [m_sv1]; rw [if_pos (by omega), show t + 800 + i - t = 800 + i by omega, m_slot_2 c hi]
  rw [pk_un h2]
  by_cases h1 : k = t + 400 + i
  · subst h1; rw [pk_us]; simp only [m_sv1]; rw [if_pos (by omega), show t + 400 + i - t = 400 + i by omega, m_slot_1 c hi]
  rw [pk_un h1]
  by_cases h0 : k = t + i
  · subst h0; rw [pk_us]; simp only [m_sv1]; rw [if_pos (by omega), show t + i - t = i by omega, m_slot_0 c hi]
  rw [pk_un h0]
  simp only [m_sv1]
  by_cases h : t ≤ k ∧ k < t + 1600 ∧ (k - t) % 400 < i
  · rw [if_pos h, if_pos (by omega)]
  · rw [if_neg h, if_neg (by omega)]
def m_sv2 (c : KC) (t : Nat) (cp : Nat → Int32) (i : Nat) : Nat → Int32 := fun k => if t + 1600 ≤ k ∧ k < t + 1680 ∧ (k - t) % 40 < i then m_slot c (k - t) else cp k
theorem m_sv2_0 (c : KC) (t : Nat) (cp : Nat → Int32) : m_sv2 c t cp 0 = cp := by funext k; simp [m_sv2]
theorem m_sv2_s (c : KC) (t : Nat) (cp : Nat → Int32) {i : Nat} (hi : i < 40) : upd (upd (m_sv2 c t cp i) (t + 1600 + i) (nI (mou c i))) (t + 1640 + i) (if mbo c i = 0 then 0 else 1) = m_sv2 c t cp (i + 1) := by
  funext k
  by_cases h3 : k = t + 1640 + i
  · subst h3; rw [pk_us]; simp only [m_sv2]; rw [if_pos (show t + 1600 ≤ t + 1640 + i ∧ t + 1640 + i < t + 1680 ∧ (t + 1640 + i - t) % 40 < i + 1 by omega), show t + 1640 + i - t = 1640 + i by omega, m_slot_5 c hi]
  rw [pk_un h3]
  by_cases h2 : k = t + 1600 + i
  · subst h2; rw [pk_us]; simp only [m_sv2]; rw [if_pos (by omega), show t + 1600 + i - t = 1600 + i by omega, m_slot_4 c hi]
  rw [pk_un h2]
  simp only [m_sv2]
  by_cases h : t + 1600 ≤ k ∧ k < t + 1680 ∧ (k - t) % 40 < i
  · rw [if_pos h, if_pos (by omega)]
  · rw [if_neg h, if_neg (by omega)]
/-- the copy of c put down at t -/
def k_sv (c : KC) (t : Nat) (cp : Nat → Int32) : Nat → Int32 := fun k => if t ≤ k ∧ k < t + 1682 then m_slot c (k - t) else cp k
theorem k_sv_of (c : KC) (t : Nat) (cp : Nat → Int32) : upd (upd (m_sv2 c t (m_sv1 c t cp 400) 40) (t + 1680) (nI (mnd c))) (t + 1681) (nI (moc c)) = k_sv c t cp := by
  funext k
  by_cases h3 : k = t + 1681
  · subst h3; rw [pk_us]; simp only [k_sv]; rw [if_pos (by omega), show t + 1681 - t = 1681 by omega, m_slot_7 c]
  rw [pk_un h3]
  by_cases h2 : k = t + 1680
  · subst h2; rw [pk_us]; simp only [k_sv]; rw [if_pos (by omega), show t + 1680 - t = 1680 by omega, m_slot_6 c]
  rw [pk_un h2]
  simp only [k_sv, m_sv1, m_sv2]
  by_cases h : t ≤ k ∧ k < t + 1682
  · rw [if_pos h]
    by_cases h9 : t + 1600 ≤ k
    · rw [if_pos (by omega)]
    · rw [if_neg (by omega), if_pos (by omega)]
  · rw [if_neg h, if_neg (by omega), if_neg (by omega)]
def m_sh (cp : Nat → Int32) (i : Nat) : Nat → Int32 := fun k => if k < i then cp (k + 2100) else cp k
theorem m_sh_0 (cp : Nat → Int32) : m_sh cp 0 = cp := by funext k; simp [m_sh]
theorem m_sh_s (cp : Nat → Int32) (i : Nat) : upd (m_sh cp i) i (m_sh cp i (i + 2100)) = m_sh cp (i + 1) := by
  funext k
  by_cases h : k = i
  · subst h; rw [pk_us]; simp [m_sh, show ¬ k + 2100 < k from by omega]
  · rw [pk_un h]; simp only [m_sh]; by_cases h2 : k < i
    · rw [if_pos h2, if_pos (by omega)]
    · rw [if_neg h2, if_neg (by omega)]
def m_save (c : KC) (cp : Nat → Int32) (cn : Nat) : (Nat → Int32) × Nat := if cn = 30 then (k_sv c (2100 * 29) (m_sh cp 60900), 30) else (k_sv c (2100 * cn) cp, cn + 1)
/-- the first i places copied, and the numbers ones -/
def k_cpN (i : Nat) (f1 f : Nat → Nat) : Nat → Nat := fun j => if j < i then f1 j else f j
theorem k_cp_0 (f1 f : Nat → Int32) : k_cp 0 f1 f = f := by funext j; simp [k_cp]
theorem k_cp_s (f1 f : Nat → Int32) (i : Nat) : upd (k_cp i f1 f) i (f1 i) = k_cp (i + 1) f1 f := by
  funext j
  by_cases h : j = i
  · subst h; rw [pk_us]; simp [k_cp]
  · rw [pk_un h]; simp only [k_cp]; by_cases h2 : j < i
    · rw [if_pos h2, if_pos (by omega)]
    · rw [if_neg h2, if_neg (by omega)]
theorem k_cpN_0 (f1 f : Nat → Nat) : k_cpN 0 f1 f = f := by funext j; simp [k_cpN]
theorem k_cpN_s (f1 f : Nat → Nat) (i : Nat) : k_un (k_cpN i f1 f) i (f1 i) = k_cpN (i + 1) f1 f := by
  funext j
  by_cases h : j = i
  · subst h; simp [k_cpN, k_un]
  · by_cases h2 : j < i
    · simp [k_cpN, k_un, h, h2, show j < i + 1 from by omega]
    · simp [k_cpN, k_un, h, h2, show ¬ j < i + 1 from by omega]
/-- what a copy gives back of 'boxed' -/
def m_bb (f : Nat → Int32) : Nat → Int32 := fun j => if (if f j = 0 then 0 else 1) = (1 : Int32) then 1 else 0
/-- d taken back over c -/
def m_ld1 (d c : KC) (i : Nat) : KC := (k_cp i (mso d) (mso c), k_cpN i (mon d) (mon c), k_cpN i (mtw d) (mtw c), k_cp i (mst d) (mst c), mnd c, mou c, mbo c, moc c)
def m_ld2 (d c : KC) (i : Nat) : KC := (k_cp 400 (mso d) (mso c), k_cpN 400 (mon d) (mon c), k_cpN 400 (mtw d) (mtw c), k_cp 400 (mst d) (mst c), mnd c, k_cpN i (mou d) (mou c), k_cp i (m_bb (mbo d)) (mbo c), moc c)
def m_ld (d c : KC) : KC := (k_cp 400 (mso d) (mso c), k_cpN 400 (mon d) (mon c), k_cpN 400 (mtw d) (mtw c), k_cp 400 (mst d) (mst c), mnd d, k_cpN 40 (mou d) (mou c), k_cp 40 (m_bb (mbo d)) (mbo c), moc d)
theorem m_ld1_0 (d c : KC) : m_ld1 d c 0 = c := by unfold m_ld1; rw [k_cp_0, k_cp_0, k_cpN_0, k_cpN_0]
theorem m_ld1_s (d c : KC) (i : Nat) : (upd (k_cp i (mso d) (mso c)) i (mso d i), k_un (k_cpN i (mon d) (mon c)) i (mon d i), k_un (k_cpN i (mtw d) (mtw c)) i (mtw d i), upd (k_cp i (mst d) (mst c)) i (mst d i), mnd c, mou c, mbo c, moc c) = m_ld1 d c (i + 1) := by
  rw [k_cp_s, k_cp_s, k_cpN_s, k_cpN_s]; rfl
theorem m_ld2_0 (d c : KC) : m_ld2 d c 0 = m_ld1 d c 400 := by unfold m_ld2; rw [k_cp_0, k_cpN_0]; rfl
theorem m_ld2_s (d c : KC) (i : Nat) : (k_cp 400 (mso d) (mso c), k_cpN 400 (mon d) (mon c), k_cpN 400 (mtw d) (mtw c), k_cp 400 (mst d) (mst c), mnd c, k_un (k_cpN i (mou d) (mou c)) i (mou d i), upd (k_cp i (m_bb (mbo d)) (mbo c)) i (m_bb (mbo d) i), moc c) = m_ld2 d c (i + 1) := by
  rw [k_cp_s, k_cpN_s]; rfl
theorem iwX7_save_7 : ∀ w ∈ wsX70, w ∈ wsX7_save := by decide +kernel
set_option maxHeartbeats 4000000 in
set_option maxRecDepth 100000 in
theorem c_X7_save (l : Launch) (D : va_G) (κ : Nat → ClassId) (sz : Nat) (q : Nat → Nat) (th : Int32) (kc : KC) (cp : Nat → Int32) (cn : Nat) (ro : Nat → Int64) (kn : Int32) (lv be : Nat → Int32)  (hnd : mnd kc ≤ 400) (hoc : moc kc ≤ 40) (hcn : cn ≤ 30) : k_muv (S := ((Nat → Int32) × Nat)) l yX7_save wsX7_save 0 0 0 0 D κ [.ref (q 0)] (wN κ q th kc cp cn ro kn lv be) sz (fun u => u = m_save kc cp cn) (fun u => wN κ q th kc u.1 u.2 ro 0 lv be) := by
  refine Met.ofW (cc := cX7_save) (maxL := 3) (ret := none) (by decide) rfl ?_
  intro p e s m args below meth c s₁ B hml hv
  obtain ⟨rfl, hsz, hK, hP, hD0⟩ := hv
  have hx := B.exec
  have hb := B.bytes
  have hr := B.returns
  have hts := atoms_spec (ws := wsX7_save) B.pre
  have hown : s.vm.findClass RX7 = some m.cls := findClass_of_methodNamed B.named
  have hlocks := B.notSynchronized
  subst hsz
  have hD := hD0.self (sz := s.heap.size)
  generalize hAe : va_A (wN κ q th kc cp cn ro kn lv be) s.heap.size = A at hD ⊢
  have hA : ∀ q : Nat, s.heap.size ≤ q → A q := fun q h => by rw [← hAe]; exact Or.inr h
  have hS : va_S A s.heap s.heap [] := va_S.rf
  have hP : va_P D vwCl (wN κ q th kc cp cn ro kn lv be) s.heap := hP
  have hl := lv_entry ([.ref (q 0)]) (n := 3) (Nat.le_of_ble_eq_true rfl)
  rw [lg_entry_eq]
  generalize (lg_sl ([.ref (q 0)]) ++ List.replicate (3 - (lg_sl ([.ref (q 0)])).length) Slot.unset).toArray = ls at hl ⊢
  have hl : lv_has ls 3 [(0, .ref (q 0))] := hl
  have rest : ∀ (c2 : Nat → Int32) (n2 : Nat) (H : Heap) (locs : List Loc) (ls : Array Slot), (n2 ≤ 29) → (m_save kc cp cn = (k_sv kc (2100 * n2) c2, n2 + 1)) → va_P D vwCl (wN κ q th kc c2 n2 ro kn lv be) H → va_D A (wN κ q th kc c2 n2 ro kn lv be) → va_S A s.heap H locs → lv_has ls 3 [(0, .ref (q 0))] → W p l e (headSpec wsX7_save ({ frames := 0, cells := 0, slots := 0, locals := 0 })).room s m ([.ref (q 0)] : List Value).toArray below meth c H locs 0 0 (MQ below (va_Qv (S := ((Nat → Int32) × Nat)) (fun u => u = m_save kc cp cn) (fun u => k_B D A (wN κ q th kc u.1 u.2 ro 0 lv be)) A) ([.ref (q 0)] : List Value).toArray s 0 0 A) (F0 m 49 ls []) := by
    intro c2 n2 H locs ls hn9 hs9 hP hD hS hl
    refine lv_sipush (v := 2100) hx hb dX7_save_49 (by decide) ?_
    refine lv_aload_n hx hb dX7_save_52 rfl (lv_at hl 0 rfl) ?_
    refine va_get (D := D) (ci := 7) (v := .int (nI n2)) (C := RX7) (T := TX7) (N := 15) hx hb hts (iwX7_save_7) hown hK.1 hP 0 rfl rfl 10 (by decide) (hts (.fieldLink RX7 50 "InverterGraphsModel" "copyCount" "I") (by decide +kernel)) (fun _ h9 => h9) rfl dX7_save_53 ?_
    refine lv_imul hx hb dX7_save_56 ?_
    refine lv_topi (nm_r (pk_mul 2100 n2) ?_)
    refine lv_istore_n (lv' := [(1, .int (nI (2100 * n2))), (0, .ref (q 0))]) hx hb dX7_save_57 rfl hl (by decide) rfl (fun ls hl => ?_)
    refine lv_aload_n hx hb dX7_save_58 rfl (lv_at hl 1 rfl) ?_
    refine lv_dup hx hb dX7_save_59 rfl ?_
    refine va_get (D := D) (ci := 7) (v := .int (nI n2)) (C := RX7) (T := TX7) (N := 15) hx hb hts (iwX7_save_7) hown hK.1 hP 0 rfl rfl 10 (by decide) (hts (.fieldLink RX7 50 "InverterGraphsModel" "copyCount" "I") (by decide +kernel)) (fun _ h9 => h9) rfl dX7_save_60 ?_
    refine lv_iconst (v := 1) hx hb dX7_save_63 (by decide) ?_
    refine lv_iadd hx hb dX7_save_64 ?_
    refine lv_topi (nm_r (nI_add n2 1) ?_)
    refine va_put (D := D) (ci := 7) (v := .int (nI (n2 + 1))) (ty := .int) (C := RX7) (T := TX7) (N := 15) hx hb hts (iwX7_save_7) tyX7 tyX7_ok nmX7 hown hK.1 hP hD hS 0 rfl rfl 10 (by decide) (hts (.fieldLink RX7 50 "InverterGraphsModel" "copyCount" "I") (by decide +kernel)) (fun _ h9 => h9) rfl (by decide +kernel) rfl rfl (Nat.le_of_ble_eq_true rfl) dX7_save_65 (fun H locs hP hD hS => ?_)
    have hP : va_P D vwCl (wN κ q th kc c2 (n2 + 1) ro kn lv be) H := hP
    have hD : va_D A (wN κ q th kc c2 (n2 + 1) ro kn lv be) := hD
    refine lv_iconst (v := 0) hx hb dX7_save_68 (by decide) ?_
    refine lv_istore_n (lv' := [(2, .int 0), (1, .int (nI (2100 * n2))), (0, .ref (q 0))]) hx hb dX7_save_69 rfl hl (by decide) rfl (fun ls hl => ?_)
    have l2 : ∀ (k i : Nat) (H : Heap) (locs : List Loc) (ls : Array Slot), (i + k = 40) → va_P D vwCl (wN κ q th kc (m_sv2 kc (2100 * n2) (m_sv1 kc (2100 * n2) c2 400) i) (n2 + 1) ro kn lv be) H → va_D A (wN κ q th kc (m_sv2 kc (2100 * n2) (m_sv1 kc (2100 * n2) c2 400) i) (n2 + 1) ro kn lv be) → va_S A s.heap H locs → lv_has ls 3 [(0, .ref (q 0)), (1, .int (nI (2100 * n2))), (2, .int (nI i))] → W p l e (headSpec wsX7_save ({ frames := 0, cells := 0, slots := 0, locals := 0 })).room s m ([.ref (q 0)] : List Value).toArray below meth c H locs 0 0 (MQ below (va_Qv (S := ((Nat → Int32) × Nat)) (fun u => u = m_save kc cp cn) (fun u => k_B D A (wN κ q th kc u.1 u.2 ro 0 lv be)) A) ([.ref (q 0)] : List Value).toArray s 0 0 A) (F0 m 153 ls []) := by
      intro k
      induction k with
      | zero =>
        intro i H locs ls hi hP hD hS hl
        refine lv_iload_n hx hb dX7_save_153 rfl (lv_at hl 2 rfl) ?_
        refine lv_bipush (v := 40) hx hb dX7_save_154 (by decide) ?_
        refine lv_icmp_ge (tgt := 209) hx hb dX7_save_156 (by decide) (fun c_156 => ?_) (fun c_156 => ?_)
        · skip
          have c_156 : 40 ≤ i := (nI_leI (a := 40) (b := i) (by omega) (by omega)).mp c_156
          have e9 : 40 = i := by omega
          subst e9
          refine lv_aload_n hx hb dX7_save_209 rfl (lv_at hl 0 rfl) ?_
          refine va_get (D := D) (ci := 7) (v := .ref (q 7)) (C := RX7) (T := TX7) (N := 15) hx hb hts (iwX7_save_7) hown hK.1 hP 0 rfl rfl 9 (by decide) (hts (.fieldLink RX7 30 "InverterGraphsModel" "copies" "[I") (by decide +kernel)) (fun _ h9 => h9) rfl dX7_save_210 ?_
          refine lv_iload_n hx hb dX7_save_213 rfl (lv_at hl 1 rfl) ?_
          refine lv_sipush (v := 1680) hx hb dX7_save_214 (by decide) ?_
          refine lv_iadd hx hb dX7_save_217 ?_
          refine lv_topi (nm_r (nI_add (2100 * n2) 1680) ?_)
          refine lv_aload_n hx hb dX7_save_218 rfl (lv_at hl 0 rfl) ?_
          refine va_get (D := D) (ci := 7) (v := .int (nI (mnd kc))) (C := RX7) (T := TX7) (N := 15) hx hb hts (iwX7_save_7) hown hK.1 hP 0 rfl rfl 5 (by decide) (hts (.fieldLink RX7 43 "InverterGraphsModel" "nodes" "I") (by decide +kernel)) (fun _ h9 => h9) rfl dX7_save_219 ?_
          refine k_iast (D := D) (j := (2100 * n2) + 1680) hx hb hK.1 hP hD hS 7 0 rfl rfl (by omega) (by omega) dX7_save_222 (fun H locs hP hD hS => ?_)
          have hP : va_P D vwCl (wN κ q th kc (upd (m_sv2 kc (2100 * n2) (m_sv1 kc (2100 * n2) c2 400) 40) ((2100 * n2) + 1680) (nI (mnd kc))) (n2 + 1) ro kn lv be) H := hP
          have hD : va_D A (wN κ q th kc (upd (m_sv2 kc (2100 * n2) (m_sv1 kc (2100 * n2) c2 400) 40) ((2100 * n2) + 1680) (nI (mnd kc))) (n2 + 1) ro kn lv be) := hD
          refine lv_aload_n hx hb dX7_save_223 rfl (lv_at hl 0 rfl) ?_
          refine va_get (D := D) (ci := 7) (v := .ref (q 7)) (C := RX7) (T := TX7) (N := 15) hx hb hts (iwX7_save_7) hown hK.1 hP 0 rfl rfl 9 (by decide) (hts (.fieldLink RX7 30 "InverterGraphsModel" "copies" "[I") (by decide +kernel)) (fun _ h9 => h9) rfl dX7_save_224 ?_
          refine lv_iload_n hx hb dX7_save_227 rfl (lv_at hl 1 rfl) ?_
          refine lv_sipush (v := 1681) hx hb dX7_save_228 (by decide) ?_
          refine lv_iadd hx hb dX7_save_231 ?_
          refine lv_topi (nm_r (nI_add (2100 * n2) 1681) ?_)
          refine lv_aload_n hx hb dX7_save_232 rfl (lv_at hl 0 rfl) ?_
          refine va_get (D := D) (ci := 7) (v := .int (nI (moc kc))) (C := RX7) (T := TX7) (N := 15) hx hb hts (iwX7_save_7) hown hK.1 hP 0 rfl rfl 8 (by decide) (hts (.fieldLink RX7 54 "InverterGraphsModel" "outputCount" "I") (by decide +kernel)) (fun _ h9 => h9) rfl dX7_save_233 ?_
          refine k_iast (D := D) (j := (2100 * n2) + 1681) hx hb hK.1 hP hD hS 7 0 rfl rfl (by omega) (by omega) dX7_save_236 (fun H locs hP hD hS => ?_)
          have hP : va_P D vwCl (wN κ q th kc (upd (upd (m_sv2 kc (2100 * n2) (m_sv1 kc (2100 * n2) c2 400) 40) ((2100 * n2) + 1680) (nI (mnd kc))) ((2100 * n2) + 1681) (nI (moc kc))) (n2 + 1) ro kn lv be) H := hP
          have hD : va_D A (wN κ q th kc (upd (upd (m_sv2 kc (2100 * n2) (m_sv1 kc (2100 * n2) c2 400) 40) ((2100 * n2) + 1680) (nI (mnd kc))) ((2100 * n2) + 1681) (nI (moc kc))) (n2 + 1) ro kn lv be) := hD
          refine lv_aload_n hx hb dX7_save_237 rfl (lv_at hl 0 rfl) ?_
          refine lv_iconst (v := 0) hx hb dX7_save_238 (by decide) ?_
          refine va_put (D := D) (ci := 7) (v := .int 0) (ty := .boolean) (C := RX7) (T := TX7) (N := 15) hx hb hts (iwX7_save_7) tyX7 tyX7_ok nmX7 hown hK.1 hP hD hS 0 rfl rfl 12 (by decide) (hts (.fieldLink RX7 57 "InverterGraphsModel" "known" "Z") (by decide +kernel)) (fun _ h9 => h9) rfl (by decide +kernel) rfl rfl (Nat.le_of_ble_eq_true rfl) dX7_save_239 (fun H locs hP hD hS => ?_)
          have hP : va_P D vwCl (wN κ q th kc (upd (upd (m_sv2 kc (2100 * n2) (m_sv1 kc (2100 * n2) c2 400) 40) ((2100 * n2) + 1680) (nI (mnd kc))) ((2100 * n2) + 1681) (nI (moc kc))) (n2 + 1) ro 0 lv be) H := hP
          have hD : va_D A (wN κ q th kc (upd (upd (m_sv2 kc (2100 * n2) (m_sv1 kc (2100 * n2) c2 400) 40) ((2100 * n2) + 1680) (nI (mnd kc))) ((2100 * n2) + 1681) (nI (moc kc))) (n2 + 1) ro 0 lv be) := hD
          rw [k_sv_of] at hP hD
          exact W.vret hx hb hr (fun t ht hW => ⟨⟨(k_sv kc (2100 * n2) c2, n2 + 1), rfl, hs9.symm, by rw [ht]; exact hP, hD⟩, hS.F ht⟩) hS.2.2 dX7_save_242
        · skip
          have c_156 : ¬ (40 ≤ i) := fun h9 => c_156 ((nI_leI (a := 40) (b := i) (by omega) (by omega)).mpr h9)
          exfalso; omega
      | succ k ih =>
        intro i H locs ls hi hP hD hS hl
        refine lv_iload_n hx hb dX7_save_153 rfl (lv_at hl 2 rfl) ?_
        refine lv_bipush (v := 40) hx hb dX7_save_154 (by decide) ?_
        refine lv_icmp_ge (tgt := 209) hx hb dX7_save_156 (by decide) (fun c_156 => ?_) (fun c_156 => ?_)
        · skip
          have c_156 : 40 ≤ i := (nI_leI (a := 40) (b := i) (by omega) (by omega)).mp c_156
          exfalso; omega
        · skip
          have c_156 : ¬ (40 ≤ i) := fun h9 => c_156 ((nI_leI (a := 40) (b := i) (by omega) (by omega)).mpr h9)
          refine lv_aload_n hx hb dX7_save_159 rfl (lv_at hl 0 rfl) ?_
          refine va_get (D := D) (ci := 7) (v := .ref (q 7)) (C := RX7) (T := TX7) (N := 15) hx hb hts (iwX7_save_7) hown hK.1 hP 0 rfl rfl 9 (by decide) (hts (.fieldLink RX7 30 "InverterGraphsModel" "copies" "[I") (by decide +kernel)) (fun _ h9 => h9) rfl dX7_save_160 ?_
          refine lv_iload_n hx hb dX7_save_163 rfl (lv_at hl 1 rfl) ?_
          refine lv_sipush (v := 1600) hx hb dX7_save_164 (by decide) ?_
          refine lv_iadd hx hb dX7_save_167 ?_
          refine lv_topi (nm_r (nI_add (2100 * n2) 1600) ?_)
          refine lv_iload_n hx hb dX7_save_168 rfl (lv_at hl 2 rfl) ?_
          refine lv_iadd hx hb dX7_save_169 ?_
          refine lv_topi (nm_r (nI_add ((2100 * n2) + 1600) i) ?_)
          refine lv_aload_n hx hb dX7_save_170 rfl (lv_at hl 0 rfl) ?_
          refine va_get (D := D) (ci := 7) (v := .ref (q 5)) (C := RX7) (T := TX7) (N := 15) hx hb hts (iwX7_save_7) hown hK.1 hP 0 rfl rfl 6 (by decide) (hts (.fieldLink RX7 22 "InverterGraphsModel" "outputs" "[I") (by decide +kernel)) (fun _ h9 => h9) rfl dX7_save_171 ?_
          refine lv_iload_n hx hb dX7_save_174 rfl (lv_at hl 2 rfl) ?_
          refine k_iald (D := D) (j := i) hx hb hK.1 hP 5 0 rfl rfl (by omega) (by omega) dX7_save_175 ?_
          refine k_iast (D := D) (j := ((2100 * n2) + 1600) + i) hx hb hK.1 hP hD hS 7 0 rfl rfl (by omega) (by omega) dX7_save_176 (fun H locs hP hD hS => ?_)
          have hP : va_P D vwCl (wN κ q th kc (upd (m_sv2 kc (2100 * n2) (m_sv1 kc (2100 * n2) c2 400) i) (((2100 * n2) + 1600) + i) (nI ((mou kc) i))) (n2 + 1) ro kn lv be) H := hP
          have hD : va_D A (wN κ q th kc (upd (m_sv2 kc (2100 * n2) (m_sv1 kc (2100 * n2) c2 400) i) (((2100 * n2) + 1600) + i) (nI ((mou kc) i))) (n2 + 1) ro kn lv be) := hD
          refine lv_aload_n hx hb dX7_save_177 rfl (lv_at hl 0 rfl) ?_
          refine va_get (D := D) (ci := 7) (v := .ref (q 7)) (C := RX7) (T := TX7) (N := 15) hx hb hts (iwX7_save_7) hown hK.1 hP 0 rfl rfl 9 (by decide) (hts (.fieldLink RX7 30 "InverterGraphsModel" "copies" "[I") (by decide +kernel)) (fun _ h9 => h9) rfl dX7_save_178 ?_
          refine lv_iload_n hx hb dX7_save_181 rfl (lv_at hl 1 rfl) ?_
          refine lv_sipush (v := 1640) hx hb dX7_save_182 (by decide) ?_
          refine lv_iadd hx hb dX7_save_185 ?_
          refine lv_topi (nm_r (nI_add (2100 * n2) 1640) ?_)
          refine lv_iload_n hx hb dX7_save_186 rfl (lv_at hl 2 rfl) ?_
          refine lv_iadd hx hb dX7_save_187 ?_
          refine lv_topi (nm_r (nI_add ((2100 * n2) + 1640) i) ?_)
          refine lv_aload_n hx hb dX7_save_188 rfl (lv_at hl 0 rfl) ?_
          refine va_get (D := D) (ci := 7) (v := .ref (q 6)) (C := RX7) (T := TX7) (N := 15) hx hb hts (iwX7_save_7) hown hK.1 hP 0 rfl rfl 7 (by decide) (hts (.fieldLink RX7 25 "InverterGraphsModel" "boxed" "[Z") (by decide +kernel)) (fun _ h9 => h9) rfl dX7_save_189 ?_
          refine lv_iload_n hx hb dX7_save_192 rfl (lv_at hl 2 rfl) ?_
          refine k_zald (D := D) (j := i) hx hb hK.1 hP 6 2 rfl rfl (by omega) (by omega) dX7_save_193 ?_
          have J_194 : ∀ z : Int32, z = (if (mbo kc) i = 0 then 0 else 1) → W p l e (headSpec wsX7_save ({ frames := 0, cells := 0, slots := 0, locals := 0 })).room s m ([.ref (q 0)] : List Value).toArray below meth c H locs 0 0 (MQ below (va_Qv (S := ((Nat → Int32) × Nat)) (fun u => u = m_save kc cp cn) (fun u => k_B D A (wN κ q th kc u.1 u.2 ro 0 lv be)) A) ([.ref (q 0)] : List Value).toArray s 0 0 A) (F0 m 202 ls [.int z, .int (nI (((2100 * n2) + 1640) + i)), .ref (q 7)]) := by
            intro z ez
            subst ez
            refine k_iast (D := D) (j := ((2100 * n2) + 1640) + i) hx hb hK.1 hP hD hS 7 0 rfl rfl (by omega) (by omega) dX7_save_202 (fun H locs hP hD hS => ?_)
            have hP : va_P D vwCl (wN κ q th kc (upd (upd (m_sv2 kc (2100 * n2) (m_sv1 kc (2100 * n2) c2 400) i) (((2100 * n2) + 1600) + i) (nI ((mou kc) i))) (((2100 * n2) + 1640) + i) (if (mbo kc) i = 0 then 0 else 1)) (n2 + 1) ro kn lv be) H := hP
            have hD : va_D A (wN κ q th kc (upd (upd (m_sv2 kc (2100 * n2) (m_sv1 kc (2100 * n2) c2 400) i) (((2100 * n2) + 1600) + i) (nI ((mou kc) i))) (((2100 * n2) + 1640) + i) (if (mbo kc) i = 0 then 0 else 1)) (n2 + 1) ro kn lv be) := hD
            refine lv_iinc (v := nI (i + 1)) (lv' := [(2, .int (nI (i + 1))), (0, .ref (q 0)), (1, .int (nI (2100 * n2)))]) hx hb dX7_save_203 hl (k := 2) rfl (nI_1 _) (by decide) rfl (fun ls hl => ?_)
            refine lv_goto (tgt := 153) hx hb dX7_save_206 (by decide) ?_
            exact ih (i + 1) H locs ls (by omega) (by rw [← m_sv2_s _ _ _ (show i < 40 by omega)]; exact hP) (by rw [← m_sv2_s _ _ _ (show i < 40 by omega)]; exact hD) hS (lv_sub hl [1, 2, 0] rfl)
          refine lv_if_eq (tgt := 201) hx hb dX7_save_194 (by decide) (fun c_194 => ?_) (fun c_194 => ?_)
          · skip
            refine lv_iconst (v := 0) hx hb dX7_save_201 (by decide) ?_
            exact J_194 _ (by rw [if_pos c_194])
          · skip
            refine lv_iconst (v := 1) hx hb dX7_save_197 (by decide) ?_
            refine lv_goto (tgt := 202) hx hb dX7_save_198 (by decide) ?_
            exact J_194 _ (by rw [if_neg c_194])
    have l1 : ∀ (k i : Nat) (H : Heap) (locs : List Loc) (ls : Array Slot), (i + k = 400) → va_P D vwCl (wN κ q th kc (m_sv1 kc (2100 * n2) c2 i) (n2 + 1) ro kn lv be) H → va_D A (wN κ q th kc (m_sv1 kc (2100 * n2) c2 i) (n2 + 1) ro kn lv be) → va_S A s.heap H locs → lv_has ls 3 [(0, .ref (q 0)), (1, .int (nI (2100 * n2))), (2, .int (nI i))] → W p l e (headSpec wsX7_save ({ frames := 0, cells := 0, slots := 0, locals := 0 })).room s m ([.ref (q 0)] : List Value).toArray below meth c H locs 0 0 (MQ below (va_Qv (S := ((Nat → Int32) × Nat)) (fun u => u = m_save kc cp cn) (fun u => k_B D A (wN κ q th kc u.1 u.2 ro 0 lv be)) A) ([.ref (q 0)] : List Value).toArray s 0 0 A) (F0 m 70 ls []) := by
      intro k
      induction k with
      | zero =>
        intro i H locs ls hi hP hD hS hl
        refine lv_iload_n hx hb dX7_save_70 rfl (lv_at hl 2 rfl) ?_
        refine lv_sipush (v := 400) hx hb dX7_save_71 (by decide) ?_
        refine lv_icmp_ge (tgt := 151) hx hb dX7_save_74 (by decide) (fun c_74 => ?_) (fun c_74 => ?_)
        · skip
          have c_74 : 400 ≤ i := (nI_leI (a := 400) (b := i) (by omega) (by omega)).mp c_74
          have e9 : 400 = i := by omega
          subst e9
          refine lv_iconst (v := 0) hx hb dX7_save_151 (by decide) ?_
          refine lv_istore_n (lv' := [(2, .int 0), (0, .ref (q 0)), (1, .int (nI (2100 * n2)))]) hx hb dX7_save_152 rfl hl (by decide) rfl (fun ls hl => ?_)
          exact l2 40 0 H locs ls (by omega) (by rw [m_sv2_0]; exact hP) (by rw [m_sv2_0]; exact hD) hS (lv_sub hl [1, 2, 0] rfl)
        · skip
          have c_74 : ¬ (400 ≤ i) := fun h9 => c_74 ((nI_leI (a := 400) (b := i) (by omega) (by omega)).mpr h9)
          exfalso; omega
      | succ k ih =>
        intro i H locs ls hi hP hD hS hl
        refine lv_iload_n hx hb dX7_save_70 rfl (lv_at hl 2 rfl) ?_
        refine lv_sipush (v := 400) hx hb dX7_save_71 (by decide) ?_
        refine lv_icmp_ge (tgt := 151) hx hb dX7_save_74 (by decide) (fun c_74 => ?_) (fun c_74 => ?_)
        · skip
          have c_74 : 400 ≤ i := (nI_leI (a := 400) (b := i) (by omega) (by omega)).mp c_74
          exfalso; omega
        · skip
          have c_74 : ¬ (400 ≤ i) := fun h9 => c_74 ((nI_leI (a := 400) (b := i) (by omega) (by omega)).mpr h9)
          refine lv_aload_n hx hb dX7_save_77 rfl (lv_at hl 0 rfl) ?_
          refine va_get (D := D) (ci := 7) (v := .ref (q 7)) (C := RX7) (T := TX7) (N := 15) hx hb hts (iwX7_save_7) hown hK.1 hP 0 rfl rfl 9 (by decide) (hts (.fieldLink RX7 30 "InverterGraphsModel" "copies" "[I") (by decide +kernel)) (fun _ h9 => h9) rfl dX7_save_78 ?_
          refine lv_iload_n hx hb dX7_save_81 rfl (lv_at hl 1 rfl) ?_
          refine lv_iload_n hx hb dX7_save_82 rfl (lv_at hl 2 rfl) ?_
          refine lv_iadd hx hb dX7_save_83 ?_
          refine lv_topi (nm_r (nI_add (2100 * n2) i) ?_)
          refine lv_aload_n hx hb dX7_save_84 rfl (lv_at hl 0 rfl) ?_
          refine va_get (D := D) (ci := 7) (v := .ref (q 1)) (C := RX7) (T := TX7) (N := 15) hx hb hts (iwX7_save_7) hown hK.1 hP 0 rfl rfl 1 (by decide) (hts (.fieldLink RX7 7 "InverterGraphsModel" "sorts" "[I") (by decide +kernel)) (fun _ h9 => h9) rfl dX7_save_85 ?_
          refine lv_iload_n hx hb dX7_save_88 rfl (lv_at hl 2 rfl) ?_
          refine k_iald (D := D) (j := i) hx hb hK.1 hP 1 0 rfl rfl (by omega) (by omega) dX7_save_89 ?_
          refine k_iast (D := D) (j := (2100 * n2) + i) hx hb hK.1 hP hD hS 7 0 rfl rfl (by omega) (by omega) dX7_save_90 (fun H locs hP hD hS => ?_)
          have hP : va_P D vwCl (wN κ q th kc (upd (m_sv1 kc (2100 * n2) c2 i) ((2100 * n2) + i) ((mso kc) i)) (n2 + 1) ro kn lv be) H := hP
          have hD : va_D A (wN κ q th kc (upd (m_sv1 kc (2100 * n2) c2 i) ((2100 * n2) + i) ((mso kc) i)) (n2 + 1) ro kn lv be) := hD
          refine lv_aload_n hx hb dX7_save_91 rfl (lv_at hl 0 rfl) ?_
          refine va_get (D := D) (ci := 7) (v := .ref (q 7)) (C := RX7) (T := TX7) (N := 15) hx hb hts (iwX7_save_7) hown hK.1 hP 0 rfl rfl 9 (by decide) (hts (.fieldLink RX7 30 "InverterGraphsModel" "copies" "[I") (by decide +kernel)) (fun _ h9 => h9) rfl dX7_save_92 ?_
          refine lv_iload_n hx hb dX7_save_95 rfl (lv_at hl 1 rfl) ?_
          refine lv_sipush (v := 400) hx hb dX7_save_96 (by decide) ?_
          refine lv_iadd hx hb dX7_save_99 ?_
          refine lv_topi (nm_r (nI_add (2100 * n2) 400) ?_)
          refine lv_iload_n hx hb dX7_save_100 rfl (lv_at hl 2 rfl) ?_
          refine lv_iadd hx hb dX7_save_101 ?_
          refine lv_topi (nm_r (nI_add ((2100 * n2) + 400) i) ?_)
          refine lv_aload_n hx hb dX7_save_102 rfl (lv_at hl 0 rfl) ?_
          refine va_get (D := D) (ci := 7) (v := .ref (q 2)) (C := RX7) (T := TX7) (N := 15) hx hb hts (iwX7_save_7) hown hK.1 hP 0 rfl rfl 2 (by decide) (hts (.fieldLink RX7 13 "InverterGraphsModel" "ones" "[I") (by decide +kernel)) (fun _ h9 => h9) rfl dX7_save_103 ?_
          refine lv_iload_n hx hb dX7_save_106 rfl (lv_at hl 2 rfl) ?_
          refine k_iald (D := D) (j := i) hx hb hK.1 hP 2 0 rfl rfl (by omega) (by omega) dX7_save_107 ?_
          refine k_iast (D := D) (j := ((2100 * n2) + 400) + i) hx hb hK.1 hP hD hS 7 0 rfl rfl (by omega) (by omega) dX7_save_108 (fun H locs hP hD hS => ?_)
          have hP : va_P D vwCl (wN κ q th kc (upd (upd (m_sv1 kc (2100 * n2) c2 i) ((2100 * n2) + i) ((mso kc) i)) (((2100 * n2) + 400) + i) (nI ((mon kc) i))) (n2 + 1) ro kn lv be) H := hP
          have hD : va_D A (wN κ q th kc (upd (upd (m_sv1 kc (2100 * n2) c2 i) ((2100 * n2) + i) ((mso kc) i)) (((2100 * n2) + 400) + i) (nI ((mon kc) i))) (n2 + 1) ro kn lv be) := hD
          refine lv_aload_n hx hb dX7_save_109 rfl (lv_at hl 0 rfl) ?_
          refine va_get (D := D) (ci := 7) (v := .ref (q 7)) (C := RX7) (T := TX7) (N := 15) hx hb hts (iwX7_save_7) hown hK.1 hP 0 rfl rfl 9 (by decide) (hts (.fieldLink RX7 30 "InverterGraphsModel" "copies" "[I") (by decide +kernel)) (fun _ h9 => h9) rfl dX7_save_110 ?_
          refine lv_iload_n hx hb dX7_save_113 rfl (lv_at hl 1 rfl) ?_
          refine lv_sipush (v := 800) hx hb dX7_save_114 (by decide) ?_
          refine lv_iadd hx hb dX7_save_117 ?_
          refine lv_topi (nm_r (nI_add (2100 * n2) 800) ?_)
          refine lv_iload_n hx hb dX7_save_118 rfl (lv_at hl 2 rfl) ?_
          refine lv_iadd hx hb dX7_save_119 ?_
          refine lv_topi (nm_r (nI_add ((2100 * n2) + 800) i) ?_)
          refine lv_aload_n hx hb dX7_save_120 rfl (lv_at hl 0 rfl) ?_
          refine va_get (D := D) (ci := 7) (v := .ref (q 3)) (C := RX7) (T := TX7) (N := 15) hx hb hts (iwX7_save_7) hown hK.1 hP 0 rfl rfl 3 (by decide) (hts (.fieldLink RX7 16 "InverterGraphsModel" "twos" "[I") (by decide +kernel)) (fun _ h9 => h9) rfl dX7_save_121 ?_
          refine lv_iload_n hx hb dX7_save_124 rfl (lv_at hl 2 rfl) ?_
          refine k_iald (D := D) (j := i) hx hb hK.1 hP 3 0 rfl rfl (by omega) (by omega) dX7_save_125 ?_
          refine k_iast (D := D) (j := ((2100 * n2) + 800) + i) hx hb hK.1 hP hD hS 7 0 rfl rfl (by omega) (by omega) dX7_save_126 (fun H locs hP hD hS => ?_)
          have hP : va_P D vwCl (wN κ q th kc (upd (upd (upd (m_sv1 kc (2100 * n2) c2 i) ((2100 * n2) + i) ((mso kc) i)) (((2100 * n2) + 400) + i) (nI ((mon kc) i))) (((2100 * n2) + 800) + i) (nI ((mtw kc) i))) (n2 + 1) ro kn lv be) H := hP
          have hD : va_D A (wN κ q th kc (upd (upd (upd (m_sv1 kc (2100 * n2) c2 i) ((2100 * n2) + i) ((mso kc) i)) (((2100 * n2) + 400) + i) (nI ((mon kc) i))) (((2100 * n2) + 800) + i) (nI ((mtw kc) i))) (n2 + 1) ro kn lv be) := hD
          refine lv_aload_n hx hb dX7_save_127 rfl (lv_at hl 0 rfl) ?_
          refine va_get (D := D) (ci := 7) (v := .ref (q 7)) (C := RX7) (T := TX7) (N := 15) hx hb hts (iwX7_save_7) hown hK.1 hP 0 rfl rfl 9 (by decide) (hts (.fieldLink RX7 30 "InverterGraphsModel" "copies" "[I") (by decide +kernel)) (fun _ h9 => h9) rfl dX7_save_128 ?_
          refine lv_iload_n hx hb dX7_save_131 rfl (lv_at hl 1 rfl) ?_
          refine lv_sipush (v := 1200) hx hb dX7_save_132 (by decide) ?_
          refine lv_iadd hx hb dX7_save_135 ?_
          refine lv_topi (nm_r (nI_add (2100 * n2) 1200) ?_)
          refine lv_iload_n hx hb dX7_save_136 rfl (lv_at hl 2 rfl) ?_
          refine lv_iadd hx hb dX7_save_137 ?_
          refine lv_topi (nm_r (nI_add ((2100 * n2) + 1200) i) ?_)
          refine lv_aload_n hx hb dX7_save_138 rfl (lv_at hl 0 rfl) ?_
          refine va_get (D := D) (ci := 7) (v := .ref (q 4)) (C := RX7) (T := TX7) (N := 15) hx hb hts (iwX7_save_7) hown hK.1 hP 0 rfl rfl 4 (by decide) (hts (.fieldLink RX7 19 "InverterGraphsModel" "stands" "[I") (by decide +kernel)) (fun _ h9 => h9) rfl dX7_save_139 ?_
          refine lv_iload_n hx hb dX7_save_142 rfl (lv_at hl 2 rfl) ?_
          refine k_iald (D := D) (j := i) hx hb hK.1 hP 4 0 rfl rfl (by omega) (by omega) dX7_save_143 ?_
          refine k_iast (D := D) (j := ((2100 * n2) + 1200) + i) hx hb hK.1 hP hD hS 7 0 rfl rfl (by omega) (by omega) dX7_save_144 (fun H locs hP hD hS => ?_)
          have hP : va_P D vwCl (wN κ q th kc (upd (upd (upd (upd (m_sv1 kc (2100 * n2) c2 i) ((2100 * n2) + i) ((mso kc) i)) (((2100 * n2) + 400) + i) (nI ((mon kc) i))) (((2100 * n2) + 800) + i) (nI ((mtw kc) i))) (((2100 * n2) + 1200) + i) ((mst kc) i)) (n2 + 1) ro kn lv be) H := hP
          have hD : va_D A (wN κ q th kc (upd (upd (upd (upd (m_sv1 kc (2100 * n2) c2 i) ((2100 * n2) + i) ((mso kc) i)) (((2100 * n2) + 400) + i) (nI ((mon kc) i))) (((2100 * n2) + 800) + i) (nI ((mtw kc) i))) (((2100 * n2) + 1200) + i) ((mst kc) i)) (n2 + 1) ro kn lv be) := hD
          refine lv_iinc (v := nI (i + 1)) (lv' := [(2, .int (nI (i + 1))), (0, .ref (q 0)), (1, .int (nI (2100 * n2)))]) hx hb dX7_save_145 hl (k := 2) rfl (nI_1 _) (by decide) rfl (fun ls hl => ?_)
          refine lv_goto (tgt := 70) hx hb dX7_save_148 (by decide) ?_
          exact ih (i + 1) H locs ls (by omega) (by rw [← m_sv1_s _ _ _ (show i < 400 by omega)]; exact hP) (by rw [← m_sv1_s _ _ _ (show i < 400 by omega)]; exact hD) hS (lv_sub hl [1, 2, 0] rfl)
    exact l1 400 0 H locs ls (by omega) (by rw [m_sv1_0]; exact hP) (by rw [m_sv1_0]; exact hD) hS (lv_sub hl [2, 1, 0] rfl)
  refine lv_aload_n hx hb dX7_save_0 rfl (lv_at hl 0 rfl) ?_
  refine va_get (D := D) (ci := 7) (v := .int (nI cn)) (C := RX7) (T := TX7) (N := 15) hx hb hts (iwX7_save_7) hown hK.1 hP 0 rfl rfl 10 (by decide) (hts (.fieldLink RX7 50 "InverterGraphsModel" "copyCount" "I") (by decide +kernel)) (fun _ h9 => h9) rfl dX7_save_1 ?_
  refine lv_bipush (v := 30) hx hb dX7_save_4 (by decide) ?_
  refine lv_icmp_ne (tgt := 49) hx hb dX7_save_6 (by decide) (fun c_6 => ?_) (fun c_6 => ?_)
  · skip
    have c_6 : ¬ (cn = 30) := fun h9 => c_6 ((nI_eq (a := cn) (b := 30) (by omega) (by omega)).mpr h9)
    exact rest cp cn _ _ ls (by omega) (by unfold m_save; rw [if_neg c_6]) hP hD hS (lv_sub hl [0] rfl)
  · skip
    have c_6 : cn = 30 := (nI_eq (a := cn) (b := 30) (by omega) (by omega)).mp c_6
    refine lv_iconst (v := 0) hx hb dX7_save_9 (by decide) ?_
    refine lv_istore_n (lv' := [(1, .int 0), (0, .ref (q 0))]) hx hb dX7_save_10 rfl hl (by decide) rfl (fun ls hl => ?_)
    have ls9 : ∀ (k i : Nat) (H : Heap) (locs : List Loc) (ls : Array Slot), (i + k = 60900) → va_P D vwCl (wN κ q th kc (m_sh cp i) cn ro kn lv be) H → va_D A (wN κ q th kc (m_sh cp i) cn ro kn lv be) → va_S A s.heap H locs → lv_has ls 3 [(0, .ref (q 0)), (1, .int (nI i))] → W p l e (headSpec wsX7_save ({ frames := 0, cells := 0, slots := 0, locals := 0 })).room s m ([.ref (q 0)] : List Value).toArray below meth c H locs 0 0 (MQ below (va_Qv (S := ((Nat → Int32) × Nat)) (fun u => u = m_save kc cp cn) (fun u => k_B D A (wN κ q th kc u.1 u.2 ro 0 lv be)) A) ([.ref (q 0)] : List Value).toArray s 0 0 A) (F0 m 11 ls []) := by
      intro k
      induction k with
      | zero =>
        intro i H locs ls hi hP hD hS hl
        refine lv_iload_n hx hb dX7_save_11 rfl (lv_at hl 1 rfl) ?_
        refine lv_ldc (v := 60900) hx hb hown (hts (.constant RX7 53 (60900)) (by decide +kernel)) dX7_save_12 ?_
        refine lv_icmp_ge (tgt := 39) hx hb dX7_save_14 (by decide) (fun c_14 => ?_) (fun c_14 => ?_)
        · skip
          have c_14 : 60900 ≤ i := (nI_leI (a := 60900) (b := i) (by omega) (by omega)).mp c_14
          have e9 : 60900 = i := by omega
          subst e9
          refine lv_aload_n hx hb dX7_save_39 rfl (lv_at hl 0 rfl) ?_
          refine lv_dup hx hb dX7_save_40 rfl ?_
          refine va_get (D := D) (ci := 7) (v := .int (nI cn)) (C := RX7) (T := TX7) (N := 15) hx hb hts (iwX7_save_7) hown hK.1 hP 0 rfl rfl 10 (by decide) (hts (.fieldLink RX7 50 "InverterGraphsModel" "copyCount" "I") (by decide +kernel)) (fun _ h9 => h9) rfl dX7_save_41 ?_
          refine lv_iconst (v := 1) hx hb dX7_save_44 (by decide) ?_
          refine lv_isub hx hb dX7_save_45 ?_
          refine lv_topi (nm_r (pk_sub (a := cn) (b := 1) (by omega)) ?_)
          refine va_put (D := D) (ci := 7) (v := .int (nI (cn - 1))) (ty := .int) (C := RX7) (T := TX7) (N := 15) hx hb hts (iwX7_save_7) tyX7 tyX7_ok nmX7 hown hK.1 hP hD hS 0 rfl rfl 10 (by decide) (hts (.fieldLink RX7 50 "InverterGraphsModel" "copyCount" "I") (by decide +kernel)) (fun _ h9 => h9) rfl (by decide +kernel) rfl rfl (Nat.le_of_ble_eq_true rfl) dX7_save_46 (fun H locs hP hD hS => ?_)
          have hP : va_P D vwCl (wN κ q th kc (m_sh cp 60900) (cn - 1) ro kn lv be) H := hP
          have hD : va_D A (wN κ q th kc (m_sh cp 60900) (cn - 1) ro kn lv be) := hD
          exact rest (m_sh cp 60900) (cn - 1) H locs ls (by omega) (by unfold m_save; rw [if_pos c_6]; subst c_6; rfl) hP hD hS (lv_sub hl [0] rfl)
        · skip
          have c_14 : ¬ (60900 ≤ i) := fun h9 => c_14 ((nI_leI (a := 60900) (b := i) (by omega) (by omega)).mpr h9)
          exfalso; omega
      | succ k ih =>
        intro i H locs ls hi hP hD hS hl
        refine lv_iload_n hx hb dX7_save_11 rfl (lv_at hl 1 rfl) ?_
        refine lv_ldc (v := 60900) hx hb hown (hts (.constant RX7 53 (60900)) (by decide +kernel)) dX7_save_12 ?_
        refine lv_icmp_ge (tgt := 39) hx hb dX7_save_14 (by decide) (fun c_14 => ?_) (fun c_14 => ?_)
        · skip
          have c_14 : 60900 ≤ i := (nI_leI (a := 60900) (b := i) (by omega) (by omega)).mp c_14
          exfalso; omega
        · skip
          have c_14 : ¬ (60900 ≤ i) := fun h9 => c_14 ((nI_leI (a := 60900) (b := i) (by omega) (by omega)).mpr h9)
          refine lv_aload_n hx hb dX7_save_17 rfl (lv_at hl 0 rfl) ?_
          refine va_get (D := D) (ci := 7) (v := .ref (q 7)) (C := RX7) (T := TX7) (N := 15) hx hb hts (iwX7_save_7) hown hK.1 hP 0 rfl rfl 9 (by decide) (hts (.fieldLink RX7 30 "InverterGraphsModel" "copies" "[I") (by decide +kernel)) (fun _ h9 => h9) rfl dX7_save_18 ?_
          refine lv_iload_n hx hb dX7_save_21 rfl (lv_at hl 1 rfl) ?_
          refine lv_aload_n hx hb dX7_save_22 rfl (lv_at hl 0 rfl) ?_
          refine va_get (D := D) (ci := 7) (v := .ref (q 7)) (C := RX7) (T := TX7) (N := 15) hx hb hts (iwX7_save_7) hown hK.1 hP 0 rfl rfl 9 (by decide) (hts (.fieldLink RX7 30 "InverterGraphsModel" "copies" "[I") (by decide +kernel)) (fun _ h9 => h9) rfl dX7_save_23 ?_
          refine lv_iload_n hx hb dX7_save_26 rfl (lv_at hl 1 rfl) ?_
          refine lv_sipush (v := 2100) hx hb dX7_save_27 (by decide) ?_
          refine lv_iadd hx hb dX7_save_30 ?_
          refine lv_topi (nm_r (nI_add i 2100) ?_)
          refine k_iald (D := D) (j := i + 2100) hx hb hK.1 hP 7 0 rfl rfl (by omega) (by omega) dX7_save_31 ?_
          refine k_iast (D := D) (j := i) hx hb hK.1 hP hD hS 7 0 rfl rfl (by omega) (by omega) dX7_save_32 (fun H locs hP hD hS => ?_)
          have hP : va_P D vwCl (wN κ q th kc (upd (m_sh cp i) i ((m_sh cp i) (i + 2100))) cn ro kn lv be) H := hP
          have hD : va_D A (wN κ q th kc (upd (m_sh cp i) i ((m_sh cp i) (i + 2100))) cn ro kn lv be) := hD
          refine lv_iinc (v := nI (i + 1)) (lv' := [(1, .int (nI (i + 1))), (0, .ref (q 0))]) hx hb dX7_save_33 hl (k := 1) rfl (nI_1 _) (by decide) rfl (fun ls hl => ?_)
          refine lv_goto (tgt := 11) hx hb dX7_save_36 (by decide) ?_
          exact ih (i + 1) H locs ls (by omega) (by rw [← m_sh_s]; exact hP) (by rw [← m_sh_s]; exact hD) hS (lv_sub hl [1, 0] rfl)
    exact ls9 60900 0 _ _ ls (by omega) (by rw [m_sh_0]; exact hP) (by rw [m_sh_0]; exact hD) hS (lv_sub hl [1, 0] rfl)
theorem iwX7_undo_7 : ∀ w ∈ wsX70, w ∈ wsX7_undo := by decide +kernel
set_option maxHeartbeats 4000000 in
set_option maxRecDepth 100000 in
theorem c_X7_undo (l : Launch) (D : va_G) (κ : Nat → ClassId) (sz : Nat) (q : Nat → Nat) (th : Int32) (kc : KC) (cp : Nat → Int32) (cn : Nat) (ro : Nat → Int64) (kn : Int32) (lv be : Nat → Int32) (d : KC) (hnd : mnd kc ≤ 400) (hoc : moc kc ≤ 40) (hcn : cn ≤ 30) (hc9 : 0 < cn) (hsl : ∀ y, y < 1682 → cp (2100 * (cn - 1) + y) = m_slot d y) (hd1 : mnd d ≤ 400) (hd2 : moc d ≤ 40) : k_mui (S := (KC × Nat)) l yX7_undo wsX7_undo 0 0 0 0 D κ [.ref (q 0)] (wN κ q th kc cp cn ro kn lv be) sz (fun r u => r = 1 ∧ u = (m_ld d kc, cn - 1)) (fun u => wN κ q 0 u.1 cp u.2 ro 0 lv be) := by
  refine Met.ofW (cc := cX7_undo) (maxL := 3) (ret := (some .boolean)) (by decide) rfl ?_
  intro p e s m args below meth c s₁ B hml hv
  obtain ⟨rfl, hsz, hK, hP, hD0⟩ := hv
  have hx := B.exec
  have hb := B.bytes
  have hr := B.returns
  have hts := atoms_spec (ws := wsX7_undo) B.pre
  have hown : s.vm.findClass RX7 = some m.cls := findClass_of_methodNamed B.named
  have hlocks := B.notSynchronized
  subst hsz
  have hD := hD0.self (sz := s.heap.size)
  generalize hAe : va_A (wN κ q th kc cp cn ro kn lv be) s.heap.size = A at hD ⊢
  have hA : ∀ q : Nat, s.heap.size ≤ q → A q := fun q h => by rw [← hAe]; exact Or.inr h
  have hS : va_S A s.heap s.heap [] := va_S.rf
  have hP : va_P D vwCl (wN κ q th kc cp cn ro kn lv be) s.heap := hP
  have hl := lv_entry ([.ref (q 0)]) (n := 3) (Nat.le_of_ble_eq_true rfl)
  rw [lg_entry_eq]
  generalize (lg_sl ([.ref (q 0)]) ++ List.replicate (3 - (lg_sl ([.ref (q 0)])).length) Slot.unset).toArray = ls at hl ⊢
  have hl : lv_has ls 3 [(0, .ref (q 0))] := hl
  refine lv_aload_n hx hb dX7_undo_0 rfl (lv_at hl 0 rfl) ?_
  refine lv_iconst (v := 0) hx hb dX7_undo_1 (by decide) ?_
  refine va_put (D := D) (ci := 7) (v := .int 0) (ty := .int) (C := RX7) (T := TX7) (N := 15) hx hb hts (iwX7_undo_7) tyX7 tyX7_ok nmX7 hown hK.1 hP hD hS 0 rfl rfl 0 (by decide) (hts (.fieldLink RX7 47 "InverterGraphsModel" "thrown" "I") (by decide +kernel)) (fun _ h9 => h9) rfl (by decide +kernel) rfl rfl (Nat.le_of_ble_eq_true rfl) dX7_undo_2 (fun H locs hP hD hS => ?_)
  have hP : va_P D vwCl (wN κ q 0 kc cp cn ro kn lv be) H := hP
  have hD : va_D A (wN κ q 0 kc cp cn ro kn lv be) := hD
  refine lv_aload_n hx hb dX7_undo_5 rfl (lv_at hl 0 rfl) ?_
  refine va_get (D := D) (ci := 7) (v := .int (nI cn)) (C := RX7) (T := TX7) (N := 15) hx hb hts (iwX7_undo_7) hown hK.1 hP 0 rfl rfl 10 (by decide) (hts (.fieldLink RX7 50 "InverterGraphsModel" "copyCount" "I") (by decide +kernel)) (fun _ h9 => h9) rfl dX7_undo_6 ?_
  refine lv_if_ne (tgt := 14) hx hb dX7_undo_9 (by decide) (fun c_9 => ?_) (fun c_9 => ?_)
  · skip
    have c_9 : ¬ (cn = 0) := fun h9 => c_9 ((nI_eq (a := cn) (b := 0) (by omega) (by omega)).mpr h9)
    refine lv_aload_n hx hb dX7_undo_14 rfl (lv_at hl 0 rfl) ?_
    refine lv_dup hx hb dX7_undo_15 rfl ?_
    refine va_get (D := D) (ci := 7) (v := .int (nI cn)) (C := RX7) (T := TX7) (N := 15) hx hb hts (iwX7_undo_7) hown hK.1 hP 0 rfl rfl 10 (by decide) (hts (.fieldLink RX7 50 "InverterGraphsModel" "copyCount" "I") (by decide +kernel)) (fun _ h9 => h9) rfl dX7_undo_16 ?_
    refine lv_iconst (v := 1) hx hb dX7_undo_19 (by decide) ?_
    refine lv_isub hx hb dX7_undo_20 ?_
    refine lv_topi (nm_r (pk_sub (a := cn) (b := 1) (by omega)) ?_)
    refine va_put (D := D) (ci := 7) (v := .int (nI (cn - 1))) (ty := .int) (C := RX7) (T := TX7) (N := 15) hx hb hts (iwX7_undo_7) tyX7 tyX7_ok nmX7 hown hK.1 hP hD hS 0 rfl rfl 10 (by decide) (hts (.fieldLink RX7 50 "InverterGraphsModel" "copyCount" "I") (by decide +kernel)) (fun _ h9 => h9) rfl (by decide +kernel) rfl rfl (Nat.le_of_ble_eq_true rfl) dX7_undo_21 (fun H locs hP hD hS => ?_)
    have hP : va_P D vwCl (wN κ q 0 kc cp (cn - 1) ro kn lv be) H := hP
    have hD : va_D A (wN κ q 0 kc cp (cn - 1) ro kn lv be) := hD
    refine lv_sipush (v := 2100) hx hb dX7_undo_24 (by decide) ?_
    refine lv_aload_n hx hb dX7_undo_27 rfl (lv_at hl 0 rfl) ?_
    refine va_get (D := D) (ci := 7) (v := .int (nI (cn - 1))) (C := RX7) (T := TX7) (N := 15) hx hb hts (iwX7_undo_7) hown hK.1 hP 0 rfl rfl 10 (by decide) (hts (.fieldLink RX7 50 "InverterGraphsModel" "copyCount" "I") (by decide +kernel)) (fun _ h9 => h9) rfl dX7_undo_28 ?_
    refine lv_imul hx hb dX7_undo_31 ?_
    refine lv_topi (nm_r (pk_mul 2100 (cn - 1)) ?_)
    refine lv_istore_n (lv' := [(1, .int (nI (2100 * (cn - 1)))), (0, .ref (q 0))]) hx hb dX7_undo_32 rfl hl (by decide) rfl (fun ls hl => ?_)
    refine lv_iconst (v := 0) hx hb dX7_undo_33 (by decide) ?_
    refine lv_istore_n (lv' := [(2, .int 0), (1, .int (nI (2100 * (cn - 1)))), (0, .ref (q 0))]) hx hb dX7_undo_34 rfl hl (by decide) rfl (fun ls hl => ?_)
    have l2 : ∀ (k i : Nat) (H : Heap) (locs : List Loc) (ls : Array Slot), (i + k = 40) → va_P D vwCl (wN κ q 0 (k_cp 400 (mso d) (mso kc), k_cpN 400 (mon d) (mon kc), k_cpN 400 (mtw d) (mtw kc), k_cp 400 (mst d) (mst kc), mnd kc, k_cpN i (mou d) (mou kc), k_cp i (m_bb (mbo d)) (mbo kc), moc kc) cp (cn - 1) ro kn lv be) H → va_D A (wN κ q 0 (k_cp 400 (mso d) (mso kc), k_cpN 400 (mon d) (mon kc), k_cpN 400 (mtw d) (mtw kc), k_cp 400 (mst d) (mst kc), mnd kc, k_cpN i (mou d) (mou kc), k_cp i (m_bb (mbo d)) (mbo kc), moc kc) cp (cn - 1) ro kn lv be) → va_S A s.heap H locs → lv_has ls 3 [(0, .ref (q 0)), (1, .int (nI (2100 * (cn - 1)))), (2, .int (nI i))] → W p l e (headSpec wsX7_undo ({ frames := 0, cells := 0, slots := 0, locals := 0 })).room s m ([.ref (q 0)] : List Value).toArray below meth c H locs 0 0 (MQ below (va_Qi (S := (KC × Nat)) (fun r u => r = 1 ∧ u = (m_ld d kc, cn - 1)) (fun u => k_B D A (wN κ q 0 u.1 cp u.2 ro 0 lv be)) A) ([.ref (q 0)] : List Value).toArray s 0 0 A) (F0 m 118 ls []) := by
      intro k
      induction k with
      | zero =>
        intro i H locs ls hi hP hD hS hl
        refine lv_iload_n hx hb dX7_undo_118 rfl (lv_at hl 2 rfl) ?_
        refine lv_bipush (v := 40) hx hb dX7_undo_119 (by decide) ?_
        refine lv_icmp_ge (tgt := 175) hx hb dX7_undo_121 (by decide) (fun c_121 => ?_) (fun c_121 => ?_)
        · skip
          have c_121 : 40 ≤ i := (nI_leI (a := 40) (b := i) (by omega) (by omega)).mp c_121
          have e9 : 40 = i := by omega
          subst e9
          have hs6 : cp (2100 * (cn - 1) + 1680) = nI (mnd d) := by rw [hsl 1680 (by omega), m_slot_6]
          have hs7 : cp (2100 * (cn - 1) + 1681) = nI (moc d) := by rw [hsl 1681 (by omega), m_slot_7]
          refine lv_aload_n hx hb dX7_undo_175 rfl (lv_at hl 0 rfl) ?_
          refine lv_aload_n hx hb dX7_undo_176 rfl (lv_at hl 0 rfl) ?_
          refine va_get (D := D) (ci := 7) (v := .ref (q 7)) (C := RX7) (T := TX7) (N := 15) hx hb hts (iwX7_undo_7) hown hK.1 hP 0 rfl rfl 9 (by decide) (hts (.fieldLink RX7 30 "InverterGraphsModel" "copies" "[I") (by decide +kernel)) (fun _ h9 => h9) rfl dX7_undo_177 ?_
          refine lv_iload_n hx hb dX7_undo_180 rfl (lv_at hl 1 rfl) ?_
          refine lv_sipush (v := 1680) hx hb dX7_undo_181 (by decide) ?_
          refine lv_iadd hx hb dX7_undo_184 ?_
          refine lv_topi (nm_r (nI_add (2100 * (cn - 1)) 1680) ?_)
          refine k_iald (D := D) (j := (2100 * (cn - 1)) + 1680) hx hb hK.1 hP 7 0 rfl rfl (by omega) (by omega) dX7_undo_185 ?_
          refine lv_topi (nm_r (hs6) ?_)
          refine va_put (D := D) (ci := 7) (v := .int (nI (mnd d))) (ty := .int) (C := RX7) (T := TX7) (N := 15) hx hb hts (iwX7_undo_7) tyX7 tyX7_ok nmX7 hown hK.1 hP hD hS 0 rfl rfl 5 (by decide) (hts (.fieldLink RX7 43 "InverterGraphsModel" "nodes" "I") (by decide +kernel)) (fun _ h9 => h9) rfl (by decide +kernel) rfl rfl (Nat.le_of_ble_eq_true rfl) dX7_undo_186 (fun H locs hP hD hS => ?_)
          have hP : va_P D vwCl (wN κ q 0 (k_cp 400 (mso d) (mso kc), k_cpN 400 (mon d) (mon kc), k_cpN 400 (mtw d) (mtw kc), k_cp 400 (mst d) (mst kc), mnd d, k_cpN 40 (mou d) (mou kc), k_cp 40 (m_bb (mbo d)) (mbo kc), moc kc) cp (cn - 1) ro kn lv be) H := hP
          have hD : va_D A (wN κ q 0 (k_cp 400 (mso d) (mso kc), k_cpN 400 (mon d) (mon kc), k_cpN 400 (mtw d) (mtw kc), k_cp 400 (mst d) (mst kc), mnd d, k_cpN 40 (mou d) (mou kc), k_cp 40 (m_bb (mbo d)) (mbo kc), moc kc) cp (cn - 1) ro kn lv be) := hD
          refine lv_aload_n hx hb dX7_undo_189 rfl (lv_at hl 0 rfl) ?_
          refine lv_aload_n hx hb dX7_undo_190 rfl (lv_at hl 0 rfl) ?_
          refine va_get (D := D) (ci := 7) (v := .ref (q 7)) (C := RX7) (T := TX7) (N := 15) hx hb hts (iwX7_undo_7) hown hK.1 hP 0 rfl rfl 9 (by decide) (hts (.fieldLink RX7 30 "InverterGraphsModel" "copies" "[I") (by decide +kernel)) (fun _ h9 => h9) rfl dX7_undo_191 ?_
          refine lv_iload_n hx hb dX7_undo_194 rfl (lv_at hl 1 rfl) ?_
          refine lv_sipush (v := 1681) hx hb dX7_undo_195 (by decide) ?_
          refine lv_iadd hx hb dX7_undo_198 ?_
          refine lv_topi (nm_r (nI_add (2100 * (cn - 1)) 1681) ?_)
          refine k_iald (D := D) (j := (2100 * (cn - 1)) + 1681) hx hb hK.1 hP 7 0 rfl rfl (by omega) (by omega) dX7_undo_199 ?_
          refine lv_topi (nm_r (hs7) ?_)
          refine va_put (D := D) (ci := 7) (v := .int (nI (moc d))) (ty := .int) (C := RX7) (T := TX7) (N := 15) hx hb hts (iwX7_undo_7) tyX7 tyX7_ok nmX7 hown hK.1 hP hD hS 0 rfl rfl 8 (by decide) (hts (.fieldLink RX7 54 "InverterGraphsModel" "outputCount" "I") (by decide +kernel)) (fun _ h9 => h9) rfl (by decide +kernel) rfl rfl (Nat.le_of_ble_eq_true rfl) dX7_undo_200 (fun H locs hP hD hS => ?_)
          have hP : va_P D vwCl (wN κ q 0 (k_cp 400 (mso d) (mso kc), k_cpN 400 (mon d) (mon kc), k_cpN 400 (mtw d) (mtw kc), k_cp 400 (mst d) (mst kc), mnd d, k_cpN 40 (mou d) (mou kc), k_cp 40 (m_bb (mbo d)) (mbo kc), moc d) cp (cn - 1) ro kn lv be) H := hP
          have hD : va_D A (wN κ q 0 (k_cp 400 (mso d) (mso kc), k_cpN 400 (mon d) (mon kc), k_cpN 400 (mtw d) (mtw kc), k_cp 400 (mst d) (mst kc), mnd d, k_cpN 40 (mou d) (mou kc), k_cp 40 (m_bb (mbo d)) (mbo kc), moc d) cp (cn - 1) ro kn lv be) := hD
          refine lv_aload_n hx hb dX7_undo_203 rfl (lv_at hl 0 rfl) ?_
          refine lv_iconst (v := 0) hx hb dX7_undo_204 (by decide) ?_
          refine va_put (D := D) (ci := 7) (v := .int 0) (ty := .boolean) (C := RX7) (T := TX7) (N := 15) hx hb hts (iwX7_undo_7) tyX7 tyX7_ok nmX7 hown hK.1 hP hD hS 0 rfl rfl 12 (by decide) (hts (.fieldLink RX7 57 "InverterGraphsModel" "known" "Z") (by decide +kernel)) (fun _ h9 => h9) rfl (by decide +kernel) rfl rfl (Nat.le_of_ble_eq_true rfl) dX7_undo_205 (fun H locs hP hD hS => ?_)
          have hP : va_P D vwCl (wN κ q 0 (k_cp 400 (mso d) (mso kc), k_cpN 400 (mon d) (mon kc), k_cpN 400 (mtw d) (mtw kc), k_cp 400 (mst d) (mst kc), mnd d, k_cpN 40 (mou d) (mou kc), k_cp 40 (m_bb (mbo d)) (mbo kc), moc d) cp (cn - 1) ro 0 lv be) H := hP
          have hD : va_D A (wN κ q 0 (k_cp 400 (mso d) (mso kc), k_cpN 400 (mon d) (mon kc), k_cpN 400 (mtw d) (mtw kc), k_cp 400 (mst d) (mst kc), mnd d, k_cpN 40 (mou d) (mou kc), k_cp 40 (m_bb (mbo d)) (mbo kc), moc d) cp (cn - 1) ro 0 lv be) := hD
          refine lv_iconst (v := 1) hx hb dX7_undo_208 (by decide) ?_
          exact W.zret (ty := .boolean) (v := 1) hx hb hr rfl (fun t ht hW => ⟨⟨1, (m_ld d kc, cn - 1), rfl, ⟨rfl, rfl⟩, by rw [ht]; exact hP, hD⟩, hS.F ht⟩) hS.2.2 dX7_undo_209
        · skip
          have c_121 : ¬ (40 ≤ i) := fun h9 => c_121 ((nI_leI (a := 40) (b := i) (by omega) (by omega)).mpr h9)
          exfalso; omega
      | succ k ih =>
        intro i H locs ls hi hP hD hS hl
        refine lv_iload_n hx hb dX7_undo_118 rfl (lv_at hl 2 rfl) ?_
        refine lv_bipush (v := 40) hx hb dX7_undo_119 (by decide) ?_
        refine lv_icmp_ge (tgt := 175) hx hb dX7_undo_121 (by decide) (fun c_121 => ?_) (fun c_121 => ?_)
        · skip
          have c_121 : 40 ≤ i := (nI_leI (a := 40) (b := i) (by omega) (by omega)).mp c_121
          exfalso; omega
        · skip
          have c_121 : ¬ (40 ≤ i) := fun h9 => c_121 ((nI_leI (a := 40) (b := i) (by omega) (by omega)).mpr h9)
          have hs4 : cp (2100 * (cn - 1) + 1600 + i) = nI (mou d i) := by rw [show 2100 * (cn - 1) + 1600 + i = 2100 * (cn - 1) + (1600 + i) by omega, hsl (1600 + i) (by omega), m_slot_4 d (by omega)]
          have hs5 : cp (2100 * (cn - 1) + 1640 + i) = (if mbo d i = 0 then 0 else 1) := by rw [show 2100 * (cn - 1) + 1640 + i = 2100 * (cn - 1) + (1640 + i) by omega, hsl (1640 + i) (by omega), m_slot_5 d (by omega)]
          refine lv_aload_n hx hb dX7_undo_124 rfl (lv_at hl 0 rfl) ?_
          refine va_get (D := D) (ci := 7) (v := .ref (q 5)) (C := RX7) (T := TX7) (N := 15) hx hb hts (iwX7_undo_7) hown hK.1 hP 0 rfl rfl 6 (by decide) (hts (.fieldLink RX7 22 "InverterGraphsModel" "outputs" "[I") (by decide +kernel)) (fun _ h9 => h9) rfl dX7_undo_125 ?_
          refine lv_iload_n hx hb dX7_undo_128 rfl (lv_at hl 2 rfl) ?_
          refine lv_aload_n hx hb dX7_undo_129 rfl (lv_at hl 0 rfl) ?_
          refine va_get (D := D) (ci := 7) (v := .ref (q 7)) (C := RX7) (T := TX7) (N := 15) hx hb hts (iwX7_undo_7) hown hK.1 hP 0 rfl rfl 9 (by decide) (hts (.fieldLink RX7 30 "InverterGraphsModel" "copies" "[I") (by decide +kernel)) (fun _ h9 => h9) rfl dX7_undo_130 ?_
          refine lv_iload_n hx hb dX7_undo_133 rfl (lv_at hl 1 rfl) ?_
          refine lv_sipush (v := 1600) hx hb dX7_undo_134 (by decide) ?_
          refine lv_iadd hx hb dX7_undo_137 ?_
          refine lv_topi (nm_r (nI_add (2100 * (cn - 1)) 1600) ?_)
          refine lv_iload_n hx hb dX7_undo_138 rfl (lv_at hl 2 rfl) ?_
          refine lv_iadd hx hb dX7_undo_139 ?_
          refine lv_topi (nm_r (nI_add ((2100 * (cn - 1)) + 1600) i) ?_)
          refine k_iald (D := D) (j := ((2100 * (cn - 1)) + 1600) + i) hx hb hK.1 hP 7 0 rfl rfl (by omega) (by omega) dX7_undo_140 ?_
          refine lv_topi (nm_r (hs4) ?_)
          refine k_iastN (D := D) (j := i) (x := mou d i) hx hb hK.1 hP hD hS 5 0 rfl rfl (by omega) (by omega) dX7_undo_141 (fun H locs hP hD hS => ?_)
          have hP : va_P D vwCl (wN κ q 0 (k_cp 400 (mso d) (mso kc), k_cpN 400 (mon d) (mon kc), k_cpN 400 (mtw d) (mtw kc), k_cp 400 (mst d) (mst kc), mnd kc, k_un (k_cpN i (mou d) (mou kc)) i (mou d i), k_cp i (m_bb (mbo d)) (mbo kc), moc kc) cp (cn - 1) ro kn lv be) H := hP
          have hD : va_D A (wN κ q 0 (k_cp 400 (mso d) (mso kc), k_cpN 400 (mon d) (mon kc), k_cpN 400 (mtw d) (mtw kc), k_cp 400 (mst d) (mst kc), mnd kc, k_un (k_cpN i (mou d) (mou kc)) i (mou d i), k_cp i (m_bb (mbo d)) (mbo kc), moc kc) cp (cn - 1) ro kn lv be) := hD
          refine lv_aload_n hx hb dX7_undo_142 rfl (lv_at hl 0 rfl) ?_
          refine va_get (D := D) (ci := 7) (v := .ref (q 6)) (C := RX7) (T := TX7) (N := 15) hx hb hts (iwX7_undo_7) hown hK.1 hP 0 rfl rfl 7 (by decide) (hts (.fieldLink RX7 25 "InverterGraphsModel" "boxed" "[Z") (by decide +kernel)) (fun _ h9 => h9) rfl dX7_undo_143 ?_
          refine lv_iload_n hx hb dX7_undo_146 rfl (lv_at hl 2 rfl) ?_
          refine lv_aload_n hx hb dX7_undo_147 rfl (lv_at hl 0 rfl) ?_
          refine va_get (D := D) (ci := 7) (v := .ref (q 7)) (C := RX7) (T := TX7) (N := 15) hx hb hts (iwX7_undo_7) hown hK.1 hP 0 rfl rfl 9 (by decide) (hts (.fieldLink RX7 30 "InverterGraphsModel" "copies" "[I") (by decide +kernel)) (fun _ h9 => h9) rfl dX7_undo_148 ?_
          refine lv_iload_n hx hb dX7_undo_151 rfl (lv_at hl 1 rfl) ?_
          refine lv_sipush (v := 1640) hx hb dX7_undo_152 (by decide) ?_
          refine lv_iadd hx hb dX7_undo_155 ?_
          refine lv_topi (nm_r (nI_add (2100 * (cn - 1)) 1640) ?_)
          refine lv_iload_n hx hb dX7_undo_156 rfl (lv_at hl 2 rfl) ?_
          refine lv_iadd hx hb dX7_undo_157 ?_
          refine lv_topi (nm_r (nI_add ((2100 * (cn - 1)) + 1640) i) ?_)
          refine k_iald (D := D) (j := ((2100 * (cn - 1)) + 1640) + i) hx hb hK.1 hP 7 0 rfl rfl (by omega) (by omega) dX7_undo_158 ?_
          refine lv_topi (nm_r (hs5) ?_)
          refine lv_iconst (v := 1) hx hb dX7_undo_159 (by decide) ?_
          have J_160 : ∀ z : Int32, z = (if (if mbo d i = 0 then (0 : Int32) else 1) = 1 then 1 else 0) → W p l e (headSpec wsX7_undo ({ frames := 0, cells := 0, slots := 0, locals := 0 })).room s m ([.ref (q 0)] : List Value).toArray below meth c H locs 0 0 (MQ below (va_Qi (S := (KC × Nat)) (fun r u => r = 1 ∧ u = (m_ld d kc, cn - 1)) (fun u => k_B D A (wN κ q 0 u.1 cp u.2 ro 0 lv be)) A) ([.ref (q 0)] : List Value).toArray s 0 0 A) (F0 m 168 ls [.int z, .int (nI i), .ref (q 6)]) := by
            intro z ez
            subst ez
            refine k_zast (D := D) (j := i) hx hb hK.1 hP hD hS 6 2 rfl rfl (by omega) (by omega) ((by repeat (first | rfl | split))) dX7_undo_168 (fun H locs hP hD hS => ?_)
            have hP : va_P D vwCl (wN κ q 0 (k_cp 400 (mso d) (mso kc), k_cpN 400 (mon d) (mon kc), k_cpN 400 (mtw d) (mtw kc), k_cp 400 (mst d) (mst kc), mnd kc, k_un (k_cpN i (mou d) (mou kc)) i (mou d i), upd (k_cp i (m_bb (mbo d)) (mbo kc)) i (if (if mbo d i = 0 then (0 : Int32) else 1) = 1 then 1 else 0), moc kc) cp (cn - 1) ro kn lv be) H := hP
            have hD : va_D A (wN κ q 0 (k_cp 400 (mso d) (mso kc), k_cpN 400 (mon d) (mon kc), k_cpN 400 (mtw d) (mtw kc), k_cp 400 (mst d) (mst kc), mnd kc, k_un (k_cpN i (mou d) (mou kc)) i (mou d i), upd (k_cp i (m_bb (mbo d)) (mbo kc)) i (if (if mbo d i = 0 then (0 : Int32) else 1) = 1 then 1 else 0), moc kc) cp (cn - 1) ro kn lv be) := hD
            refine lv_iinc (v := nI (i + 1)) (lv' := [(2, .int (nI (i + 1))), (0, .ref (q 0)), (1, .int (nI (2100 * (cn - 1))))]) hx hb dX7_undo_169 hl (k := 2) rfl (nI_1 _) (by decide) rfl (fun ls hl => ?_)
            refine lv_goto (tgt := 118) hx hb dX7_undo_172 (by decide) ?_
            exact ih (i + 1) H locs ls (by omega) (by rw [← k_cpN_s (mou d) (mou kc) i, ← k_cp_s (m_bb (mbo d)) (mbo kc) i]; exact hP) (by rw [← k_cpN_s (mou d) (mou kc) i, ← k_cp_s (m_bb (mbo d)) (mbo kc) i]; exact hD) hS (lv_sub hl [1, 2, 0] rfl)
          refine lv_icmp_ne (tgt := 167) hx hb dX7_undo_160 (by decide) (fun c_160 => ?_) (fun c_160 => ?_)
          · skip
            refine lv_iconst (v := 0) hx hb dX7_undo_167 (by decide) ?_
            exact J_160 _ (by rw [if_neg c_160])
          · skip
            refine lv_iconst (v := 1) hx hb dX7_undo_163 (by decide) ?_
            refine lv_goto (tgt := 168) hx hb dX7_undo_164 (by decide) ?_
            exact J_160 _ (by rw [if_pos c_160])
    have l1 : ∀ (k i : Nat) (H : Heap) (locs : List Loc) (ls : Array Slot), (i + k = 400) → va_P D vwCl (wN κ q 0 (k_cp i (mso d) (mso kc), k_cpN i (mon d) (mon kc), k_cpN i (mtw d) (mtw kc), k_cp i (mst d) (mst kc), mnd kc, mou kc, mbo kc, moc kc) cp (cn - 1) ro kn lv be) H → va_D A (wN κ q 0 (k_cp i (mso d) (mso kc), k_cpN i (mon d) (mon kc), k_cpN i (mtw d) (mtw kc), k_cp i (mst d) (mst kc), mnd kc, mou kc, mbo kc, moc kc) cp (cn - 1) ro kn lv be) → va_S A s.heap H locs → lv_has ls 3 [(0, .ref (q 0)), (1, .int (nI (2100 * (cn - 1)))), (2, .int (nI i))] → W p l e (headSpec wsX7_undo ({ frames := 0, cells := 0, slots := 0, locals := 0 })).room s m ([.ref (q 0)] : List Value).toArray below meth c H locs 0 0 (MQ below (va_Qi (S := (KC × Nat)) (fun r u => r = 1 ∧ u = (m_ld d kc, cn - 1)) (fun u => k_B D A (wN κ q 0 u.1 cp u.2 ro 0 lv be)) A) ([.ref (q 0)] : List Value).toArray s 0 0 A) (F0 m 35 ls []) := by
      intro k
      induction k with
      | zero =>
        intro i H locs ls hi hP hD hS hl
        refine lv_iload_n hx hb dX7_undo_35 rfl (lv_at hl 2 rfl) ?_
        refine lv_sipush (v := 400) hx hb dX7_undo_36 (by decide) ?_
        refine lv_icmp_ge (tgt := 116) hx hb dX7_undo_39 (by decide) (fun c_39 => ?_) (fun c_39 => ?_)
        · skip
          have c_39 : 400 ≤ i := (nI_leI (a := 400) (b := i) (by omega) (by omega)).mp c_39
          have e9 : 400 = i := by omega
          subst e9
          refine lv_iconst (v := 0) hx hb dX7_undo_116 (by decide) ?_
          refine lv_istore_n (lv' := [(2, .int 0), (0, .ref (q 0)), (1, .int (nI (2100 * (cn - 1))))]) hx hb dX7_undo_117 rfl hl (by decide) rfl (fun ls hl => ?_)
          exact l2 40 0 H locs ls (by omega) (by rw [k_cpN_0, k_cp_0]; exact hP) (by rw [k_cpN_0, k_cp_0]; exact hD) hS (lv_sub hl [1, 2, 0] rfl)
        · skip
          have c_39 : ¬ (400 ≤ i) := fun h9 => c_39 ((nI_leI (a := 400) (b := i) (by omega) (by omega)).mpr h9)
          exfalso; omega
      | succ k ih =>
        intro i H locs ls hi hP hD hS hl
        refine lv_iload_n hx hb dX7_undo_35 rfl (lv_at hl 2 rfl) ?_
        refine lv_sipush (v := 400) hx hb dX7_undo_36 (by decide) ?_
        refine lv_icmp_ge (tgt := 116) hx hb dX7_undo_39 (by decide) (fun c_39 => ?_) (fun c_39 => ?_)
        · skip
          have c_39 : 400 ≤ i := (nI_leI (a := 400) (b := i) (by omega) (by omega)).mp c_39
          exfalso; omega
        · skip
          have c_39 : ¬ (400 ≤ i) := fun h9 => c_39 ((nI_leI (a := 400) (b := i) (by omega) (by omega)).mpr h9)
          have hs0 : cp (2100 * (cn - 1) + i) = mso d i := by rw [hsl i (by omega), m_slot_0 d (by omega)]
          have hs1 : cp (2100 * (cn - 1) + 400 + i) = nI (mon d i) := by rw [show 2100 * (cn - 1) + 400 + i = 2100 * (cn - 1) + (400 + i) by omega, hsl (400 + i) (by omega), m_slot_1 d (by omega)]
          have hs2 : cp (2100 * (cn - 1) + 800 + i) = nI (mtw d i) := by rw [show 2100 * (cn - 1) + 800 + i = 2100 * (cn - 1) + (800 + i) by omega, hsl (800 + i) (by omega), m_slot_2 d (by omega)]
          have hs3 : cp (2100 * (cn - 1) + 1200 + i) = mst d i := by rw [show 2100 * (cn - 1) + 1200 + i = 2100 * (cn - 1) + (1200 + i) by omega, hsl (1200 + i) (by omega), m_slot_3 d (by omega)]
          refine lv_aload_n hx hb dX7_undo_42 rfl (lv_at hl 0 rfl) ?_
          refine va_get (D := D) (ci := 7) (v := .ref (q 1)) (C := RX7) (T := TX7) (N := 15) hx hb hts (iwX7_undo_7) hown hK.1 hP 0 rfl rfl 1 (by decide) (hts (.fieldLink RX7 7 "InverterGraphsModel" "sorts" "[I") (by decide +kernel)) (fun _ h9 => h9) rfl dX7_undo_43 ?_
          refine lv_iload_n hx hb dX7_undo_46 rfl (lv_at hl 2 rfl) ?_
          refine lv_aload_n hx hb dX7_undo_47 rfl (lv_at hl 0 rfl) ?_
          refine va_get (D := D) (ci := 7) (v := .ref (q 7)) (C := RX7) (T := TX7) (N := 15) hx hb hts (iwX7_undo_7) hown hK.1 hP 0 rfl rfl 9 (by decide) (hts (.fieldLink RX7 30 "InverterGraphsModel" "copies" "[I") (by decide +kernel)) (fun _ h9 => h9) rfl dX7_undo_48 ?_
          refine lv_iload_n hx hb dX7_undo_51 rfl (lv_at hl 1 rfl) ?_
          refine lv_iload_n hx hb dX7_undo_52 rfl (lv_at hl 2 rfl) ?_
          refine lv_iadd hx hb dX7_undo_53 ?_
          refine lv_topi (nm_r (nI_add (2100 * (cn - 1)) i) ?_)
          refine k_iald (D := D) (j := (2100 * (cn - 1)) + i) hx hb hK.1 hP 7 0 rfl rfl (by omega) (by omega) dX7_undo_54 ?_
          refine lv_topi (nm_r (hs0) ?_)
          refine k_iast (D := D) (j := i) hx hb hK.1 hP hD hS 1 0 rfl rfl (by omega) (by omega) dX7_undo_55 (fun H locs hP hD hS => ?_)
          have hP : va_P D vwCl (wN κ q 0 (upd (k_cp i (mso d) (mso kc)) i (mso d i), k_cpN i (mon d) (mon kc), k_cpN i (mtw d) (mtw kc), k_cp i (mst d) (mst kc), mnd kc, mou kc, mbo kc, moc kc) cp (cn - 1) ro kn lv be) H := hP
          have hD : va_D A (wN κ q 0 (upd (k_cp i (mso d) (mso kc)) i (mso d i), k_cpN i (mon d) (mon kc), k_cpN i (mtw d) (mtw kc), k_cp i (mst d) (mst kc), mnd kc, mou kc, mbo kc, moc kc) cp (cn - 1) ro kn lv be) := hD
          refine lv_aload_n hx hb dX7_undo_56 rfl (lv_at hl 0 rfl) ?_
          refine va_get (D := D) (ci := 7) (v := .ref (q 2)) (C := RX7) (T := TX7) (N := 15) hx hb hts (iwX7_undo_7) hown hK.1 hP 0 rfl rfl 2 (by decide) (hts (.fieldLink RX7 13 "InverterGraphsModel" "ones" "[I") (by decide +kernel)) (fun _ h9 => h9) rfl dX7_undo_57 ?_
          refine lv_iload_n hx hb dX7_undo_60 rfl (lv_at hl 2 rfl) ?_
          refine lv_aload_n hx hb dX7_undo_61 rfl (lv_at hl 0 rfl) ?_
          refine va_get (D := D) (ci := 7) (v := .ref (q 7)) (C := RX7) (T := TX7) (N := 15) hx hb hts (iwX7_undo_7) hown hK.1 hP 0 rfl rfl 9 (by decide) (hts (.fieldLink RX7 30 "InverterGraphsModel" "copies" "[I") (by decide +kernel)) (fun _ h9 => h9) rfl dX7_undo_62 ?_
          refine lv_iload_n hx hb dX7_undo_65 rfl (lv_at hl 1 rfl) ?_
          refine lv_sipush (v := 400) hx hb dX7_undo_66 (by decide) ?_
          refine lv_iadd hx hb dX7_undo_69 ?_
          refine lv_topi (nm_r (nI_add (2100 * (cn - 1)) 400) ?_)
          refine lv_iload_n hx hb dX7_undo_70 rfl (lv_at hl 2 rfl) ?_
          refine lv_iadd hx hb dX7_undo_71 ?_
          refine lv_topi (nm_r (nI_add ((2100 * (cn - 1)) + 400) i) ?_)
          refine k_iald (D := D) (j := ((2100 * (cn - 1)) + 400) + i) hx hb hK.1 hP 7 0 rfl rfl (by omega) (by omega) dX7_undo_72 ?_
          refine lv_topi (nm_r (hs1) ?_)
          refine k_iastN (D := D) (j := i) (x := mon d i) hx hb hK.1 hP hD hS 2 0 rfl rfl (by omega) (by omega) dX7_undo_73 (fun H locs hP hD hS => ?_)
          have hP : va_P D vwCl (wN κ q 0 (upd (k_cp i (mso d) (mso kc)) i (mso d i), k_un (k_cpN i (mon d) (mon kc)) i (mon d i), k_cpN i (mtw d) (mtw kc), k_cp i (mst d) (mst kc), mnd kc, mou kc, mbo kc, moc kc) cp (cn - 1) ro kn lv be) H := hP
          have hD : va_D A (wN κ q 0 (upd (k_cp i (mso d) (mso kc)) i (mso d i), k_un (k_cpN i (mon d) (mon kc)) i (mon d i), k_cpN i (mtw d) (mtw kc), k_cp i (mst d) (mst kc), mnd kc, mou kc, mbo kc, moc kc) cp (cn - 1) ro kn lv be) := hD
          refine lv_aload_n hx hb dX7_undo_74 rfl (lv_at hl 0 rfl) ?_
          refine va_get (D := D) (ci := 7) (v := .ref (q 3)) (C := RX7) (T := TX7) (N := 15) hx hb hts (iwX7_undo_7) hown hK.1 hP 0 rfl rfl 3 (by decide) (hts (.fieldLink RX7 16 "InverterGraphsModel" "twos" "[I") (by decide +kernel)) (fun _ h9 => h9) rfl dX7_undo_75 ?_
          refine lv_iload_n hx hb dX7_undo_78 rfl (lv_at hl 2 rfl) ?_
          refine lv_aload_n hx hb dX7_undo_79 rfl (lv_at hl 0 rfl) ?_
          refine va_get (D := D) (ci := 7) (v := .ref (q 7)) (C := RX7) (T := TX7) (N := 15) hx hb hts (iwX7_undo_7) hown hK.1 hP 0 rfl rfl 9 (by decide) (hts (.fieldLink RX7 30 "InverterGraphsModel" "copies" "[I") (by decide +kernel)) (fun _ h9 => h9) rfl dX7_undo_80 ?_
          refine lv_iload_n hx hb dX7_undo_83 rfl (lv_at hl 1 rfl) ?_
          refine lv_sipush (v := 800) hx hb dX7_undo_84 (by decide) ?_
          refine lv_iadd hx hb dX7_undo_87 ?_
          refine lv_topi (nm_r (nI_add (2100 * (cn - 1)) 800) ?_)
          refine lv_iload_n hx hb dX7_undo_88 rfl (lv_at hl 2 rfl) ?_
          refine lv_iadd hx hb dX7_undo_89 ?_
          refine lv_topi (nm_r (nI_add ((2100 * (cn - 1)) + 800) i) ?_)
          refine k_iald (D := D) (j := ((2100 * (cn - 1)) + 800) + i) hx hb hK.1 hP 7 0 rfl rfl (by omega) (by omega) dX7_undo_90 ?_
          refine lv_topi (nm_r (hs2) ?_)
          refine k_iastN (D := D) (j := i) (x := mtw d i) hx hb hK.1 hP hD hS 3 0 rfl rfl (by omega) (by omega) dX7_undo_91 (fun H locs hP hD hS => ?_)
          have hP : va_P D vwCl (wN κ q 0 (upd (k_cp i (mso d) (mso kc)) i (mso d i), k_un (k_cpN i (mon d) (mon kc)) i (mon d i), k_un (k_cpN i (mtw d) (mtw kc)) i (mtw d i), k_cp i (mst d) (mst kc), mnd kc, mou kc, mbo kc, moc kc) cp (cn - 1) ro kn lv be) H := hP
          have hD : va_D A (wN κ q 0 (upd (k_cp i (mso d) (mso kc)) i (mso d i), k_un (k_cpN i (mon d) (mon kc)) i (mon d i), k_un (k_cpN i (mtw d) (mtw kc)) i (mtw d i), k_cp i (mst d) (mst kc), mnd kc, mou kc, mbo kc, moc kc) cp (cn - 1) ro kn lv be) := hD
          refine lv_aload_n hx hb dX7_undo_92 rfl (lv_at hl 0 rfl) ?_
          refine va_get (D := D) (ci := 7) (v := .ref (q 4)) (C := RX7) (T := TX7) (N := 15) hx hb hts (iwX7_undo_7) hown hK.1 hP 0 rfl rfl 4 (by decide) (hts (.fieldLink RX7 19 "InverterGraphsModel" "stands" "[I") (by decide +kernel)) (fun _ h9 => h9) rfl dX7_undo_93 ?_
          refine lv_iload_n hx hb dX7_undo_96 rfl (lv_at hl 2 rfl) ?_
          refine lv_aload_n hx hb dX7_undo_97 rfl (lv_at hl 0 rfl) ?_
          refine va_get (D := D) (ci := 7) (v := .ref (q 7)) (C := RX7) (T := TX7) (N := 15) hx hb hts (iwX7_undo_7) hown hK.1 hP 0 rfl rfl 9 (by decide) (hts (.fieldLink RX7 30 "InverterGraphsModel" "copies" "[I") (by decide +kernel)) (fun _ h9 => h9) rfl dX7_undo_98 ?_
          refine lv_iload_n hx hb dX7_undo_101 rfl (lv_at hl 1 rfl) ?_
          refine lv_sipush (v := 1200) hx hb dX7_undo_102 (by decide) ?_
          refine lv_iadd hx hb dX7_undo_105 ?_
          refine lv_topi (nm_r (nI_add (2100 * (cn - 1)) 1200) ?_)
          refine lv_iload_n hx hb dX7_undo_106 rfl (lv_at hl 2 rfl) ?_
          refine lv_iadd hx hb dX7_undo_107 ?_
          refine lv_topi (nm_r (nI_add ((2100 * (cn - 1)) + 1200) i) ?_)
          refine k_iald (D := D) (j := ((2100 * (cn - 1)) + 1200) + i) hx hb hK.1 hP 7 0 rfl rfl (by omega) (by omega) dX7_undo_108 ?_
          refine lv_topi (nm_r (hs3) ?_)
          refine k_iast (D := D) (j := i) hx hb hK.1 hP hD hS 4 0 rfl rfl (by omega) (by omega) dX7_undo_109 (fun H locs hP hD hS => ?_)
          have hP : va_P D vwCl (wN κ q 0 (upd (k_cp i (mso d) (mso kc)) i (mso d i), k_un (k_cpN i (mon d) (mon kc)) i (mon d i), k_un (k_cpN i (mtw d) (mtw kc)) i (mtw d i), upd (k_cp i (mst d) (mst kc)) i (mst d i), mnd kc, mou kc, mbo kc, moc kc) cp (cn - 1) ro kn lv be) H := hP
          have hD : va_D A (wN κ q 0 (upd (k_cp i (mso d) (mso kc)) i (mso d i), k_un (k_cpN i (mon d) (mon kc)) i (mon d i), k_un (k_cpN i (mtw d) (mtw kc)) i (mtw d i), upd (k_cp i (mst d) (mst kc)) i (mst d i), mnd kc, mou kc, mbo kc, moc kc) cp (cn - 1) ro kn lv be) := hD
          refine lv_iinc (v := nI (i + 1)) (lv' := [(2, .int (nI (i + 1))), (0, .ref (q 0)), (1, .int (nI (2100 * (cn - 1))))]) hx hb dX7_undo_110 hl (k := 2) rfl (nI_1 _) (by decide) rfl (fun ls hl => ?_)
          refine lv_goto (tgt := 35) hx hb dX7_undo_113 (by decide) ?_
          exact ih (i + 1) H locs ls (by omega) (by rw [← k_cp_s, ← k_cpN_s, ← k_cpN_s, ← k_cp_s]; exact hP) (by rw [← k_cp_s, ← k_cpN_s, ← k_cpN_s, ← k_cp_s]; exact hD) hS (lv_sub hl [1, 2, 0] rfl)
    exact l1 400 0 H locs ls (by omega) (by rw [k_cp_0, k_cpN_0, k_cpN_0, k_cp_0]; exact hP) (by rw [k_cp_0, k_cpN_0, k_cpN_0, k_cp_0]; exact hD) hS (lv_sub hl [2, 1, 0] rfl)
  · skip
    have c_9 : cn = 0 := (nI_eq (a := cn) (b := 0) (by omega) (by omega)).mp c_9
    exfalso; omega
