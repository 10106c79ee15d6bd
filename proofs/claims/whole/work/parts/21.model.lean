/-! THE REFERENCE, second: stand-ins, sweeps, copies -/
theorem m_st_lt (c : KC) : ∀ (k a : Nat), m_stF c k a → m_st c k a < 2 * mnd c := by
  intro k
  induction k with
  | zero => intro a h; rw [m_st]; exact h.1
  | succ k ih =>
    intro a h
    rw [m_st]
    obtain ⟨h1, h2⟩ := h
    split
    · rename_i h5
      split
      · exact h1
      · rename_i h6
        rcases h2 with h2 | ⟨-, h2⟩
        · exact absurd h2 (fun h => h.elim (fun q => q h5) (fun q => h6 q))
        · exact ih _ h2
    · exact h1
def m_chA (K : Nat) (c : KC) (n : Nat) : Nat := m_st c K (mon c n)
def m_chB (K : Nat) (c : KC) (n : Nat) : Nat := m_st c K (mtw c n)
def m_chL (K : Nat) (c : KC) (n : Nat) : Int32 := m_simple c (m_chA K c n) (m_chB K c n) (nI n)
def m_ch1 (K : Nat) (c : KC) (n : Nat) : KC := (mso c, k_un (mon c) n (if m_chB K c n ≤ m_chA K c n then m_chB K c n else m_chA K c n), k_un (mtw c) n (if m_chB K c n ≤ m_chA K c n then m_chA K c n else m_chB K c n), mst c, mnd c, mou c, mbo c, moc c)
def m_change (K : Nat) (n : Nat) (c : KC) : KC := if m_chL K c n < 0 then m_ch1 K c n else m_leave n (m_chL K c n) (m_ch1 K c n)
/-- one sweep down the ands -/
def m_cwS (c : KC) (i : Nat) (x : Int32 × (Nat → Int32)) : Int32 × (Nat → Int32) :=
  if x.2 i = 0 then x else if mso c i = 2 then (if x.2 (mon c i / 2) = 0 then (1, upd (upd x.2 (mon c i / 2) 1) (mtw c i / 2) 1) else if x.2 (mtw c i / 2) = 0 then (1, upd (upd x.2 (mon c i / 2) 1) (mtw c i / 2) 1) else x) else x
def m_cw (c : KC) (be : Nat → Int32) : Nat → Int32 × (Nat → Int32)
  | 0 => (0, be)
  | i + 1 => m_cwS c i (m_cw c be i)
def m_cF (c : KC) : (Nat → Int32) → Int32 × (Nat → Int32) := fun b => m_cw c b (mnd c)
def m_cn0 (be : Nat → Int32) (p i : Nat) : Nat → Int32 := fun j => if j < i then (if j = p then 1 else 0) else be j
theorem m_cn0_0 (be : Nat → Int32) (p : Nat) : m_cn0 be p 0 = be := by funext j; simp [m_cn0]
theorem m_cn0_s (be : Nat → Int32) (p i : Nat) : upd (m_cn0 be p i) i (if i = p then 1 else 0) = m_cn0 be p (i + 1) := by
  funext j
  by_cases h : j = i
  · subst h; rw [pk_us]; simp [m_cn0]
  · rw [pk_un h]; by_cases h2 : j < i
    · simp [m_cn0, h2, show j < i + 1 from by omega]
    · simp [m_cn0, h2, show ¬ j < i + 1 from by omega]
def m_mO (f : Nat → Nat) (be : Nat → Int32) : Nat → (Nat → Int32)
  | 0 => be
  | i + 1 => upd (m_mO f be i) (f i / 2) 1
def m_mL (c : KC) (be : Nat → Int32) : Nat → (Nat → Int32)
  | 0 => be
  | i + 1 => if mso c i = 3 then upd (m_mL c be i) (mon c i / 2) 1 else m_mL c be i
def m_us0 (c : KC) (be : Nat → Int32) : Nat → Int32 := m_mL c (m_mO (mou c) (k_fillF be 0 (mnd c)) (moc c)) (mnd c)
def m_due (c : KC) (lv : Nat → Int32) (i : Nat) : Int32 := 1 + (if lv (mon c i / 2) ≤ lv (mtw c i / 2) then lv (mtw c i / 2) else lv (mon c i / 2))
def m_fwS (c : KC) (i : Nat) (x : Int32 × (Nat → Int32)) : Int32 × (Nat → Int32) :=
  if mso c i = 2 then (if x.1 = 0 then (if m_due c x.2 i = x.2 i then 0 else 1) else 1, upd x.2 i (m_due c x.2 i)) else x
def m_fw (c : KC) (lv : Nat → Int32) : Nat → Int32 × (Nat → Int32)
  | 0 => (0, lv)
  | i + 1 => m_fwS c i (m_fw c lv i)
def m_fF (c : KC) : (Nat → Int32) → Int32 × (Nat → Int32) := fun b => m_fw c b (mnd c)
theorem iwX7_standing_7 : ∀ w ∈ wsX70, w ∈ wsX7_standing := by decide +kernel
set_option maxHeartbeats 4000000 in
set_option maxRecDepth 100000 in
theorem c_X7_standing (l : Launch) (D : va_G) (κ : Nat → ClassId) (q : Nat → Nat) (th : Int32) (kc : KC) (cp : Nat → Int32) (cn : Nat) (ro : Nat → Int64) (kn : Int32) (lv be : Nat → Int32) (p0 K : Nat) (hnd : mnd kc ≤ 400) (hoc : moc kc ≤ 40) (hcn : cn ≤ 30) (hfin : m_stF kc K p0) : k_roi l yX7_standing wsX7_standing 0 0 D κ [.ref (q 0), .int (nI p0)] (wN κ q th kc cp cn ro kn lv be) (fun r => r = nI (m_st kc K p0)) := by
  refine Met.ofW (cc := cX7_standing) (maxL := 3) (ret := (some .int)) (by decide) rfl ?_
  intro p e s m args below meth c s₁ B hml hv
  obtain ⟨rfl, hK, hP⟩ := hv
  have hx := B.exec
  have hb := B.bytes
  have hr := B.returns
  have hts := atoms_spec (ws := wsX7_standing) B.pre
  have hown : s.vm.findClass RX7 = some m.cls := findClass_of_methodNamed B.named
  have hlocks := B.notSynchronized
  have hP : va_P D vwCl (wN κ q th kc cp cn ro kn lv be) s.heap := hP
  have hl := lv_entry ([.ref (q 0), .int (nI p0)]) (n := 3) (Nat.le_of_ble_eq_true rfl)
  rw [lg_entry_eq]
  generalize (lg_sl ([.ref (q 0), .int (nI p0)]) ++ List.replicate (3 - (lg_sl ([.ref (q 0), .int (nI p0)])).length) Slot.unset).toArray = ls at hl ⊢
  have hl : lv_has ls 3 [(0, .ref (q 0)), (1, .int (nI p0))] := hl
  refine lv_iload_n hx hb dX7_standing_0 rfl (lv_at hl 1 rfl) ?_
  refine lv_istore_n (lv' := [(2, .int (nI p0)), (0, .ref (q 0)), (1, .int (nI p0))]) hx hb dX7_standing_1 rfl hl (by decide) rfl (fun ls hl => ?_)
  have lp : ∀ (k : Nat) (x : Nat) (ls : Array Slot), (m_stF kc k x) → (m_st kc K p0 = m_st kc k x) → lv_has ls 3 [(0, .ref (q 0)), (1, .int (nI p0)), (2, .int (nI x))] → W p l e (headSpec wsX7_standing ({ frames := 0, cells := 0, slots := 0, locals := 0 })).room s m ([.ref (q 0), .int (nI p0)] : List Value).toArray below meth c s.heap [] 0 0 (MQ below (vp_Si (fun r => r = nI (m_st kc K p0))) ([.ref (q 0), .int (nI p0)] : List Value).toArray s 0 0 (fun _ => False)) (F0 m 2 ls []) := by
    intro k
    induction k with
    | zero =>
      intro x ls hf9 hr9 hl
      obtain ⟨hx9, hs9⟩ := hf9
      refine lv_aload_n hx hb dX7_standing_2 rfl (lv_at hl 0 rfl) ?_
      refine va_get (D := D) (ci := 7) (v := .ref (q 1)) (C := RX7) (T := TX7) (N := 15) hx hb hts (iwX7_standing_7) hown hK.1 hP 0 rfl rfl 1 (by decide) (hts (.fieldLink RX7 7 "InverterGraphsModel" "sorts" "[I") (by decide +kernel)) (fun _ h9 => h9) rfl dX7_standing_3 ?_
      refine lv_iload_n hx hb dX7_standing_6 rfl (lv_at hl 2 rfl) ?_
      refine lv_iconst (v := 2) hx hb dX7_standing_7 (by decide) ?_
      refine lv_idiv hx hb dX7_standing_8 (by decide) ?_
      refine lv_topi (nm_r (pk_div (a := x) (d := 2) (by omega) (by omega) (by omega)) ?_)
      refine k_iald (D := D) (j := x / 2) hx hb hK.1 hP 1 0 rfl rfl (by omega) (by omega) dX7_standing_9 ?_
      refine lv_iconst (v := 5) hx hb dX7_standing_10 (by decide) ?_
      refine lv_icmp_ne (tgt := 41) hx hb dX7_standing_11 (by decide) (fun c_11 => ?_) (fun c_11 => ?_)
      · skip
        refine lv_iload_n hx hb dX7_standing_41 rfl (lv_at hl 2 rfl) ?_
        exact W.iret (v := nI x) hx hb hr (fun t ht _ => ⟨nI x, rfl, (by rw [hr9, m_st]), ht⟩) (fun _ h9 => nomatch h9) dX7_standing_42
      · skip
        refine lv_aload_n hx hb dX7_standing_14 rfl (lv_at hl 0 rfl) ?_
        refine va_get (D := D) (ci := 7) (v := .ref (q 4)) (C := RX7) (T := TX7) (N := 15) hx hb hts (iwX7_standing_7) hown hK.1 hP 0 rfl rfl 4 (by decide) (hts (.fieldLink RX7 19 "InverterGraphsModel" "stands" "[I") (by decide +kernel)) (fun _ h9 => h9) rfl dX7_standing_15 ?_
        refine lv_iload_n hx hb dX7_standing_18 rfl (lv_at hl 2 rfl) ?_
        refine lv_iconst (v := 2) hx hb dX7_standing_19 (by decide) ?_
        refine lv_idiv hx hb dX7_standing_20 (by decide) ?_
        refine lv_topi (nm_r (pk_div (a := x) (d := 2) (by omega) (by omega) (by omega)) ?_)
        refine k_iald (D := D) (j := x / 2) hx hb hK.1 hP 4 0 rfl rfl (by omega) (by omega) dX7_standing_21 ?_
        refine lv_if_lt (tgt := 41) hx hb dX7_standing_22 (by decide) (fun c_22 => ?_) (fun c_22 => ?_)
        · skip
          refine lv_iload_n hx hb dX7_standing_41 rfl (lv_at hl 2 rfl) ?_
          exact W.iret (v := nI x) hx hb hr (fun t ht _ => ⟨nI x, rfl, (by rw [hr9, m_st]), ht⟩) (fun _ h9 => nomatch h9) dX7_standing_42
        · skip
          exfalso; exact (fun h => h.elim (fun q9 => q9 c_11) (fun q9 => c_22 q9)) hs9
    | succ k ih =>
      intro x ls hf9 hr9 hl
      obtain ⟨hx9, hs9⟩ := hf9
      refine lv_aload_n hx hb dX7_standing_2 rfl (lv_at hl 0 rfl) ?_
      refine va_get (D := D) (ci := 7) (v := .ref (q 1)) (C := RX7) (T := TX7) (N := 15) hx hb hts (iwX7_standing_7) hown hK.1 hP 0 rfl rfl 1 (by decide) (hts (.fieldLink RX7 7 "InverterGraphsModel" "sorts" "[I") (by decide +kernel)) (fun _ h9 => h9) rfl dX7_standing_3 ?_
      refine lv_iload_n hx hb dX7_standing_6 rfl (lv_at hl 2 rfl) ?_
      refine lv_iconst (v := 2) hx hb dX7_standing_7 (by decide) ?_
      refine lv_idiv hx hb dX7_standing_8 (by decide) ?_
      refine lv_topi (nm_r (pk_div (a := x) (d := 2) (by omega) (by omega) (by omega)) ?_)
      refine k_iald (D := D) (j := x / 2) hx hb hK.1 hP 1 0 rfl rfl (by omega) (by omega) dX7_standing_9 ?_
      refine lv_iconst (v := 5) hx hb dX7_standing_10 (by decide) ?_
      refine lv_icmp_ne (tgt := 41) hx hb dX7_standing_11 (by decide) (fun c_11 => ?_) (fun c_11 => ?_)
      · skip
        refine lv_iload_n hx hb dX7_standing_41 rfl (lv_at hl 2 rfl) ?_
        exact W.iret (v := nI x) hx hb hr (fun t ht _ => ⟨nI x, rfl, (by rw [hr9, m_st, if_neg c_11]), ht⟩) (fun _ h9 => nomatch h9) dX7_standing_42
      · skip
        refine lv_aload_n hx hb dX7_standing_14 rfl (lv_at hl 0 rfl) ?_
        refine va_get (D := D) (ci := 7) (v := .ref (q 4)) (C := RX7) (T := TX7) (N := 15) hx hb hts (iwX7_standing_7) hown hK.1 hP 0 rfl rfl 4 (by decide) (hts (.fieldLink RX7 19 "InverterGraphsModel" "stands" "[I") (by decide +kernel)) (fun _ h9 => h9) rfl dX7_standing_15 ?_
        refine lv_iload_n hx hb dX7_standing_18 rfl (lv_at hl 2 rfl) ?_
        refine lv_iconst (v := 2) hx hb dX7_standing_19 (by decide) ?_
        refine lv_idiv hx hb dX7_standing_20 (by decide) ?_
        refine lv_topi (nm_r (pk_div (a := x) (d := 2) (by omega) (by omega) (by omega)) ?_)
        refine k_iald (D := D) (j := x / 2) hx hb hK.1 hP 4 0 rfl rfl (by omega) (by omega) dX7_standing_21 ?_
        refine lv_if_lt (tgt := 41) hx hb dX7_standing_22 (by decide) (fun c_22 => ?_) (fun c_22 => ?_)
        · skip
          refine lv_iload_n hx hb dX7_standing_41 rfl (lv_at hl 2 rfl) ?_
          exact W.iret (v := nI x) hx hb hr (fun t ht _ => ⟨nI x, rfl, (by rw [hr9, m_st, if_pos c_11, if_pos c_22]), ht⟩) (fun _ h9 => nomatch h9) dX7_standing_42
        · skip
          obtain ⟨hb9, hf9⟩ := hs9.resolve_left (fun h => h.elim (fun q9 => q9 c_11) (fun q9 => c_22 q9))
          refine lv_aload_n hx hb dX7_standing_25 rfl (lv_at hl 0 rfl) ?_
          refine va_get (D := D) (ci := 7) (v := .ref (q 4)) (C := RX7) (T := TX7) (N := 15) hx hb hts (iwX7_standing_7) hown hK.1 hP 0 rfl rfl 4 (by decide) (hts (.fieldLink RX7 19 "InverterGraphsModel" "stands" "[I") (by decide +kernel)) (fun _ h9 => h9) rfl dX7_standing_26 ?_
          refine lv_iload_n hx hb dX7_standing_29 rfl (lv_at hl 2 rfl) ?_
          refine lv_iconst (v := 2) hx hb dX7_standing_30 (by decide) ?_
          refine lv_idiv hx hb dX7_standing_31 (by decide) ?_
          refine lv_topi (nm_r (pk_div (a := x) (d := 2) (by omega) (by omega) (by omega)) ?_)
          refine k_iald (D := D) (j := x / 2) hx hb hK.1 hP 4 0 rfl rfl (by omega) (by omega) dX7_standing_32 ?_
          refine lv_iload_n hx hb dX7_standing_33 rfl (lv_at hl 2 rfl) ?_
          refine lv_iconst (v := 1) hx hb dX7_standing_34 (by decide) ?_
          refine lv_iand hx hb dX7_standing_35 ?_
          refine lv_ixor hx hb dX7_standing_36 ?_
          refine lv_topi (nm_r (hb9) ?_)
          refine lv_istore_n (lv' := [(2, .int (nI ((m_stS kc x).toNatClampNeg))), (0, .ref (q 0)), (1, .int (nI p0))]) hx hb dX7_standing_37 rfl hl (by decide) rfl (fun ls hl => ?_)
          refine lv_goto (tgt := 2) hx hb dX7_standing_38 (by decide) ?_
          exact ih ((m_stS kc x).toNatClampNeg) ls hf9 (by rw [hr9, m_st, if_pos c_11, if_neg c_22]) (lv_sub hl [1, 2, 0] rfl)
  exact lp K p0 ls hfin rfl (lv_sub hl [1, 2, 0] rfl)
theorem iwX7_change_7 : ∀ w ∈ wsX70, w ∈ wsX7_change := by decide +kernel
set_option maxHeartbeats 4000000 in
set_option maxRecDepth 100000 in
theorem c_X7_change (l : Launch) (D : va_G) (κ : Nat → ClassId) (sz : Nat) (q : Nat → Nat) (th : Int32) (kc : KC) (cp : Nat → Int32) (cn : Nat) (ro : Nat → Int64) (kn : Int32) (lv be : Nat → Int32) (p0 K : Nat) (hnd : mnd kc ≤ 400) (hoc : moc kc ≤ 40) (hcn : cn ≤ 30) (hp0 : p0 < mnd kc) (hfa : m_stF kc K (mon kc p0)) (hfb : m_stF kc K (mtw kc p0)) (hlt : ∀ j, j < mnd kc → mso kc j = 2 → mon kc j < 2 * mnd kc ∧ mtw kc j < 2 * mnd kc) : k_muv (S := KC) l yX7_change wsX7_change 1 25 0 0 D κ [.ref (q 0), .int (nI p0)] (wN κ q th kc cp cn ro kn lv be) sz (fun u => u = m_change K p0 kc) (fun u => wN κ q th u cp cn ro kn lv be) := by
  refine Met.ofW (cc := cX7_change) (maxL := 5) (ret := none) (by decide) rfl ?_
  intro p e s m args below meth c s₁ B hml hv
  obtain ⟨rfl, hsz, hK, hP, hD0⟩ := hv
  have hx := B.exec
  have hb := B.bytes
  have hr := B.returns
  have hts := atoms_spec (ws := wsX7_change) B.pre
  have hown : s.vm.findClass RX7 = some m.cls := findClass_of_methodNamed B.named
  have hlocks := B.notSynchronized
  subst hsz
  have hD := hD0.self (sz := s.heap.size)
  generalize hAe : va_A (wN κ q th kc cp cn ro kn lv be) s.heap.size = A at hD ⊢
  have hA : ∀ q : Nat, s.heap.size ≤ q → A q := fun q h => by rw [← hAe]; exact Or.inr h
  have hS : va_S A s.heap s.heap [] := va_S.rf
  have hP : va_P D vwCl (wN κ q th kc cp cn ro kn lv be) s.heap := hP
  have hl := lv_entry ([.ref (q 0), .int (nI p0)]) (n := 5) (Nat.le_of_ble_eq_true rfl)
  rw [lg_entry_eq]
  generalize (lg_sl ([.ref (q 0), .int (nI p0)]) ++ List.replicate (5 - (lg_sl ([.ref (q 0), .int (nI p0)])).length) Slot.unset).toArray = ls at hl ⊢
  have hl : lv_has ls 5 [(0, .ref (q 0)), (1, .int (nI p0))] := hl
  have hA9 := m_st_lt kc K _ hfa
  have hB9 := m_st_lt kc K _ hfb
  refine lv_aload_n hx hb dX7_change_0 rfl (lv_at hl 0 rfl) ?_
  refine lv_aload_n hx hb dX7_change_1 rfl (lv_at hl 0 rfl) ?_
  refine va_get (D := D) (ci := 7) (v := .ref (q 2)) (C := RX7) (T := TX7) (N := 15) hx hb hts (iwX7_change_7) hown hK.1 hP 0 rfl rfl 2 (by decide) (hts (.fieldLink RX7 13 "InverterGraphsModel" "ones" "[I") (by decide +kernel)) (fun _ h9 => h9) rfl dX7_change_2 ?_
  refine lv_iload_n hx hb dX7_change_5 rfl (lv_at hl 1 rfl) ?_
  refine k_iald (D := D) (j := p0) hx hb hK.1 hP 2 0 rfl rfl (by omega) (by omega) dX7_change_6 ?_
  refine k_cRO (D := D) (κ := κ) (qc := (RX7, TX7, 15)) (ci := 7) (q0 := 0) ⟨hx, hb, hml, hown, hts⟩ (c_X7_standing l D κ q th kc cp cn ro kn lv be ((mon kc) p0) K (by omega) (by omega) (by omega) (by assumption)) (cwV 1 hts gX7_change_X7_standing rfl rfl rfl (by decide +kernel) ⟨Nat.le_of_ble_eq_true rfl, Nat.le_of_ble_eq_true rfl⟩) hK hP rfl rfl (As := [.int (nI ((mon kc) p0))]) (rest := []) rfl rfl hl.1 (Nat.le_of_ble_eq_true rfl) dX7_change_7 ⟨Nat.le_of_ble_eq_true rfl, Nat.le_of_ble_eq_true rfl⟩ (fun r hr => ?_)
  subst hr
  refine lv_istore_n (lv' := [(2, .int (nI (m_st kc K ((mon kc) p0)))), (0, .ref (q 0)), (1, .int (nI p0))]) hx hb dX7_change_10 rfl hl (by decide) rfl (fun ls hl => ?_)
  refine lv_aload_n hx hb dX7_change_11 rfl (lv_at hl 1 rfl) ?_
  refine lv_aload_n hx hb dX7_change_12 rfl (lv_at hl 1 rfl) ?_
  refine va_get (D := D) (ci := 7) (v := .ref (q 3)) (C := RX7) (T := TX7) (N := 15) hx hb hts (iwX7_change_7) hown hK.1 hP 0 rfl rfl 3 (by decide) (hts (.fieldLink RX7 16 "InverterGraphsModel" "twos" "[I") (by decide +kernel)) (fun _ h9 => h9) rfl dX7_change_13 ?_
  refine lv_iload_n hx hb dX7_change_16 rfl (lv_at hl 2 rfl) ?_
  refine k_iald (D := D) (j := p0) hx hb hK.1 hP 3 0 rfl rfl (by omega) (by omega) dX7_change_17 ?_
  refine k_cRO (D := D) (κ := κ) (qc := (RX7, TX7, 15)) (ci := 7) (q0 := 0) ⟨hx, hb, hml, hown, hts⟩ (c_X7_standing l D κ q th kc cp cn ro kn lv be ((mtw kc) p0) K (by omega) (by omega) (by omega) (by assumption)) (cwV 1 hts gX7_change_X7_standing rfl rfl rfl (by decide +kernel) ⟨Nat.le_of_ble_eq_true rfl, Nat.le_of_ble_eq_true rfl⟩) hK hP rfl rfl (As := [.int (nI ((mtw kc) p0))]) (rest := []) rfl rfl hl.1 (Nat.le_of_ble_eq_true rfl) dX7_change_18 ⟨Nat.le_of_ble_eq_true rfl, Nat.le_of_ble_eq_true rfl⟩ (fun r hr => ?_)
  subst hr
  refine lv_istore_n (lv' := [(3, .int (nI (m_st kc K ((mtw kc) p0)))), (2, .int (nI (m_st kc K ((mon kc) p0)))), (0, .ref (q 0)), (1, .int (nI p0))]) hx hb dX7_change_21 rfl hl (by decide) rfl (fun ls hl => ?_)
  refine lv_aload_n hx hb dX7_change_22 rfl (lv_at hl 2 rfl) ?_
  refine lv_iload_n hx hb dX7_change_23 rfl (lv_at hl 1 rfl) ?_
  refine lv_iload_n hx hb dX7_change_24 rfl (lv_at hl 0 rfl) ?_
  refine lv_iload_n hx hb dX7_change_25 rfl (lv_at hl 3 rfl) ?_
  refine k_cRO (D := D) (κ := κ) (qc := (RX7, TX7, 15)) (ci := 7) (q0 := 0) ⟨hx, hb, hml, hown, hts⟩ (c_X7_simple l D κ q th kc cp cn ro kn lv be (m_st kc K ((mon kc) p0)) (m_st kc K ((mtw kc) p0)) (nI p0) (by omega) (by omega) (by omega) (by omega) (by omega) (by assumption)) (cwV 3 hts gX7_change_X7_simple rfl rfl rfl (by decide +kernel) ⟨Nat.le_of_ble_eq_true rfl, Nat.le_of_ble_eq_true rfl⟩) hK hP rfl rfl (As := [.int (nI (m_st kc K ((mon kc) p0))), .int (nI (m_st kc K ((mtw kc) p0))), .int (nI p0)]) (rest := []) rfl rfl hl.1 (Nat.le_of_ble_eq_true rfl) dX7_change_26 ⟨Nat.le_of_ble_eq_true rfl, Nat.le_of_ble_eq_true rfl⟩ (fun r hr => ?_)
  subst hr
  refine lv_istore (lv' := [(4, .int (m_simple kc (m_st kc K ((mon kc) p0)) (m_st kc K ((mtw kc) p0)) (nI p0))), (3, .int (nI (m_st kc K ((mtw kc) p0)))), (2, .int (nI (m_st kc K ((mon kc) p0)))), (0, .ref (q 0)), (1, .int (nI p0))]) hx hb dX7_change_29 hl (by decide) rfl (fun ls hl => ?_)
  refine lv_aload_n hx hb dX7_change_31 rfl (lv_at hl 3 rfl) ?_
  refine va_get (D := D) (ci := 7) (v := .ref (q 2)) (C := RX7) (T := TX7) (N := 15) hx hb hts (iwX7_change_7) hown hK.1 hP 0 rfl rfl 2 (by decide) (hts (.fieldLink RX7 13 "InverterGraphsModel" "ones" "[I") (by decide +kernel)) (fun _ h9 => h9) rfl dX7_change_32 ?_
  refine lv_iload_n hx hb dX7_change_35 rfl (lv_at hl 4 rfl) ?_
  refine lv_iload_n hx hb dX7_change_36 rfl (lv_at hl 2 rfl) ?_
  refine lv_iload_n hx hb dX7_change_37 rfl (lv_at hl 1 rfl) ?_
  refine lv_icmp_ge (tgt := 45) hx hb dX7_change_38 (by decide) (fun c_38 => ?_) (fun c_38 => ?_)
  · skip
    have c_38 : (m_st kc K ((mtw kc) p0)) ≤ (m_st kc K ((mon kc) p0)) := (nI_leI (a := (m_st kc K ((mtw kc) p0))) (b := (m_st kc K ((mon kc) p0))) (by omega) (by omega)).mp c_38
    refine lv_iload_n hx hb dX7_change_45 rfl (lv_at hl 1 rfl) ?_
    refine k_iastN (D := D) (j := p0) (x := m_st kc K ((mtw kc) p0)) hx hb hK.1 hP hD hS 2 0 rfl rfl (by omega) (by omega) dX7_change_46 (fun H locs hP hD hS => ?_)
    have hP : va_P D vwCl (wN κ q th (mso kc, k_un (mon kc) p0 (m_st kc K ((mtw kc) p0)), mtw kc, mst kc, mnd kc, mou kc, mbo kc, moc kc) cp cn ro kn lv be) H := hP
    have hD : va_D A (wN κ q th (mso kc, k_un (mon kc) p0 (m_st kc K ((mtw kc) p0)), mtw kc, mst kc, mnd kc, mou kc, mbo kc, moc kc) cp cn ro kn lv be) := hD
    refine lv_aload_n hx hb dX7_change_47 rfl (lv_at hl 3 rfl) ?_
    refine va_get (D := D) (ci := 7) (v := .ref (q 3)) (C := RX7) (T := TX7) (N := 15) hx hb hts (iwX7_change_7) hown hK.1 hP 0 rfl rfl 3 (by decide) (hts (.fieldLink RX7 16 "InverterGraphsModel" "twos" "[I") (by decide +kernel)) (fun _ h9 => h9) rfl dX7_change_48 ?_
    refine lv_iload_n hx hb dX7_change_51 rfl (lv_at hl 4 rfl) ?_
    refine lv_iload_n hx hb dX7_change_52 rfl (lv_at hl 2 rfl) ?_
    refine lv_iload_n hx hb dX7_change_53 rfl (lv_at hl 1 rfl) ?_
    refine lv_icmp_ge (tgt := 61) hx hb dX7_change_54 (by decide) (fun c_54 => ?_) (fun c_54 => ?_)
    · skip
      have c_54 : (m_st kc K ((mtw kc) p0)) ≤ (m_st kc K ((mon kc) p0)) := (nI_leI (a := (m_st kc K ((mtw kc) p0))) (b := (m_st kc K ((mon kc) p0))) (by omega) (by omega)).mp c_54
      refine lv_iload_n hx hb dX7_change_61 rfl (lv_at hl 2 rfl) ?_
      refine k_iastN (D := D) (j := p0) (x := m_st kc K ((mon kc) p0)) hx hb hK.1 hP hD hS 3 0 rfl rfl (by omega) (by omega) dX7_change_62 (fun H locs hP hD hS => ?_)
      have hP : va_P D vwCl (wN κ q th (mso kc, k_un (mon kc) p0 (m_st kc K ((mtw kc) p0)), k_un (mtw kc) p0 (m_st kc K ((mon kc) p0)), mst kc, mnd kc, mou kc, mbo kc, moc kc) cp cn ro kn lv be) H := hP
      have hD : va_D A (wN κ q th (mso kc, k_un (mon kc) p0 (m_st kc K ((mtw kc) p0)), k_un (mtw kc) p0 (m_st kc K ((mon kc) p0)), mst kc, mnd kc, mou kc, mbo kc, moc kc) cp cn ro kn lv be) := hD
      refine lv_iload hx hb dX7_change_63 (lv_at hl 0 rfl) ?_
      refine lv_if_lt (tgt := 75) hx hb dX7_change_65 (by decide) (fun c_65 => ?_) (fun c_65 => ?_)
      · skip
        exact W.vret hx hb hr (fun t ht hW => ⟨⟨(mso kc, k_un (mon kc) p0 (m_st kc K ((mtw kc) p0)), k_un (mtw kc) p0 (m_st kc K ((mon kc) p0)), mst kc, mnd kc, mou kc, mbo kc, moc kc), rfl, (by unfold m_change; rw [if_pos (show m_chL K kc p0 < 0 from c_65)]; unfold m_ch1; rw [if_pos (show m_chB K kc p0 ≤ m_chA K kc p0 from c_38), if_pos (show m_chB K kc p0 ≤ m_chA K kc p0 from c_38)] <;> rfl), by rw [ht]; exact hP, hD⟩, hS.F ht⟩) hS.2.2 dX7_change_75
      · skip
        refine lv_aload_n hx hb dX7_change_68 rfl (lv_at hl 3 rfl) ?_
        refine lv_iload_n hx hb dX7_change_69 rfl (lv_at hl 4 rfl) ?_
        refine lv_iload hx hb dX7_change_70 (lv_at hl 0 rfl) ?_
        refine k_cWUv (D := D) (κ := κ) (qc := (RX7, TX7, 15)) (ci := 7) (q0 := 0) ⟨hx, hb, hml, hown, hts⟩ (c_X7_leave l D κ _ q th (mso kc, k_un (mon kc) p0 (m_st kc K ((mtw kc) p0)), k_un (mtw kc) p0 (m_st kc K ((mon kc) p0)), mst kc, mnd kc, mou kc, mbo kc, moc kc) cp cn ro kn lv be p0 (m_simple kc (m_st kc K ((mon kc) p0)) (m_st kc K ((mtw kc) p0)) (nI p0)) (by omega) (by omega) (by omega) (by omega)) (cwV 2 hts gX7_change_X7_leave rfl rfl rfl (by decide +kernel) ⟨Nat.le_of_ble_eq_true rfl, Nat.le_of_ble_eq_true rfl⟩) hK hP hD hS hA rfl rfl (As := [.int (nI p0), .int (m_simple kc (m_st kc K ((mon kc) p0)) (m_st kc K ((mtw kc) p0)) (nI p0))]) (rest := []) rfl rfl hl.1 (Nat.le_of_ble_eq_true rfl) dX7_change_72 ⟨Nat.le_of_ble_eq_true rfl, Nat.le_of_ble_eq_true rfl⟩ (fun _ H locs hw9 hP hD hS => ?_)
        have hP : va_P D vwCl (wN κ q th (m_leave p0 (m_simple kc (m_st kc K ((mon kc) p0)) (m_st kc K ((mtw kc) p0)) (nI p0)) (mso kc, k_un (mon kc) p0 (m_st kc K ((mtw kc) p0)), k_un (mtw kc) p0 (m_st kc K ((mon kc) p0)), mst kc, mnd kc, mou kc, mbo kc, moc kc)) cp cn ro kn lv be) H := hP
        have hD : va_D A (wN κ q th (m_leave p0 (m_simple kc (m_st kc K ((mon kc) p0)) (m_st kc K ((mtw kc) p0)) (nI p0)) (mso kc, k_un (mon kc) p0 (m_st kc K ((mtw kc) p0)), k_un (mtw kc) p0 (m_st kc K ((mon kc) p0)), mst kc, mnd kc, mou kc, mbo kc, moc kc)) cp cn ro kn lv be) := hD
        exact W.vret hx hb hr (fun t ht hW => ⟨⟨m_leave p0 (m_simple kc (m_st kc K ((mon kc) p0)) (m_st kc K ((mtw kc) p0)) (nI p0)) (mso kc, k_un (mon kc) p0 (m_st kc K ((mtw kc) p0)), k_un (mtw kc) p0 (m_st kc K ((mon kc) p0)), mst kc, mnd kc, mou kc, mbo kc, moc kc), rfl, (by unfold m_change; rw [if_neg (show ¬ m_chL K kc p0 < 0 from c_65)]; unfold m_ch1; rw [if_pos (show m_chB K kc p0 ≤ m_chA K kc p0 from c_38), if_pos (show m_chB K kc p0 ≤ m_chA K kc p0 from c_38)] <;> rfl), by rw [ht]; exact hP, hD⟩, hS.F ht⟩) hS.2.2 dX7_change_75
    · skip
      have c_54 : ¬ ((m_st kc K ((mtw kc) p0)) ≤ (m_st kc K ((mon kc) p0))) := fun h9 => c_54 ((nI_leI (a := (m_st kc K ((mtw kc) p0))) (b := (m_st kc K ((mon kc) p0))) (by omega) (by omega)).mpr h9)
      exfalso; omega
  · skip
    have c_38 : ¬ ((m_st kc K ((mtw kc) p0)) ≤ (m_st kc K ((mon kc) p0))) := fun h9 => c_38 ((nI_leI (a := (m_st kc K ((mtw kc) p0))) (b := (m_st kc K ((mon kc) p0))) (by omega) (by omega)).mpr h9)
    refine lv_iload_n hx hb dX7_change_41 rfl (lv_at hl 2 rfl) ?_
    refine lv_goto (tgt := 46) hx hb dX7_change_42 (by decide) ?_
    refine k_iastN (D := D) (j := p0) (x := m_st kc K ((mon kc) p0)) hx hb hK.1 hP hD hS 2 0 rfl rfl (by omega) (by omega) dX7_change_46 (fun H locs hP hD hS => ?_)
    have hP : va_P D vwCl (wN κ q th (mso kc, k_un (mon kc) p0 (m_st kc K ((mon kc) p0)), mtw kc, mst kc, mnd kc, mou kc, mbo kc, moc kc) cp cn ro kn lv be) H := hP
    have hD : va_D A (wN κ q th (mso kc, k_un (mon kc) p0 (m_st kc K ((mon kc) p0)), mtw kc, mst kc, mnd kc, mou kc, mbo kc, moc kc) cp cn ro kn lv be) := hD
    refine lv_aload_n hx hb dX7_change_47 rfl (lv_at hl 3 rfl) ?_
    refine va_get (D := D) (ci := 7) (v := .ref (q 3)) (C := RX7) (T := TX7) (N := 15) hx hb hts (iwX7_change_7) hown hK.1 hP 0 rfl rfl 3 (by decide) (hts (.fieldLink RX7 16 "InverterGraphsModel" "twos" "[I") (by decide +kernel)) (fun _ h9 => h9) rfl dX7_change_48 ?_
    refine lv_iload_n hx hb dX7_change_51 rfl (lv_at hl 4 rfl) ?_
    refine lv_iload_n hx hb dX7_change_52 rfl (lv_at hl 2 rfl) ?_
    refine lv_iload_n hx hb dX7_change_53 rfl (lv_at hl 1 rfl) ?_
    refine lv_icmp_ge (tgt := 61) hx hb dX7_change_54 (by decide) (fun c_54 => ?_) (fun c_54 => ?_)
    · skip
      have c_54 : (m_st kc K ((mtw kc) p0)) ≤ (m_st kc K ((mon kc) p0)) := (nI_leI (a := (m_st kc K ((mtw kc) p0))) (b := (m_st kc K ((mon kc) p0))) (by omega) (by omega)).mp c_54
      exfalso; omega
    · skip
      have c_54 : ¬ ((m_st kc K ((mtw kc) p0)) ≤ (m_st kc K ((mon kc) p0))) := fun h9 => c_54 ((nI_leI (a := (m_st kc K ((mtw kc) p0))) (b := (m_st kc K ((mon kc) p0))) (by omega) (by omega)).mpr h9)
      refine lv_iload_n hx hb dX7_change_57 rfl (lv_at hl 1 rfl) ?_
      refine lv_goto (tgt := 62) hx hb dX7_change_58 (by decide) ?_
      refine k_iastN (D := D) (j := p0) (x := m_st kc K ((mtw kc) p0)) hx hb hK.1 hP hD hS 3 0 rfl rfl (by omega) (by omega) dX7_change_62 (fun H locs hP hD hS => ?_)
      have hP : va_P D vwCl (wN κ q th (mso kc, k_un (mon kc) p0 (m_st kc K ((mon kc) p0)), k_un (mtw kc) p0 (m_st kc K ((mtw kc) p0)), mst kc, mnd kc, mou kc, mbo kc, moc kc) cp cn ro kn lv be) H := hP
      have hD : va_D A (wN κ q th (mso kc, k_un (mon kc) p0 (m_st kc K ((mon kc) p0)), k_un (mtw kc) p0 (m_st kc K ((mtw kc) p0)), mst kc, mnd kc, mou kc, mbo kc, moc kc) cp cn ro kn lv be) := hD
      refine lv_iload hx hb dX7_change_63 (lv_at hl 0 rfl) ?_
      refine lv_if_lt (tgt := 75) hx hb dX7_change_65 (by decide) (fun c_65 => ?_) (fun c_65 => ?_)
      · skip
        exact W.vret hx hb hr (fun t ht hW => ⟨⟨(mso kc, k_un (mon kc) p0 (m_st kc K ((mon kc) p0)), k_un (mtw kc) p0 (m_st kc K ((mtw kc) p0)), mst kc, mnd kc, mou kc, mbo kc, moc kc), rfl, (by unfold m_change; rw [if_pos (show m_chL K kc p0 < 0 from c_65)]; unfold m_ch1; rw [if_neg (show ¬ m_chB K kc p0 ≤ m_chA K kc p0 from c_38), if_neg (show ¬ m_chB K kc p0 ≤ m_chA K kc p0 from c_38)] <;> rfl), by rw [ht]; exact hP, hD⟩, hS.F ht⟩) hS.2.2 dX7_change_75
      · skip
        refine lv_aload_n hx hb dX7_change_68 rfl (lv_at hl 3 rfl) ?_
        refine lv_iload_n hx hb dX7_change_69 rfl (lv_at hl 4 rfl) ?_
        refine lv_iload hx hb dX7_change_70 (lv_at hl 0 rfl) ?_
        refine k_cWUv (D := D) (κ := κ) (qc := (RX7, TX7, 15)) (ci := 7) (q0 := 0) ⟨hx, hb, hml, hown, hts⟩ (c_X7_leave l D κ _ q th (mso kc, k_un (mon kc) p0 (m_st kc K ((mon kc) p0)), k_un (mtw kc) p0 (m_st kc K ((mtw kc) p0)), mst kc, mnd kc, mou kc, mbo kc, moc kc) cp cn ro kn lv be p0 (m_simple kc (m_st kc K ((mon kc) p0)) (m_st kc K ((mtw kc) p0)) (nI p0)) (by omega) (by omega) (by omega) (by omega)) (cwV 2 hts gX7_change_X7_leave rfl rfl rfl (by decide +kernel) ⟨Nat.le_of_ble_eq_true rfl, Nat.le_of_ble_eq_true rfl⟩) hK hP hD hS hA rfl rfl (As := [.int (nI p0), .int (m_simple kc (m_st kc K ((mon kc) p0)) (m_st kc K ((mtw kc) p0)) (nI p0))]) (rest := []) rfl rfl hl.1 (Nat.le_of_ble_eq_true rfl) dX7_change_72 ⟨Nat.le_of_ble_eq_true rfl, Nat.le_of_ble_eq_true rfl⟩ (fun _ H locs hw9 hP hD hS => ?_)
        have hP : va_P D vwCl (wN κ q th (m_leave p0 (m_simple kc (m_st kc K ((mon kc) p0)) (m_st kc K ((mtw kc) p0)) (nI p0)) (mso kc, k_un (mon kc) p0 (m_st kc K ((mon kc) p0)), k_un (mtw kc) p0 (m_st kc K ((mtw kc) p0)), mst kc, mnd kc, mou kc, mbo kc, moc kc)) cp cn ro kn lv be) H := hP
        have hD : va_D A (wN κ q th (m_leave p0 (m_simple kc (m_st kc K ((mon kc) p0)) (m_st kc K ((mtw kc) p0)) (nI p0)) (mso kc, k_un (mon kc) p0 (m_st kc K ((mon kc) p0)), k_un (mtw kc) p0 (m_st kc K ((mtw kc) p0)), mst kc, mnd kc, mou kc, mbo kc, moc kc)) cp cn ro kn lv be) := hD
        exact W.vret hx hb hr (fun t ht hW => ⟨⟨m_leave p0 (m_simple kc (m_st kc K ((mon kc) p0)) (m_st kc K ((mtw kc) p0)) (nI p0)) (mso kc, k_un (mon kc) p0 (m_st kc K ((mon kc) p0)), k_un (mtw kc) p0 (m_st kc K ((mtw kc) p0)), mst kc, mnd kc, mou kc, mbo kc, moc kc), rfl, (by unfold m_change; rw [if_neg (show ¬ m_chL K kc p0 < 0 from c_65)]; unfold m_ch1; rw [if_neg (show ¬ m_chB K kc p0 ≤ m_chA K kc p0 from c_38), if_neg (show ¬ m_chB K kc p0 ≤ m_chA K kc p0 from c_38)] <;> rfl), by rw [ht]; exact hP, hD⟩, hS.F ht⟩) hS.2.2 dX7_change_75
theorem iwX7_cone_7 : ∀ w ∈ wsX70, w ∈ wsX7_cone := by decide +kernel
set_option maxHeartbeats 4000000 in
set_option maxRecDepth 100000 in
theorem c_X7_cone (l : Launch) (D : va_G) (κ : Nat → ClassId) (sz : Nat) (q : Nat → Nat) (th : Int32) (kc : KC) (cp : Nat → Int32) (cn : Nat) (ro : Nat → Int64) (kn : Int32) (lv be : Nat → Int32) (p0 K : Nat) (hnd : mnd kc ≤ 400) (hoc : moc kc ≤ 40) (hcn : cn ≤ 30) (hp0 : p0 < 400) (hlt : ∀ j, j < mnd kc → mso kc j = 2 → mon kc j < 2 * mnd kc ∧ mtw kc j < 2 * mnd kc) (hfin : k_itF (m_cF kc) (fun _ => True) K 1 (m_cn0 be p0 (mnd kc))) : k_muv (S := (Nat → Int32)) l yX7_cone wsX7_cone 0 0 0 0 D κ [.ref (q 0), .int (nI p0)] (wN κ q th kc cp cn ro kn lv be) sz (fun u => u = k_it (m_cF kc) K 1 (m_cn0 be p0 (mnd kc))) (fun u => wN κ q th kc cp cn ro kn lv u) := by
  refine Met.ofW (cc := cX7_cone) (maxL := 4) (ret := none) (by decide) rfl ?_
  intro p e s m args below meth c s₁ B hml hv
  obtain ⟨rfl, hsz, hK, hP, hD0⟩ := hv
  have hx := B.exec
  have hb := B.bytes
  have hr := B.returns
  have hts := atoms_spec (ws := wsX7_cone) B.pre
  have hown : s.vm.findClass RX7 = some m.cls := findClass_of_methodNamed B.named
  have hlocks := B.notSynchronized
  subst hsz
  have hD := hD0.self (sz := s.heap.size)
  generalize hAe : va_A (wN κ q th kc cp cn ro kn lv be) s.heap.size = A at hD ⊢
  have hA : ∀ q : Nat, s.heap.size ≤ q → A q := fun q h => by rw [← hAe]; exact Or.inr h
  have hS : va_S A s.heap s.heap [] := va_S.rf
  have hP : va_P D vwCl (wN κ q th kc cp cn ro kn lv be) s.heap := hP
  have hl := lv_entry ([.ref (q 0), .int (nI p0)]) (n := 4) (Nat.le_of_ble_eq_true rfl)
  rw [lg_entry_eq]
  generalize (lg_sl ([.ref (q 0), .int (nI p0)]) ++ List.replicate (4 - (lg_sl ([.ref (q 0), .int (nI p0)])).length) Slot.unset).toArray = ls at hl ⊢
  have hl : lv_has ls 4 [(0, .ref (q 0)), (1, .int (nI p0))] := hl
  refine lv_iconst (v := 0) hx hb dX7_cone_0 (by decide) ?_
  refine lv_istore_n (lv' := [(2, .int 0), (0, .ref (q 0)), (1, .int (nI p0))]) hx hb dX7_cone_1 rfl hl (by decide) rfl (fun ls hl => ?_)
  obtain ⟨FIN9, hF9⟩ : ∃ z, z = k_it (m_cF kc) K 1 (m_cn0 be p0 (mnd kc)) := ⟨_, rfl⟩
  have lo : ∀ (k : Nat) (y : Int32) (x : Nat → Int32) (H : Heap) (locs : List Loc) (ls : Array Slot), (k_itF (m_cF kc) (fun _ => True) k y x) → (FIN9 = k_it (m_cF kc) k y x) → va_P D vwCl (wN κ q th kc cp cn ro kn lv x) H → va_D A (wN κ q th kc cp cn ro kn lv x) → va_S A s.heap H locs → lv_has ls 4 [(0, .ref (q 0)), (1, .int (nI p0)), (2, .int y)] → W p l e (headSpec wsX7_cone ({ frames := 0, cells := 0, slots := 0, locals := 0 })).room s m ([.ref (q 0), .int (nI p0)] : List Value).toArray below meth c H locs 0 0 (MQ below (va_Qv (S := (Nat → Int32)) (fun u => u = k_it (m_cF kc) K 1 (m_cn0 be p0 (mnd kc))) (fun u => k_B D A (wN κ q th kc cp cn ro kn lv u)) A) ([.ref (q 0), .int (nI p0)] : List Value).toArray s 0 0 A) (F0 m 34 ls []) := by
    intro k
    induction k with
    | zero =>
      intro y x H locs ls hf9 hr9 hP hD hS hl
      refine lv_iload_n hx hb dX7_cone_34 rfl (lv_at hl 2 rfl) ?_
      refine lv_if_eq (tgt := 140) hx hb dX7_cone_35 (by decide) (fun c_35 => ?_) (fun c_35 => ?_)
      · skip
        exact W.vret hx hb hr (fun t ht hW => ⟨⟨x, rfl, (by rw [← hF9]; exact Eq.symm (by rw [hr9, k_it])), by rw [ht]; exact hP, hD⟩, hS.F ht⟩) hS.2.2 dX7_cone_140
      · skip
        exfalso; exact c_35 hf9.1
    | succ k ih =>
      intro y x H locs ls hf9 hr9 hP hD hS hl
      refine lv_iload_n hx hb dX7_cone_34 rfl (lv_at hl 2 rfl) ?_
      refine lv_if_eq (tgt := 140) hx hb dX7_cone_35 (by decide) (fun c_35 => ?_) (fun c_35 => ?_)
      · skip
        exact W.vret hx hb hr (fun t ht hW => ⟨⟨x, rfl, (by rw [← hF9]; exact Eq.symm (by rw [hr9, k_it, if_pos c_35])), by rw [ht]; exact hP, hD⟩, hS.F ht⟩) hS.2.2 dX7_cone_140
      · skip
        have hf8 := hf9.2.resolve_left c_35
        refine lv_iconst (v := 0) hx hb dX7_cone_38 (by decide) ?_
        refine lv_istore_n (lv' := [(2, .int 0), (0, .ref (q 0)), (1, .int (nI p0))]) hx hb dX7_cone_39 rfl hl (by decide) rfl (fun ls hl => ?_)
        refine lv_iconst (v := 0) hx hb dX7_cone_40 (by decide) ?_
        refine lv_istore_n (lv' := [(3, .int 0), (2, .int 0), (0, .ref (q 0)), (1, .int (nI p0))]) hx hb dX7_cone_41 rfl hl (by decide) rfl (fun ls hl => ?_)
        have li : ∀ (k2 i : Nat) (H : Heap) (locs : List Loc) (ls : Array Slot), (i + k2 = mnd kc) → va_P D vwCl (wN κ q th kc cp cn ro kn lv ((m_cw kc x i).2)) H → va_D A (wN κ q th kc cp cn ro kn lv ((m_cw kc x i).2)) → va_S A s.heap H locs → lv_has ls 4 [(0, .ref (q 0)), (1, .int (nI p0)), (2, .int ((m_cw kc x i).1)), (3, .int (nI i))] → W p l e (headSpec wsX7_cone ({ frames := 0, cells := 0, slots := 0, locals := 0 })).room s m ([.ref (q 0), .int (nI p0)] : List Value).toArray below meth c H locs 0 0 (MQ below (va_Qv (S := (Nat → Int32)) (fun u => u = k_it (m_cF kc) K 1 (m_cn0 be p0 (mnd kc))) (fun u => k_B D A (wN κ q th kc cp cn ro kn lv u)) A) ([.ref (q 0), .int (nI p0)] : List Value).toArray s 0 0 A) (F0 m 42 ls []) := by
          intro k2
          induction k2 with
          | zero =>
            intro i H locs ls hi hP hD hS hl
            refine lv_iload_n hx hb dX7_cone_42 rfl (lv_at hl 3 rfl) ?_
            refine lv_aload_n hx hb dX7_cone_43 rfl (lv_at hl 0 rfl) ?_
            refine va_get (D := D) (ci := 7) (v := .int (nI (mnd kc))) (C := RX7) (T := TX7) (N := 15) hx hb hts (iwX7_cone_7) hown hK.1 hP 0 rfl rfl 5 (by decide) (hts (.fieldLink RX7 43 "InverterGraphsModel" "nodes" "I") (by decide +kernel)) (fun _ h9 => h9) rfl dX7_cone_44 ?_
            refine lv_icmp_ge (tgt := 137) hx hb dX7_cone_47 (by decide) (fun c_47 => ?_) (fun c_47 => ?_)
            · skip
              have c_47 : (mnd kc) ≤ i := (nI_leI (a := (mnd kc)) (b := i) (by omega) (by omega)).mp c_47
              have e9 : mnd kc = i := by omega
              subst e9
              refine lv_goto (tgt := 34) hx hb dX7_cone_137 (by decide) ?_
              exact ih (((m_cF kc) x).1) (((m_cF kc) x).2) H locs ls hf8 (by rw [hr9, k_it, if_neg c_35]) hP hD hS (lv_sub hl [0, 1, 2] rfl)
            · skip
              have c_47 : ¬ ((mnd kc) ≤ i) := fun h9 => c_47 ((nI_leI (a := (mnd kc)) (b := i) (by omega) (by omega)).mpr h9)
              exfalso; omega
          | succ k2 ih =>
            intro i H locs ls hi hP hD hS hl
            refine lv_iload_n hx hb dX7_cone_42 rfl (lv_at hl 3 rfl) ?_
            refine lv_aload_n hx hb dX7_cone_43 rfl (lv_at hl 0 rfl) ?_
            refine va_get (D := D) (ci := 7) (v := .int (nI (mnd kc))) (C := RX7) (T := TX7) (N := 15) hx hb hts (iwX7_cone_7) hown hK.1 hP 0 rfl rfl 5 (by decide) (hts (.fieldLink RX7 43 "InverterGraphsModel" "nodes" "I") (by decide +kernel)) (fun _ h9 => h9) rfl dX7_cone_44 ?_
            refine lv_icmp_ge (tgt := 137) hx hb dX7_cone_47 (by decide) (fun c_47 => ?_) (fun c_47 => ?_)
            · skip
              have c_47 : (mnd kc) ≤ i := (nI_leI (a := (mnd kc)) (b := i) (by omega) (by omega)).mp c_47
              exfalso; omega
            · skip
              have c_47 : ¬ ((mnd kc) ≤ i) := fun h9 => c_47 ((nI_leI (a := (mnd kc)) (b := i) (by omega) (by omega)).mpr h9)
              refine lv_aload_n hx hb dX7_cone_50 rfl (lv_at hl 0 rfl) ?_
              refine va_get (D := D) (ci := 7) (v := .ref (q 10)) (C := RX7) (T := TX7) (N := 15) hx hb hts (iwX7_cone_7) hown hK.1 hP 0 rfl rfl 14 (by decide) (hts (.fieldLink RX7 40 "InverterGraphsModel" "below" "[Z") (by decide +kernel)) (fun _ h9 => h9) rfl dX7_cone_51 ?_
              refine lv_iload_n hx hb dX7_cone_54 rfl (lv_at hl 3 rfl) ?_
              refine k_zald (D := D) (j := i) hx hb hK.1 hP 10 2 rfl rfl (by omega) (by omega) dX7_cone_55 ?_
              refine lv_if_eq (tgt := 131) hx hb dX7_cone_56 (by decide) (fun c_56 => ?_) (fun c_56 => ?_)
              · skip
                refine lv_iinc (v := nI (i + 1)) (lv' := [(3, .int (nI (i + 1))), (0, .ref (q 0)), (1, .int (nI p0)), (2, .int ((m_cw kc x i).1))]) hx hb dX7_cone_131 hl (k := 3) rfl (nI_1 _) (by decide) rfl (fun ls hl => ?_)
                refine lv_goto (tgt := 42) hx hb dX7_cone_134 (by decide) ?_
                have e9 : m_cw kc x (i + 1) = (m_cw kc x i) := by show m_cwS kc i _ = _; unfold m_cwS; rw [if_pos c_56]
                exact ih (i + 1) H locs ls (by omega) (by rw [e9]; exact hP) (by rw [e9]; exact hD) hS (by rw [e9]; exact lv_sub hl [1, 2, 3, 0] rfl)
              · skip
                refine lv_aload_n hx hb dX7_cone_59 rfl (lv_at hl 0 rfl) ?_
                refine va_get (D := D) (ci := 7) (v := .ref (q 1)) (C := RX7) (T := TX7) (N := 15) hx hb hts (iwX7_cone_7) hown hK.1 hP 0 rfl rfl 1 (by decide) (hts (.fieldLink RX7 7 "InverterGraphsModel" "sorts" "[I") (by decide +kernel)) (fun _ h9 => h9) rfl dX7_cone_60 ?_
                refine lv_iload_n hx hb dX7_cone_63 rfl (lv_at hl 3 rfl) ?_
                refine k_iald (D := D) (j := i) hx hb hK.1 hP 1 0 rfl rfl (by omega) (by omega) dX7_cone_64 ?_
                refine lv_iconst (v := 2) hx hb dX7_cone_65 (by decide) ?_
                refine lv_icmp_ne (tgt := 131) hx hb dX7_cone_66 (by decide) (fun c_66 => ?_) (fun c_66 => ?_)
                · skip
                  refine lv_iinc (v := nI (i + 1)) (lv' := [(3, .int (nI (i + 1))), (0, .ref (q 0)), (1, .int (nI p0)), (2, .int ((m_cw kc x i).1))]) hx hb dX7_cone_131 hl (k := 3) rfl (nI_1 _) (by decide) rfl (fun ls hl => ?_)
                  refine lv_goto (tgt := 42) hx hb dX7_cone_134 (by decide) ?_
                  have e9 : m_cw kc x (i + 1) = (m_cw kc x i) := by show m_cwS kc i _ = _; unfold m_cwS; rw [if_neg c_56, if_neg c_66]
                  exact ih (i + 1) H locs ls (by omega) (by rw [e9]; exact hP) (by rw [e9]; exact hD) hS (by rw [e9]; exact lv_sub hl [1, 2, 3, 0] rfl)
                · skip
                  have hx9 := hlt i (by omega) c_66
                  refine lv_aload_n hx hb dX7_cone_69 rfl (lv_at hl 0 rfl) ?_
                  refine va_get (D := D) (ci := 7) (v := .ref (q 10)) (C := RX7) (T := TX7) (N := 15) hx hb hts (iwX7_cone_7) hown hK.1 hP 0 rfl rfl 14 (by decide) (hts (.fieldLink RX7 40 "InverterGraphsModel" "below" "[Z") (by decide +kernel)) (fun _ h9 => h9) rfl dX7_cone_70 ?_
                  refine lv_aload_n hx hb dX7_cone_73 rfl (lv_at hl 0 rfl) ?_
                  refine va_get (D := D) (ci := 7) (v := .ref (q 2)) (C := RX7) (T := TX7) (N := 15) hx hb hts (iwX7_cone_7) hown hK.1 hP 0 rfl rfl 2 (by decide) (hts (.fieldLink RX7 13 "InverterGraphsModel" "ones" "[I") (by decide +kernel)) (fun _ h9 => h9) rfl dX7_cone_74 ?_
                  refine lv_iload_n hx hb dX7_cone_77 rfl (lv_at hl 3 rfl) ?_
                  refine k_iald (D := D) (j := i) hx hb hK.1 hP 2 0 rfl rfl (by omega) (by omega) dX7_cone_78 ?_
                  refine lv_iconst (v := 2) hx hb dX7_cone_79 (by decide) ?_
                  refine lv_idiv hx hb dX7_cone_80 (by decide) ?_
                  refine lv_topi (nm_r (pk_div (a := (mon kc) i) (d := 2) (by omega) (by omega) (by omega)) ?_)
                  refine k_zald (D := D) (j := ((mon kc) i) / 2) hx hb hK.1 hP 10 2 rfl rfl (by omega) (by omega) dX7_cone_81 ?_
                  refine lv_if_eq (tgt := 101) hx hb dX7_cone_82 (by decide) (fun c_82 => ?_) (fun c_82 => ?_)
                  · skip
                    refine lv_aload_n hx hb dX7_cone_101 rfl (lv_at hl 0 rfl) ?_
                    refine va_get (D := D) (ci := 7) (v := .ref (q 10)) (C := RX7) (T := TX7) (N := 15) hx hb hts (iwX7_cone_7) hown hK.1 hP 0 rfl rfl 14 (by decide) (hts (.fieldLink RX7 40 "InverterGraphsModel" "below" "[Z") (by decide +kernel)) (fun _ h9 => h9) rfl dX7_cone_102 ?_
                    refine lv_aload_n hx hb dX7_cone_105 rfl (lv_at hl 0 rfl) ?_
                    refine va_get (D := D) (ci := 7) (v := .ref (q 2)) (C := RX7) (T := TX7) (N := 15) hx hb hts (iwX7_cone_7) hown hK.1 hP 0 rfl rfl 2 (by decide) (hts (.fieldLink RX7 13 "InverterGraphsModel" "ones" "[I") (by decide +kernel)) (fun _ h9 => h9) rfl dX7_cone_106 ?_
                    refine lv_iload_n hx hb dX7_cone_109 rfl (lv_at hl 3 rfl) ?_
                    refine k_iald (D := D) (j := i) hx hb hK.1 hP 2 0 rfl rfl (by omega) (by omega) dX7_cone_110 ?_
                    refine lv_iconst (v := 2) hx hb dX7_cone_111 (by decide) ?_
                    refine lv_idiv hx hb dX7_cone_112 (by decide) ?_
                    refine lv_topi (nm_r (pk_div (a := (mon kc) i) (d := 2) (by omega) (by omega) (by omega)) ?_)
                    refine lv_iconst (v := 1) hx hb dX7_cone_113 (by decide) ?_
                    refine k_zast (D := D) (j := ((mon kc) i) / 2) hx hb hK.1 hP hD hS 10 2 rfl rfl (by omega) (by omega) (rfl) dX7_cone_114 (fun H locs hP hD hS => ?_)
                    have hP : va_P D vwCl (wN κ q th kc cp cn ro kn lv (upd ((m_cw kc x i).2) (((mon kc) i) / 2) 1)) H := hP
                    have hD : va_D A (wN κ q th kc cp cn ro kn lv (upd ((m_cw kc x i).2) (((mon kc) i) / 2) 1)) := hD
                    refine lv_aload_n hx hb dX7_cone_115 rfl (lv_at hl 0 rfl) ?_
                    refine va_get (D := D) (ci := 7) (v := .ref (q 10)) (C := RX7) (T := TX7) (N := 15) hx hb hts (iwX7_cone_7) hown hK.1 hP 0 rfl rfl 14 (by decide) (hts (.fieldLink RX7 40 "InverterGraphsModel" "below" "[Z") (by decide +kernel)) (fun _ h9 => h9) rfl dX7_cone_116 ?_
                    refine lv_aload_n hx hb dX7_cone_119 rfl (lv_at hl 0 rfl) ?_
                    refine va_get (D := D) (ci := 7) (v := .ref (q 3)) (C := RX7) (T := TX7) (N := 15) hx hb hts (iwX7_cone_7) hown hK.1 hP 0 rfl rfl 3 (by decide) (hts (.fieldLink RX7 16 "InverterGraphsModel" "twos" "[I") (by decide +kernel)) (fun _ h9 => h9) rfl dX7_cone_120 ?_
                    refine lv_iload_n hx hb dX7_cone_123 rfl (lv_at hl 3 rfl) ?_
                    refine k_iald (D := D) (j := i) hx hb hK.1 hP 3 0 rfl rfl (by omega) (by omega) dX7_cone_124 ?_
                    refine lv_iconst (v := 2) hx hb dX7_cone_125 (by decide) ?_
                    refine lv_idiv hx hb dX7_cone_126 (by decide) ?_
                    refine lv_topi (nm_r (pk_div (a := (mtw kc) i) (d := 2) (by omega) (by omega) (by omega)) ?_)
                    refine lv_iconst (v := 1) hx hb dX7_cone_127 (by decide) ?_
                    refine k_zast (D := D) (j := ((mtw kc) i) / 2) hx hb hK.1 hP hD hS 10 2 rfl rfl (by omega) (by omega) (rfl) dX7_cone_128 (fun H locs hP hD hS => ?_)
                    have hP : va_P D vwCl (wN κ q th kc cp cn ro kn lv (upd (upd ((m_cw kc x i).2) (((mon kc) i) / 2) 1) (((mtw kc) i) / 2) 1)) H := hP
                    have hD : va_D A (wN κ q th kc cp cn ro kn lv (upd (upd ((m_cw kc x i).2) (((mon kc) i) / 2) 1) (((mtw kc) i) / 2) 1)) := hD
                    refine lv_iconst (v := 1) hx hb dX7_cone_129 (by decide) ?_
                    refine lv_istore_n (lv' := [(2, .int 1), (0, .ref (q 0)), (1, .int (nI p0)), (3, .int (nI i))]) hx hb dX7_cone_130 rfl hl (by decide) rfl (fun ls hl => ?_)
                    refine lv_iinc (v := nI (i + 1)) (lv' := [(3, .int (nI (i + 1))), (2, .int 1), (0, .ref (q 0)), (1, .int (nI p0))]) hx hb dX7_cone_131 hl (k := 3) rfl (nI_1 _) (by decide) rfl (fun ls hl => ?_)
                    refine lv_goto (tgt := 42) hx hb dX7_cone_134 (by decide) ?_
                    have e9 : m_cw kc x (i + 1) = (1, upd (upd ((m_cw kc x i).2) (((mon kc) i) / 2) 1) (((mtw kc) i) / 2) 1) := by show m_cwS kc i _ = _; unfold m_cwS; rw [if_neg c_56, if_pos c_66, if_pos c_82]
                    exact ih (i + 1) H locs ls (by omega) (by rw [e9]; exact hP) (by rw [e9]; exact hD) hS (by rw [e9]; exact lv_sub hl [2, 3, 1, 0] rfl)
                  · skip
                    refine lv_aload_n hx hb dX7_cone_85 rfl (lv_at hl 0 rfl) ?_
                    refine va_get (D := D) (ci := 7) (v := .ref (q 10)) (C := RX7) (T := TX7) (N := 15) hx hb hts (iwX7_cone_7) hown hK.1 hP 0 rfl rfl 14 (by decide) (hts (.fieldLink RX7 40 "InverterGraphsModel" "below" "[Z") (by decide +kernel)) (fun _ h9 => h9) rfl dX7_cone_86 ?_
                    refine lv_aload_n hx hb dX7_cone_89 rfl (lv_at hl 0 rfl) ?_
                    refine va_get (D := D) (ci := 7) (v := .ref (q 3)) (C := RX7) (T := TX7) (N := 15) hx hb hts (iwX7_cone_7) hown hK.1 hP 0 rfl rfl 3 (by decide) (hts (.fieldLink RX7 16 "InverterGraphsModel" "twos" "[I") (by decide +kernel)) (fun _ h9 => h9) rfl dX7_cone_90 ?_
                    refine lv_iload_n hx hb dX7_cone_93 rfl (lv_at hl 3 rfl) ?_
                    refine k_iald (D := D) (j := i) hx hb hK.1 hP 3 0 rfl rfl (by omega) (by omega) dX7_cone_94 ?_
                    refine lv_iconst (v := 2) hx hb dX7_cone_95 (by decide) ?_
                    refine lv_idiv hx hb dX7_cone_96 (by decide) ?_
                    refine lv_topi (nm_r (pk_div (a := (mtw kc) i) (d := 2) (by omega) (by omega) (by omega)) ?_)
                    refine k_zald (D := D) (j := ((mtw kc) i) / 2) hx hb hK.1 hP 10 2 rfl rfl (by omega) (by omega) dX7_cone_97 ?_
                    refine lv_if_ne (tgt := 131) hx hb dX7_cone_98 (by decide) (fun c_98 => ?_) (fun c_98 => ?_)
                    · skip
                      refine lv_iinc (v := nI (i + 1)) (lv' := [(3, .int (nI (i + 1))), (0, .ref (q 0)), (1, .int (nI p0)), (2, .int ((m_cw kc x i).1))]) hx hb dX7_cone_131 hl (k := 3) rfl (nI_1 _) (by decide) rfl (fun ls hl => ?_)
                      refine lv_goto (tgt := 42) hx hb dX7_cone_134 (by decide) ?_
                      have e9 : m_cw kc x (i + 1) = (m_cw kc x i) := by show m_cwS kc i _ = _; unfold m_cwS; rw [if_neg c_56, if_pos c_66, if_neg c_82, if_neg c_98]
                      exact ih (i + 1) H locs ls (by omega) (by rw [e9]; exact hP) (by rw [e9]; exact hD) hS (by rw [e9]; exact lv_sub hl [1, 2, 3, 0] rfl)
                    · skip
                      refine lv_aload_n hx hb dX7_cone_101 rfl (lv_at hl 0 rfl) ?_
                      refine va_get (D := D) (ci := 7) (v := .ref (q 10)) (C := RX7) (T := TX7) (N := 15) hx hb hts (iwX7_cone_7) hown hK.1 hP 0 rfl rfl 14 (by decide) (hts (.fieldLink RX7 40 "InverterGraphsModel" "below" "[Z") (by decide +kernel)) (fun _ h9 => h9) rfl dX7_cone_102 ?_
                      refine lv_aload_n hx hb dX7_cone_105 rfl (lv_at hl 0 rfl) ?_
                      refine va_get (D := D) (ci := 7) (v := .ref (q 2)) (C := RX7) (T := TX7) (N := 15) hx hb hts (iwX7_cone_7) hown hK.1 hP 0 rfl rfl 2 (by decide) (hts (.fieldLink RX7 13 "InverterGraphsModel" "ones" "[I") (by decide +kernel)) (fun _ h9 => h9) rfl dX7_cone_106 ?_
                      refine lv_iload_n hx hb dX7_cone_109 rfl (lv_at hl 3 rfl) ?_
                      refine k_iald (D := D) (j := i) hx hb hK.1 hP 2 0 rfl rfl (by omega) (by omega) dX7_cone_110 ?_
                      refine lv_iconst (v := 2) hx hb dX7_cone_111 (by decide) ?_
                      refine lv_idiv hx hb dX7_cone_112 (by decide) ?_
                      refine lv_topi (nm_r (pk_div (a := (mon kc) i) (d := 2) (by omega) (by omega) (by omega)) ?_)
                      refine lv_iconst (v := 1) hx hb dX7_cone_113 (by decide) ?_
                      refine k_zast (D := D) (j := ((mon kc) i) / 2) hx hb hK.1 hP hD hS 10 2 rfl rfl (by omega) (by omega) (rfl) dX7_cone_114 (fun H locs hP hD hS => ?_)
                      have hP : va_P D vwCl (wN κ q th kc cp cn ro kn lv (upd ((m_cw kc x i).2) (((mon kc) i) / 2) 1)) H := hP
                      have hD : va_D A (wN κ q th kc cp cn ro kn lv (upd ((m_cw kc x i).2) (((mon kc) i) / 2) 1)) := hD
                      refine lv_aload_n hx hb dX7_cone_115 rfl (lv_at hl 0 rfl) ?_
                      refine va_get (D := D) (ci := 7) (v := .ref (q 10)) (C := RX7) (T := TX7) (N := 15) hx hb hts (iwX7_cone_7) hown hK.1 hP 0 rfl rfl 14 (by decide) (hts (.fieldLink RX7 40 "InverterGraphsModel" "below" "[Z") (by decide +kernel)) (fun _ h9 => h9) rfl dX7_cone_116 ?_
                      refine lv_aload_n hx hb dX7_cone_119 rfl (lv_at hl 0 rfl) ?_
                      refine va_get (D := D) (ci := 7) (v := .ref (q 3)) (C := RX7) (T := TX7) (N := 15) hx hb hts (iwX7_cone_7) hown hK.1 hP 0 rfl rfl 3 (by decide) (hts (.fieldLink RX7 16 "InverterGraphsModel" "twos" "[I") (by decide +kernel)) (fun _ h9 => h9) rfl dX7_cone_120 ?_
                      refine lv_iload_n hx hb dX7_cone_123 rfl (lv_at hl 3 rfl) ?_
                      refine k_iald (D := D) (j := i) hx hb hK.1 hP 3 0 rfl rfl (by omega) (by omega) dX7_cone_124 ?_
                      refine lv_iconst (v := 2) hx hb dX7_cone_125 (by decide) ?_
                      refine lv_idiv hx hb dX7_cone_126 (by decide) ?_
                      refine lv_topi (nm_r (pk_div (a := (mtw kc) i) (d := 2) (by omega) (by omega) (by omega)) ?_)
                      refine lv_iconst (v := 1) hx hb dX7_cone_127 (by decide) ?_
                      refine k_zast (D := D) (j := ((mtw kc) i) / 2) hx hb hK.1 hP hD hS 10 2 rfl rfl (by omega) (by omega) (rfl) dX7_cone_128 (fun H locs hP hD hS => ?_)
                      have hP : va_P D vwCl (wN κ q th kc cp cn ro kn lv (upd (upd ((m_cw kc x i).2) (((mon kc) i) / 2) 1) (((mtw kc) i) / 2) 1)) H := hP
                      have hD : va_D A (wN κ q th kc cp cn ro kn lv (upd (upd ((m_cw kc x i).2) (((mon kc) i) / 2) 1) (((mtw kc) i) / 2) 1)) := hD
                      refine lv_iconst (v := 1) hx hb dX7_cone_129 (by decide) ?_
                      refine lv_istore_n (lv' := [(2, .int 1), (0, .ref (q 0)), (1, .int (nI p0)), (3, .int (nI i))]) hx hb dX7_cone_130 rfl hl (by decide) rfl (fun ls hl => ?_)
                      refine lv_iinc (v := nI (i + 1)) (lv' := [(3, .int (nI (i + 1))), (2, .int 1), (0, .ref (q 0)), (1, .int (nI p0))]) hx hb dX7_cone_131 hl (k := 3) rfl (nI_1 _) (by decide) rfl (fun ls hl => ?_)
                      refine lv_goto (tgt := 42) hx hb dX7_cone_134 (by decide) ?_
                      have e9 : m_cw kc x (i + 1) = (1, upd (upd ((m_cw kc x i).2) (((mon kc) i) / 2) 1) (((mtw kc) i) / 2) 1) := by show m_cwS kc i _ = _; unfold m_cwS; rw [if_neg c_56, if_pos c_66, if_neg c_82, if_pos c_98]
                      exact ih (i + 1) H locs ls (by omega) (by rw [e9]; exact hP) (by rw [e9]; exact hD) hS (by rw [e9]; exact lv_sub hl [2, 3, 1, 0] rfl)
        exact li (mnd kc) 0 H locs ls (by omega) hP hD hS (lv_sub hl [2, 3, 1, 0] rfl)
  have lp : ∀ (k i : Nat) (H : Heap) (locs : List Loc) (ls : Array Slot), (i + k = mnd kc) → va_P D vwCl (wN κ q th kc cp cn ro kn lv (m_cn0 be p0 i)) H → va_D A (wN κ q th kc cp cn ro kn lv (m_cn0 be p0 i)) → va_S A s.heap H locs → lv_has ls 4 [(0, .ref (q 0)), (1, .int (nI p0)), (2, .int (nI i))] → W p l e (headSpec wsX7_cone ({ frames := 0, cells := 0, slots := 0, locals := 0 })).room s m ([.ref (q 0), .int (nI p0)] : List Value).toArray below meth c H locs 0 0 (MQ below (va_Qv (S := (Nat → Int32)) (fun u => u = k_it (m_cF kc) K 1 (m_cn0 be p0 (mnd kc))) (fun u => k_B D A (wN κ q th kc cp cn ro kn lv u)) A) ([.ref (q 0), .int (nI p0)] : List Value).toArray s 0 0 A) (F0 m 2 ls []) := by
    intro k
    induction k with
    | zero =>
      intro i H locs ls hi hP hD hS hl
      refine lv_iload_n hx hb dX7_cone_2 rfl (lv_at hl 2 rfl) ?_
      refine lv_aload_n hx hb dX7_cone_3 rfl (lv_at hl 0 rfl) ?_
      refine va_get (D := D) (ci := 7) (v := .int (nI (mnd kc))) (C := RX7) (T := TX7) (N := 15) hx hb hts (iwX7_cone_7) hown hK.1 hP 0 rfl rfl 5 (by decide) (hts (.fieldLink RX7 43 "InverterGraphsModel" "nodes" "I") (by decide +kernel)) (fun _ h9 => h9) rfl dX7_cone_4 ?_
      refine lv_icmp_ge (tgt := 32) hx hb dX7_cone_7 (by decide) (fun c_7 => ?_) (fun c_7 => ?_)
      · skip
        have c_7 : (mnd kc) ≤ i := (nI_leI (a := (mnd kc)) (b := i) (by omega) (by omega)).mp c_7
        have e9 : mnd kc = i := by omega
        subst e9
        refine lv_iconst (v := 1) hx hb dX7_cone_32 (by decide) ?_
        refine lv_istore_n (lv' := [(2, .int 1), (0, .ref (q 0)), (1, .int (nI p0))]) hx hb dX7_cone_33 rfl hl (by decide) rfl (fun ls hl => ?_)
        exact lo K 1 (m_cn0 be p0 (mnd kc)) H locs ls hfin hF9 hP hD hS (lv_sub hl [1, 2, 0] rfl)
      · skip
        have c_7 : ¬ ((mnd kc) ≤ i) := fun h9 => c_7 ((nI_leI (a := (mnd kc)) (b := i) (by omega) (by omega)).mpr h9)
        exfalso; omega
    | succ k ih =>
      intro i H locs ls hi hP hD hS hl
      refine lv_iload_n hx hb dX7_cone_2 rfl (lv_at hl 2 rfl) ?_
      refine lv_aload_n hx hb dX7_cone_3 rfl (lv_at hl 0 rfl) ?_
      refine va_get (D := D) (ci := 7) (v := .int (nI (mnd kc))) (C := RX7) (T := TX7) (N := 15) hx hb hts (iwX7_cone_7) hown hK.1 hP 0 rfl rfl 5 (by decide) (hts (.fieldLink RX7 43 "InverterGraphsModel" "nodes" "I") (by decide +kernel)) (fun _ h9 => h9) rfl dX7_cone_4 ?_
      refine lv_icmp_ge (tgt := 32) hx hb dX7_cone_7 (by decide) (fun c_7 => ?_) (fun c_7 => ?_)
      · skip
        have c_7 : (mnd kc) ≤ i := (nI_leI (a := (mnd kc)) (b := i) (by omega) (by omega)).mp c_7
        exfalso; omega
      · skip
        have c_7 : ¬ ((mnd kc) ≤ i) := fun h9 => c_7 ((nI_leI (a := (mnd kc)) (b := i) (by omega) (by omega)).mpr h9)
        refine lv_aload_n hx hb dX7_cone_10 rfl (lv_at hl 0 rfl) ?_
        refine va_get (D := D) (ci := 7) (v := .ref (q 10)) (C := RX7) (T := TX7) (N := 15) hx hb hts (iwX7_cone_7) hown hK.1 hP 0 rfl rfl 14 (by decide) (hts (.fieldLink RX7 40 "InverterGraphsModel" "below" "[Z") (by decide +kernel)) (fun _ h9 => h9) rfl dX7_cone_11 ?_
        refine lv_iload_n hx hb dX7_cone_14 rfl (lv_at hl 2 rfl) ?_
        refine lv_iload_n hx hb dX7_cone_15 rfl (lv_at hl 2 rfl) ?_
        have J_16 : ∀ z : Int32, z = (if i = p0 then 1 else 0) → W p l e (headSpec wsX7_cone ({ frames := 0, cells := 0, slots := 0, locals := 0 })).room s m ([.ref (q 0), .int (nI p0)] : List Value).toArray below meth c H locs 0 0 (MQ below (va_Qv (S := (Nat → Int32)) (fun u => u = k_it (m_cF kc) K 1 (m_cn0 be p0 (mnd kc))) (fun u => k_B D A (wN κ q th kc cp cn ro kn lv u)) A) ([.ref (q 0), .int (nI p0)] : List Value).toArray s 0 0 A) (F0 m 25 ls [.int z, .int (nI i), .ref (q 10)]) := by
          intro z ez
          subst ez
          refine k_zast (D := D) (j := i) hx hb hK.1 hP hD hS 10 2 rfl rfl (by omega) (by omega) ((by repeat (first | rfl | split))) dX7_cone_25 (fun H locs hP hD hS => ?_)
          have hP : va_P D vwCl (wN κ q th kc cp cn ro kn lv (upd (m_cn0 be p0 i) i (if i = p0 then 1 else 0))) H := hP
          have hD : va_D A (wN κ q th kc cp cn ro kn lv (upd (m_cn0 be p0 i) i (if i = p0 then 1 else 0))) := hD
          refine lv_iinc (v := nI (i + 1)) (lv' := [(2, .int (nI (i + 1))), (0, .ref (q 0)), (1, .int (nI p0))]) hx hb dX7_cone_26 hl (k := 2) rfl (nI_1 _) (by decide) rfl (fun ls hl => ?_)
          refine lv_goto (tgt := 2) hx hb dX7_cone_29 (by decide) ?_
          exact ih (i + 1) H locs ls (by omega) (by rw [← m_cn0_s]; exact hP) (by rw [← m_cn0_s]; exact hD) hS (lv_sub hl [1, 2, 0] rfl)
        refine lv_iload_n hx hb dX7_cone_16 rfl (lv_at hl 1 rfl) ?_
        refine lv_icmp_ne (tgt := 24) hx hb dX7_cone_17 (by decide) (fun c_17 => ?_) (fun c_17 => ?_)
        · skip
          have c_17 : ¬ (i = p0) := fun h9 => c_17 ((nI_eq (a := i) (b := p0) (by omega) (by omega)).mpr h9)
          refine lv_iconst (v := 0) hx hb dX7_cone_24 (by decide) ?_
          exact J_16 _ (by rw [if_neg c_17])
        · skip
          have c_17 : i = p0 := (nI_eq (a := i) (b := p0) (by omega) (by omega)).mp c_17
          refine lv_iconst (v := 1) hx hb dX7_cone_20 (by decide) ?_
          refine lv_goto (tgt := 25) hx hb dX7_cone_21 (by decide) ?_
          exact J_16 _ (by rw [if_pos c_17])
  exact lp (mnd kc) 0 _ _ ls (by omega) (by rw [m_cn0_0]; exact hP) (by rw [m_cn0_0]; exact hD) hS (lv_sub hl [1, 2, 0] rfl)
theorem iwX7_used_7 : ∀ w ∈ wsX70, w ∈ wsX7_used := by decide +kernel
set_option maxHeartbeats 4000000 in
set_option maxRecDepth 100000 in
theorem c_X7_used (l : Launch) (D : va_G) (κ : Nat → ClassId) (sz : Nat) (q : Nat → Nat) (th : Int32) (kc : KC) (cp : Nat → Int32) (cn : Nat) (ro : Nat → Int64) (kn : Int32) (lv be : Nat → Int32) (K : Nat) (hnd : mnd kc ≤ 400) (hoc : moc kc ≤ 40) (hcn : cn ≤ 30) (hlt : ∀ j, j < mnd kc → mso kc j = 2 → mon kc j < 2 * mnd kc ∧ mtw kc j < 2 * mnd kc) (hla : ∀ j, j < mnd kc → mso kc j = 3 → mon kc j < 2 * mnd kc) (hlo : ∀ j, j < moc kc → mou kc j < 2 * mnd kc) (hfin : k_itF (m_cF kc) (fun _ => True) K 1 (m_us0 kc be)) : k_muv (S := (Nat → Int32)) l yX7_used wsX7_used 0 0 0 0 D κ [.ref (q 0)] (wN κ q th kc cp cn ro kn lv be) sz (fun u => u = k_it (m_cF kc) K 1 (m_us0 kc be)) (fun u => wN κ q th kc cp cn ro kn lv u) := by
  refine Met.ofW (cc := cX7_used) (maxL := 3) (ret := none) (by decide) rfl ?_
  intro p e s m args below meth c s₁ B hml hv
  obtain ⟨rfl, hsz, hK, hP, hD0⟩ := hv
  have hx := B.exec
  have hb := B.bytes
  have hr := B.returns
  have hts := atoms_spec (ws := wsX7_used) B.pre
  have hown : s.vm.findClass RX7 = some m.cls := findClass_of_methodNamed B.named
  have hlocks := B.notSynchronized
  subst hsz
  have hD := hD0.self (sz := s.heap.size)
  generalize hAe : va_A (wN κ q th kc cp cn ro kn lv be) s.heap.size = A at hD ⊢
  have hA : ∀ q : Nat, s.heap.size ≤ q → A q := fun q h => by rw [← hAe]; exact Or.inr h
  have hS : va_S A s.heap s.heap [] := va_S.rf
  have hP : va_P D vwCl (wN κ q th kc cp cn ro kn lv be) s.heap := hP
  have hl := lv_entry ([.ref (q 0)]) (n := 3) (Nat.le_of_ble_eq_true rfl)
  rw [lg_entry_eq]
  generalize (lg_sl ([.ref (q 0)]) ++ List.replicate (3 - (lg_sl ([.ref (q 0)])).length) Slot.unset).toArray = ls at hl ⊢
  have hl : lv_has ls 3 [(0, .ref (q 0))] := hl
  refine lv_iconst (v := 0) hx hb dX7_used_0 (by decide) ?_
  refine lv_istore_n (lv' := [(1, .int 0), (0, .ref (q 0))]) hx hb dX7_used_1 rfl hl (by decide) rfl (fun ls hl => ?_)
  obtain ⟨FIN9, hF9⟩ : ∃ z, z = k_it (m_cF kc) K 1 (m_us0 kc be) := ⟨_, rfl⟩
  have lo : ∀ (k : Nat) (y : Int32) (x : Nat → Int32) (H : Heap) (locs : List Loc) (ls : Array Slot), (k_itF (m_cF kc) (fun _ => True) k y x) → (FIN9 = k_it (m_cF kc) k y x) → va_P D vwCl (wN κ q th kc cp cn ro kn lv x) H → va_D A (wN κ q th kc cp cn ro kn lv x) → va_S A s.heap H locs → lv_has ls 3 [(0, .ref (q 0)), (1, .int y)] → W p l e (headSpec wsX7_used ({ frames := 0, cells := 0, slots := 0, locals := 0 })).room s m ([.ref (q 0)] : List Value).toArray below meth c H locs 0 0 (MQ below (va_Qv (S := (Nat → Int32)) (fun u => u = k_it (m_cF kc) K 1 (m_us0 kc be)) (fun u => k_B D A (wN κ q th kc cp cn ro kn lv u)) A) ([.ref (q 0)] : List Value).toArray s 0 0 A) (F0 m 95 ls []) := by
    intro k
    induction k with
    | zero =>
      intro y x H locs ls hf9 hr9 hP hD hS hl
      refine lv_iload_n hx hb dX7_used_95 rfl (lv_at hl 1 rfl) ?_
      refine lv_if_eq (tgt := 201) hx hb dX7_used_96 (by decide) (fun c_96 => ?_) (fun c_96 => ?_)
      · skip
        exact W.vret hx hb hr (fun t ht hW => ⟨⟨x, rfl, (by rw [← hF9]; exact Eq.symm (by rw [hr9, k_it])), by rw [ht]; exact hP, hD⟩, hS.F ht⟩) hS.2.2 dX7_used_201
      · skip
        exfalso; exact c_96 hf9.1
    | succ k ih =>
      intro y x H locs ls hf9 hr9 hP hD hS hl
      refine lv_iload_n hx hb dX7_used_95 rfl (lv_at hl 1 rfl) ?_
      refine lv_if_eq (tgt := 201) hx hb dX7_used_96 (by decide) (fun c_96 => ?_) (fun c_96 => ?_)
      · skip
        exact W.vret hx hb hr (fun t ht hW => ⟨⟨x, rfl, (by rw [← hF9]; exact Eq.symm (by rw [hr9, k_it, if_pos c_96])), by rw [ht]; exact hP, hD⟩, hS.F ht⟩) hS.2.2 dX7_used_201
      · skip
        have hf8 := hf9.2.resolve_left c_96
        refine lv_iconst (v := 0) hx hb dX7_used_99 (by decide) ?_
        refine lv_istore_n (lv' := [(1, .int 0), (0, .ref (q 0))]) hx hb dX7_used_100 rfl hl (by decide) rfl (fun ls hl => ?_)
        refine lv_iconst (v := 0) hx hb dX7_used_101 (by decide) ?_
        refine lv_istore_n (lv' := [(2, .int 0), (1, .int 0), (0, .ref (q 0))]) hx hb dX7_used_102 rfl hl (by decide) rfl (fun ls hl => ?_)
        have li : ∀ (k2 i : Nat) (H : Heap) (locs : List Loc) (ls : Array Slot), (i + k2 = mnd kc) → va_P D vwCl (wN κ q th kc cp cn ro kn lv ((m_cw kc x i).2)) H → va_D A (wN κ q th kc cp cn ro kn lv ((m_cw kc x i).2)) → va_S A s.heap H locs → lv_has ls 3 [(0, .ref (q 0)), (1, .int ((m_cw kc x i).1)), (2, .int (nI i))] → W p l e (headSpec wsX7_used ({ frames := 0, cells := 0, slots := 0, locals := 0 })).room s m ([.ref (q 0)] : List Value).toArray below meth c H locs 0 0 (MQ below (va_Qv (S := (Nat → Int32)) (fun u => u = k_it (m_cF kc) K 1 (m_us0 kc be)) (fun u => k_B D A (wN κ q th kc cp cn ro kn lv u)) A) ([.ref (q 0)] : List Value).toArray s 0 0 A) (F0 m 103 ls []) := by
          intro k2
          induction k2 with
          | zero =>
            intro i H locs ls hi hP hD hS hl
            refine lv_iload_n hx hb dX7_used_103 rfl (lv_at hl 2 rfl) ?_
            refine lv_aload_n hx hb dX7_used_104 rfl (lv_at hl 0 rfl) ?_
            refine va_get (D := D) (ci := 7) (v := .int (nI (mnd kc))) (C := RX7) (T := TX7) (N := 15) hx hb hts (iwX7_used_7) hown hK.1 hP 0 rfl rfl 5 (by decide) (hts (.fieldLink RX7 43 "InverterGraphsModel" "nodes" "I") (by decide +kernel)) (fun _ h9 => h9) rfl dX7_used_105 ?_
            refine lv_icmp_ge (tgt := 198) hx hb dX7_used_108 (by decide) (fun c_108 => ?_) (fun c_108 => ?_)
            · skip
              have c_108 : (mnd kc) ≤ i := (nI_leI (a := (mnd kc)) (b := i) (by omega) (by omega)).mp c_108
              have e9 : mnd kc = i := by omega
              subst e9
              refine lv_goto (tgt := 95) hx hb dX7_used_198 (by decide) ?_
              exact ih (((m_cF kc) x).1) (((m_cF kc) x).2) H locs ls hf8 (by rw [hr9, k_it, if_neg c_96]) hP hD hS (lv_sub hl [0, 1] rfl)
            · skip
              have c_108 : ¬ ((mnd kc) ≤ i) := fun h9 => c_108 ((nI_leI (a := (mnd kc)) (b := i) (by omega) (by omega)).mpr h9)
              exfalso; omega
          | succ k2 ih =>
            intro i H locs ls hi hP hD hS hl
            refine lv_iload_n hx hb dX7_used_103 rfl (lv_at hl 2 rfl) ?_
            refine lv_aload_n hx hb dX7_used_104 rfl (lv_at hl 0 rfl) ?_
            refine va_get (D := D) (ci := 7) (v := .int (nI (mnd kc))) (C := RX7) (T := TX7) (N := 15) hx hb hts (iwX7_used_7) hown hK.1 hP 0 rfl rfl 5 (by decide) (hts (.fieldLink RX7 43 "InverterGraphsModel" "nodes" "I") (by decide +kernel)) (fun _ h9 => h9) rfl dX7_used_105 ?_
            refine lv_icmp_ge (tgt := 198) hx hb dX7_used_108 (by decide) (fun c_108 => ?_) (fun c_108 => ?_)
            · skip
              have c_108 : (mnd kc) ≤ i := (nI_leI (a := (mnd kc)) (b := i) (by omega) (by omega)).mp c_108
              exfalso; omega
            · skip
              have c_108 : ¬ ((mnd kc) ≤ i) := fun h9 => c_108 ((nI_leI (a := (mnd kc)) (b := i) (by omega) (by omega)).mpr h9)
              refine lv_aload_n hx hb dX7_used_111 rfl (lv_at hl 0 rfl) ?_
              refine va_get (D := D) (ci := 7) (v := .ref (q 10)) (C := RX7) (T := TX7) (N := 15) hx hb hts (iwX7_used_7) hown hK.1 hP 0 rfl rfl 14 (by decide) (hts (.fieldLink RX7 40 "InverterGraphsModel" "below" "[Z") (by decide +kernel)) (fun _ h9 => h9) rfl dX7_used_112 ?_
              refine lv_iload_n hx hb dX7_used_115 rfl (lv_at hl 2 rfl) ?_
              refine k_zald (D := D) (j := i) hx hb hK.1 hP 10 2 rfl rfl (by omega) (by omega) dX7_used_116 ?_
              refine lv_if_eq (tgt := 192) hx hb dX7_used_117 (by decide) (fun c_117 => ?_) (fun c_117 => ?_)
              · skip
                refine lv_iinc (v := nI (i + 1)) (lv' := [(2, .int (nI (i + 1))), (0, .ref (q 0)), (1, .int ((m_cw kc x i).1))]) hx hb dX7_used_192 hl (k := 2) rfl (nI_1 _) (by decide) rfl (fun ls hl => ?_)
                refine lv_goto (tgt := 103) hx hb dX7_used_195 (by decide) ?_
                have e9 : m_cw kc x (i + 1) = (m_cw kc x i) := by show m_cwS kc i _ = _; unfold m_cwS; rw [if_pos c_117]
                exact ih (i + 1) H locs ls (by omega) (by rw [e9]; exact hP) (by rw [e9]; exact hD) hS (by rw [e9]; exact lv_sub hl [1, 2, 0] rfl)
              · skip
                refine lv_aload_n hx hb dX7_used_120 rfl (lv_at hl 0 rfl) ?_
                refine va_get (D := D) (ci := 7) (v := .ref (q 1)) (C := RX7) (T := TX7) (N := 15) hx hb hts (iwX7_used_7) hown hK.1 hP 0 rfl rfl 1 (by decide) (hts (.fieldLink RX7 7 "InverterGraphsModel" "sorts" "[I") (by decide +kernel)) (fun _ h9 => h9) rfl dX7_used_121 ?_
                refine lv_iload_n hx hb dX7_used_124 rfl (lv_at hl 2 rfl) ?_
                refine k_iald (D := D) (j := i) hx hb hK.1 hP 1 0 rfl rfl (by omega) (by omega) dX7_used_125 ?_
                refine lv_iconst (v := 2) hx hb dX7_used_126 (by decide) ?_
                refine lv_icmp_ne (tgt := 192) hx hb dX7_used_127 (by decide) (fun c_127 => ?_) (fun c_127 => ?_)
                · skip
                  refine lv_iinc (v := nI (i + 1)) (lv' := [(2, .int (nI (i + 1))), (0, .ref (q 0)), (1, .int ((m_cw kc x i).1))]) hx hb dX7_used_192 hl (k := 2) rfl (nI_1 _) (by decide) rfl (fun ls hl => ?_)
                  refine lv_goto (tgt := 103) hx hb dX7_used_195 (by decide) ?_
                  have e9 : m_cw kc x (i + 1) = (m_cw kc x i) := by show m_cwS kc i _ = _; unfold m_cwS; rw [if_neg c_117, if_neg c_127]
                  exact ih (i + 1) H locs ls (by omega) (by rw [e9]; exact hP) (by rw [e9]; exact hD) hS (by rw [e9]; exact lv_sub hl [1, 2, 0] rfl)
                · skip
                  have hx9 := hlt i (by omega) c_127
                  refine lv_aload_n hx hb dX7_used_130 rfl (lv_at hl 0 rfl) ?_
                  refine va_get (D := D) (ci := 7) (v := .ref (q 10)) (C := RX7) (T := TX7) (N := 15) hx hb hts (iwX7_used_7) hown hK.1 hP 0 rfl rfl 14 (by decide) (hts (.fieldLink RX7 40 "InverterGraphsModel" "below" "[Z") (by decide +kernel)) (fun _ h9 => h9) rfl dX7_used_131 ?_
                  refine lv_aload_n hx hb dX7_used_134 rfl (lv_at hl 0 rfl) ?_
                  refine va_get (D := D) (ci := 7) (v := .ref (q 2)) (C := RX7) (T := TX7) (N := 15) hx hb hts (iwX7_used_7) hown hK.1 hP 0 rfl rfl 2 (by decide) (hts (.fieldLink RX7 13 "InverterGraphsModel" "ones" "[I") (by decide +kernel)) (fun _ h9 => h9) rfl dX7_used_135 ?_
                  refine lv_iload_n hx hb dX7_used_138 rfl (lv_at hl 2 rfl) ?_
                  refine k_iald (D := D) (j := i) hx hb hK.1 hP 2 0 rfl rfl (by omega) (by omega) dX7_used_139 ?_
                  refine lv_iconst (v := 2) hx hb dX7_used_140 (by decide) ?_
                  refine lv_idiv hx hb dX7_used_141 (by decide) ?_
                  refine lv_topi (nm_r (pk_div (a := (mon kc) i) (d := 2) (by omega) (by omega) (by omega)) ?_)
                  refine k_zald (D := D) (j := ((mon kc) i) / 2) hx hb hK.1 hP 10 2 rfl rfl (by omega) (by omega) dX7_used_142 ?_
                  refine lv_if_eq (tgt := 162) hx hb dX7_used_143 (by decide) (fun c_143 => ?_) (fun c_143 => ?_)
                  · skip
                    refine lv_aload_n hx hb dX7_used_162 rfl (lv_at hl 0 rfl) ?_
                    refine va_get (D := D) (ci := 7) (v := .ref (q 10)) (C := RX7) (T := TX7) (N := 15) hx hb hts (iwX7_used_7) hown hK.1 hP 0 rfl rfl 14 (by decide) (hts (.fieldLink RX7 40 "InverterGraphsModel" "below" "[Z") (by decide +kernel)) (fun _ h9 => h9) rfl dX7_used_163 ?_
                    refine lv_aload_n hx hb dX7_used_166 rfl (lv_at hl 0 rfl) ?_
                    refine va_get (D := D) (ci := 7) (v := .ref (q 2)) (C := RX7) (T := TX7) (N := 15) hx hb hts (iwX7_used_7) hown hK.1 hP 0 rfl rfl 2 (by decide) (hts (.fieldLink RX7 13 "InverterGraphsModel" "ones" "[I") (by decide +kernel)) (fun _ h9 => h9) rfl dX7_used_167 ?_
                    refine lv_iload_n hx hb dX7_used_170 rfl (lv_at hl 2 rfl) ?_
                    refine k_iald (D := D) (j := i) hx hb hK.1 hP 2 0 rfl rfl (by omega) (by omega) dX7_used_171 ?_
                    refine lv_iconst (v := 2) hx hb dX7_used_172 (by decide) ?_
                    refine lv_idiv hx hb dX7_used_173 (by decide) ?_
                    refine lv_topi (nm_r (pk_div (a := (mon kc) i) (d := 2) (by omega) (by omega) (by omega)) ?_)
                    refine lv_iconst (v := 1) hx hb dX7_used_174 (by decide) ?_
                    refine k_zast (D := D) (j := ((mon kc) i) / 2) hx hb hK.1 hP hD hS 10 2 rfl rfl (by omega) (by omega) (rfl) dX7_used_175 (fun H locs hP hD hS => ?_)
                    have hP : va_P D vwCl (wN κ q th kc cp cn ro kn lv (upd ((m_cw kc x i).2) (((mon kc) i) / 2) 1)) H := hP
                    have hD : va_D A (wN κ q th kc cp cn ro kn lv (upd ((m_cw kc x i).2) (((mon kc) i) / 2) 1)) := hD
                    refine lv_aload_n hx hb dX7_used_176 rfl (lv_at hl 0 rfl) ?_
                    refine va_get (D := D) (ci := 7) (v := .ref (q 10)) (C := RX7) (T := TX7) (N := 15) hx hb hts (iwX7_used_7) hown hK.1 hP 0 rfl rfl 14 (by decide) (hts (.fieldLink RX7 40 "InverterGraphsModel" "below" "[Z") (by decide +kernel)) (fun _ h9 => h9) rfl dX7_used_177 ?_
                    refine lv_aload_n hx hb dX7_used_180 rfl (lv_at hl 0 rfl) ?_
                    refine va_get (D := D) (ci := 7) (v := .ref (q 3)) (C := RX7) (T := TX7) (N := 15) hx hb hts (iwX7_used_7) hown hK.1 hP 0 rfl rfl 3 (by decide) (hts (.fieldLink RX7 16 "InverterGraphsModel" "twos" "[I") (by decide +kernel)) (fun _ h9 => h9) rfl dX7_used_181 ?_
                    refine lv_iload_n hx hb dX7_used_184 rfl (lv_at hl 2 rfl) ?_
                    refine k_iald (D := D) (j := i) hx hb hK.1 hP 3 0 rfl rfl (by omega) (by omega) dX7_used_185 ?_
                    refine lv_iconst (v := 2) hx hb dX7_used_186 (by decide) ?_
                    refine lv_idiv hx hb dX7_used_187 (by decide) ?_
                    refine lv_topi (nm_r (pk_div (a := (mtw kc) i) (d := 2) (by omega) (by omega) (by omega)) ?_)
                    refine lv_iconst (v := 1) hx hb dX7_used_188 (by decide) ?_
                    refine k_zast (D := D) (j := ((mtw kc) i) / 2) hx hb hK.1 hP hD hS 10 2 rfl rfl (by omega) (by omega) (rfl) dX7_used_189 (fun H locs hP hD hS => ?_)
                    have hP : va_P D vwCl (wN κ q th kc cp cn ro kn lv (upd (upd ((m_cw kc x i).2) (((mon kc) i) / 2) 1) (((mtw kc) i) / 2) 1)) H := hP
                    have hD : va_D A (wN κ q th kc cp cn ro kn lv (upd (upd ((m_cw kc x i).2) (((mon kc) i) / 2) 1) (((mtw kc) i) / 2) 1)) := hD
                    refine lv_iconst (v := 1) hx hb dX7_used_190 (by decide) ?_
                    refine lv_istore_n (lv' := [(1, .int 1), (0, .ref (q 0)), (2, .int (nI i))]) hx hb dX7_used_191 rfl hl (by decide) rfl (fun ls hl => ?_)
                    refine lv_iinc (v := nI (i + 1)) (lv' := [(2, .int (nI (i + 1))), (1, .int 1), (0, .ref (q 0))]) hx hb dX7_used_192 hl (k := 2) rfl (nI_1 _) (by decide) rfl (fun ls hl => ?_)
                    refine lv_goto (tgt := 103) hx hb dX7_used_195 (by decide) ?_
                    have e9 : m_cw kc x (i + 1) = (1, upd (upd ((m_cw kc x i).2) (((mon kc) i) / 2) 1) (((mtw kc) i) / 2) 1) := by show m_cwS kc i _ = _; unfold m_cwS; rw [if_neg c_117, if_pos c_127, if_pos c_143]
                    exact ih (i + 1) H locs ls (by omega) (by rw [e9]; exact hP) (by rw [e9]; exact hD) hS (by rw [e9]; exact lv_sub hl [2, 1, 0] rfl)
                  · skip
                    refine lv_aload_n hx hb dX7_used_146 rfl (lv_at hl 0 rfl) ?_
                    refine va_get (D := D) (ci := 7) (v := .ref (q 10)) (C := RX7) (T := TX7) (N := 15) hx hb hts (iwX7_used_7) hown hK.1 hP 0 rfl rfl 14 (by decide) (hts (.fieldLink RX7 40 "InverterGraphsModel" "below" "[Z") (by decide +kernel)) (fun _ h9 => h9) rfl dX7_used_147 ?_
                    refine lv_aload_n hx hb dX7_used_150 rfl (lv_at hl 0 rfl) ?_
                    refine va_get (D := D) (ci := 7) (v := .ref (q 3)) (C := RX7) (T := TX7) (N := 15) hx hb hts (iwX7_used_7) hown hK.1 hP 0 rfl rfl 3 (by decide) (hts (.fieldLink RX7 16 "InverterGraphsModel" "twos" "[I") (by decide +kernel)) (fun _ h9 => h9) rfl dX7_used_151 ?_
                    refine lv_iload_n hx hb dX7_used_154 rfl (lv_at hl 2 rfl) ?_
                    refine k_iald (D := D) (j := i) hx hb hK.1 hP 3 0 rfl rfl (by omega) (by omega) dX7_used_155 ?_
                    refine lv_iconst (v := 2) hx hb dX7_used_156 (by decide) ?_
                    refine lv_idiv hx hb dX7_used_157 (by decide) ?_
                    refine lv_topi (nm_r (pk_div (a := (mtw kc) i) (d := 2) (by omega) (by omega) (by omega)) ?_)
                    refine k_zald (D := D) (j := ((mtw kc) i) / 2) hx hb hK.1 hP 10 2 rfl rfl (by omega) (by omega) dX7_used_158 ?_
                    refine lv_if_ne (tgt := 192) hx hb dX7_used_159 (by decide) (fun c_159 => ?_) (fun c_159 => ?_)
                    · skip
                      refine lv_iinc (v := nI (i + 1)) (lv' := [(2, .int (nI (i + 1))), (0, .ref (q 0)), (1, .int ((m_cw kc x i).1))]) hx hb dX7_used_192 hl (k := 2) rfl (nI_1 _) (by decide) rfl (fun ls hl => ?_)
                      refine lv_goto (tgt := 103) hx hb dX7_used_195 (by decide) ?_
                      have e9 : m_cw kc x (i + 1) = (m_cw kc x i) := by show m_cwS kc i _ = _; unfold m_cwS; rw [if_neg c_117, if_pos c_127, if_neg c_143, if_neg c_159]
                      exact ih (i + 1) H locs ls (by omega) (by rw [e9]; exact hP) (by rw [e9]; exact hD) hS (by rw [e9]; exact lv_sub hl [1, 2, 0] rfl)
                    · skip
                      refine lv_aload_n hx hb dX7_used_162 rfl (lv_at hl 0 rfl) ?_
                      refine va_get (D := D) (ci := 7) (v := .ref (q 10)) (C := RX7) (T := TX7) (N := 15) hx hb hts (iwX7_used_7) hown hK.1 hP 0 rfl rfl 14 (by decide) (hts (.fieldLink RX7 40 "InverterGraphsModel" "below" "[Z") (by decide +kernel)) (fun _ h9 => h9) rfl dX7_used_163 ?_
                      refine lv_aload_n hx hb dX7_used_166 rfl (lv_at hl 0 rfl) ?_
                      refine va_get (D := D) (ci := 7) (v := .ref (q 2)) (C := RX7) (T := TX7) (N := 15) hx hb hts (iwX7_used_7) hown hK.1 hP 0 rfl rfl 2 (by decide) (hts (.fieldLink RX7 13 "InverterGraphsModel" "ones" "[I") (by decide +kernel)) (fun _ h9 => h9) rfl dX7_used_167 ?_
                      refine lv_iload_n hx hb dX7_used_170 rfl (lv_at hl 2 rfl) ?_
                      refine k_iald (D := D) (j := i) hx hb hK.1 hP 2 0 rfl rfl (by omega) (by omega) dX7_used_171 ?_
                      refine lv_iconst (v := 2) hx hb dX7_used_172 (by decide) ?_
                      refine lv_idiv hx hb dX7_used_173 (by decide) ?_
                      refine lv_topi (nm_r (pk_div (a := (mon kc) i) (d := 2) (by omega) (by omega) (by omega)) ?_)
                      refine lv_iconst (v := 1) hx hb dX7_used_174 (by decide) ?_
                      refine k_zast (D := D) (j := ((mon kc) i) / 2) hx hb hK.1 hP hD hS 10 2 rfl rfl (by omega) (by omega) (rfl) dX7_used_175 (fun H locs hP hD hS => ?_)
                      have hP : va_P D vwCl (wN κ q th kc cp cn ro kn lv (upd ((m_cw kc x i).2) (((mon kc) i) / 2) 1)) H := hP
                      have hD : va_D A (wN κ q th kc cp cn ro kn lv (upd ((m_cw kc x i).2) (((mon kc) i) / 2) 1)) := hD
                      refine lv_aload_n hx hb dX7_used_176 rfl (lv_at hl 0 rfl) ?_
                      refine va_get (D := D) (ci := 7) (v := .ref (q 10)) (C := RX7) (T := TX7) (N := 15) hx hb hts (iwX7_used_7) hown hK.1 hP 0 rfl rfl 14 (by decide) (hts (.fieldLink RX7 40 "InverterGraphsModel" "below" "[Z") (by decide +kernel)) (fun _ h9 => h9) rfl dX7_used_177 ?_
                      refine lv_aload_n hx hb dX7_used_180 rfl (lv_at hl 0 rfl) ?_
                      refine va_get (D := D) (ci := 7) (v := .ref (q 3)) (C := RX7) (T := TX7) (N := 15) hx hb hts (iwX7_used_7) hown hK.1 hP 0 rfl rfl 3 (by decide) (hts (.fieldLink RX7 16 "InverterGraphsModel" "twos" "[I") (by decide +kernel)) (fun _ h9 => h9) rfl dX7_used_181 ?_
                      refine lv_iload_n hx hb dX7_used_184 rfl (lv_at hl 2 rfl) ?_
                      refine k_iald (D := D) (j := i) hx hb hK.1 hP 3 0 rfl rfl (by omega) (by omega) dX7_used_185 ?_
                      refine lv_iconst (v := 2) hx hb dX7_used_186 (by decide) ?_
                      refine lv_idiv hx hb dX7_used_187 (by decide) ?_
                      refine lv_topi (nm_r (pk_div (a := (mtw kc) i) (d := 2) (by omega) (by omega) (by omega)) ?_)
                      refine lv_iconst (v := 1) hx hb dX7_used_188 (by decide) ?_
                      refine k_zast (D := D) (j := ((mtw kc) i) / 2) hx hb hK.1 hP hD hS 10 2 rfl rfl (by omega) (by omega) (rfl) dX7_used_189 (fun H locs hP hD hS => ?_)
                      have hP : va_P D vwCl (wN κ q th kc cp cn ro kn lv (upd (upd ((m_cw kc x i).2) (((mon kc) i) / 2) 1) (((mtw kc) i) / 2) 1)) H := hP
                      have hD : va_D A (wN κ q th kc cp cn ro kn lv (upd (upd ((m_cw kc x i).2) (((mon kc) i) / 2) 1) (((mtw kc) i) / 2) 1)) := hD
                      refine lv_iconst (v := 1) hx hb dX7_used_190 (by decide) ?_
                      refine lv_istore_n (lv' := [(1, .int 1), (0, .ref (q 0)), (2, .int (nI i))]) hx hb dX7_used_191 rfl hl (by decide) rfl (fun ls hl => ?_)
                      refine lv_iinc (v := nI (i + 1)) (lv' := [(2, .int (nI (i + 1))), (1, .int 1), (0, .ref (q 0))]) hx hb dX7_used_192 hl (k := 2) rfl (nI_1 _) (by decide) rfl (fun ls hl => ?_)
                      refine lv_goto (tgt := 103) hx hb dX7_used_195 (by decide) ?_
                      have e9 : m_cw kc x (i + 1) = (1, upd (upd ((m_cw kc x i).2) (((mon kc) i) / 2) 1) (((mtw kc) i) / 2) 1) := by show m_cwS kc i _ = _; unfold m_cwS; rw [if_neg c_117, if_pos c_127, if_neg c_143, if_pos c_159]
                      exact ih (i + 1) H locs ls (by omega) (by rw [e9]; exact hP) (by rw [e9]; exact hD) hS (by rw [e9]; exact lv_sub hl [2, 1, 0] rfl)
        exact li (mnd kc) 0 H locs ls (by omega) hP hD hS (lv_sub hl [2, 1, 0] rfl)
  have l3 : ∀ (k i : Nat) (H : Heap) (locs : List Loc) (ls : Array Slot), (i + k = mnd kc) → va_P D vwCl (wN κ q th kc cp cn ro kn lv (m_mL kc (m_mO (mou kc) (k_fillF be 0 (mnd kc)) (moc kc)) i)) H → va_D A (wN κ q th kc cp cn ro kn lv (m_mL kc (m_mO (mou kc) (k_fillF be 0 (mnd kc)) (moc kc)) i)) → va_S A s.heap H locs → lv_has ls 3 [(0, .ref (q 0)), (1, .int (nI i))] → W p l e (headSpec wsX7_used ({ frames := 0, cells := 0, slots := 0, locals := 0 })).room s m ([.ref (q 0)] : List Value).toArray below meth c H locs 0 0 (MQ below (va_Qv (S := (Nat → Int32)) (fun u => u = k_it (m_cF kc) K 1 (m_us0 kc be)) (fun u => k_B D A (wN κ q th kc cp cn ro kn lv u)) A) ([.ref (q 0)] : List Value).toArray s 0 0 A) (F0 m 55 ls []) := by
    intro k
    induction k with
    | zero =>
      intro i H locs ls hi hP hD hS hl
      refine lv_iload_n hx hb dX7_used_55 rfl (lv_at hl 1 rfl) ?_
      refine lv_aload_n hx hb dX7_used_56 rfl (lv_at hl 0 rfl) ?_
      refine va_get (D := D) (ci := 7) (v := .int (nI (mnd kc))) (C := RX7) (T := TX7) (N := 15) hx hb hts (iwX7_used_7) hown hK.1 hP 0 rfl rfl 5 (by decide) (hts (.fieldLink RX7 43 "InverterGraphsModel" "nodes" "I") (by decide +kernel)) (fun _ h9 => h9) rfl dX7_used_57 ?_
      refine lv_icmp_ge (tgt := 93) hx hb dX7_used_60 (by decide) (fun c_60 => ?_) (fun c_60 => ?_)
      · skip
        have c_60 : (mnd kc) ≤ i := (nI_leI (a := (mnd kc)) (b := i) (by omega) (by omega)).mp c_60
        have e9 : mnd kc = i := by omega
        subst e9
        refine lv_iconst (v := 1) hx hb dX7_used_93 (by decide) ?_
        refine lv_istore_n (lv' := [(1, .int 1), (0, .ref (q 0))]) hx hb dX7_used_94 rfl hl (by decide) rfl (fun ls hl => ?_)
        exact lo K 1 (m_us0 kc be) H locs ls hfin hF9 hP hD hS (lv_sub hl [1, 0] rfl)
      · skip
        have c_60 : ¬ ((mnd kc) ≤ i) := fun h9 => c_60 ((nI_leI (a := (mnd kc)) (b := i) (by omega) (by omega)).mpr h9)
        exfalso; omega
    | succ k ih =>
      intro i H locs ls hi hP hD hS hl
      refine lv_iload_n hx hb dX7_used_55 rfl (lv_at hl 1 rfl) ?_
      refine lv_aload_n hx hb dX7_used_56 rfl (lv_at hl 0 rfl) ?_
      refine va_get (D := D) (ci := 7) (v := .int (nI (mnd kc))) (C := RX7) (T := TX7) (N := 15) hx hb hts (iwX7_used_7) hown hK.1 hP 0 rfl rfl 5 (by decide) (hts (.fieldLink RX7 43 "InverterGraphsModel" "nodes" "I") (by decide +kernel)) (fun _ h9 => h9) rfl dX7_used_57 ?_
      refine lv_icmp_ge (tgt := 93) hx hb dX7_used_60 (by decide) (fun c_60 => ?_) (fun c_60 => ?_)
      · skip
        have c_60 : (mnd kc) ≤ i := (nI_leI (a := (mnd kc)) (b := i) (by omega) (by omega)).mp c_60
        exfalso; omega
      · skip
        have c_60 : ¬ ((mnd kc) ≤ i) := fun h9 => c_60 ((nI_leI (a := (mnd kc)) (b := i) (by omega) (by omega)).mpr h9)
        refine lv_aload_n hx hb dX7_used_63 rfl (lv_at hl 0 rfl) ?_
        refine va_get (D := D) (ci := 7) (v := .ref (q 1)) (C := RX7) (T := TX7) (N := 15) hx hb hts (iwX7_used_7) hown hK.1 hP 0 rfl rfl 1 (by decide) (hts (.fieldLink RX7 7 "InverterGraphsModel" "sorts" "[I") (by decide +kernel)) (fun _ h9 => h9) rfl dX7_used_64 ?_
        refine lv_iload_n hx hb dX7_used_67 rfl (lv_at hl 1 rfl) ?_
        refine k_iald (D := D) (j := i) hx hb hK.1 hP 1 0 rfl rfl (by omega) (by omega) dX7_used_68 ?_
        refine lv_iconst (v := 3) hx hb dX7_used_69 (by decide) ?_
        refine lv_icmp_ne (tgt := 87) hx hb dX7_used_70 (by decide) (fun c_70 => ?_) (fun c_70 => ?_)
        · skip
          refine lv_iinc (v := nI (i + 1)) (lv' := [(1, .int (nI (i + 1))), (0, .ref (q 0))]) hx hb dX7_used_87 hl (k := 1) rfl (nI_1 _) (by decide) rfl (fun ls hl => ?_)
          refine lv_goto (tgt := 55) hx hb dX7_used_90 (by decide) ?_
          have e9 : m_mL kc (m_mO (mou kc) (k_fillF be 0 (mnd kc)) (moc kc)) (i + 1) = m_mL kc (m_mO (mou kc) (k_fillF be 0 (mnd kc)) (moc kc)) i := by rw [m_mL, if_neg c_70]
          exact ih (i + 1) H locs ls (by omega) (by rw [e9]; exact hP) (by rw [e9]; exact hD) hS (lv_sub hl [1, 0] rfl)
        · skip
          have hx9 := hla i (by omega) c_70
          refine lv_aload_n hx hb dX7_used_73 rfl (lv_at hl 0 rfl) ?_
          refine va_get (D := D) (ci := 7) (v := .ref (q 10)) (C := RX7) (T := TX7) (N := 15) hx hb hts (iwX7_used_7) hown hK.1 hP 0 rfl rfl 14 (by decide) (hts (.fieldLink RX7 40 "InverterGraphsModel" "below" "[Z") (by decide +kernel)) (fun _ h9 => h9) rfl dX7_used_74 ?_
          refine lv_aload_n hx hb dX7_used_77 rfl (lv_at hl 0 rfl) ?_
          refine va_get (D := D) (ci := 7) (v := .ref (q 2)) (C := RX7) (T := TX7) (N := 15) hx hb hts (iwX7_used_7) hown hK.1 hP 0 rfl rfl 2 (by decide) (hts (.fieldLink RX7 13 "InverterGraphsModel" "ones" "[I") (by decide +kernel)) (fun _ h9 => h9) rfl dX7_used_78 ?_
          refine lv_iload_n hx hb dX7_used_81 rfl (lv_at hl 1 rfl) ?_
          refine k_iald (D := D) (j := i) hx hb hK.1 hP 2 0 rfl rfl (by omega) (by omega) dX7_used_82 ?_
          refine lv_iconst (v := 2) hx hb dX7_used_83 (by decide) ?_
          refine lv_idiv hx hb dX7_used_84 (by decide) ?_
          refine lv_topi (nm_r (pk_div (a := (mon kc) i) (d := 2) (by omega) (by omega) (by omega)) ?_)
          refine lv_iconst (v := 1) hx hb dX7_used_85 (by decide) ?_
          refine k_zast (D := D) (j := ((mon kc) i) / 2) hx hb hK.1 hP hD hS 10 2 rfl rfl (by omega) (by omega) (rfl) dX7_used_86 (fun H locs hP hD hS => ?_)
          have hP : va_P D vwCl (wN κ q th kc cp cn ro kn lv (upd (m_mL kc (m_mO (mou kc) (k_fillF be 0 (mnd kc)) (moc kc)) i) (((mon kc) i) / 2) 1)) H := hP
          have hD : va_D A (wN κ q th kc cp cn ro kn lv (upd (m_mL kc (m_mO (mou kc) (k_fillF be 0 (mnd kc)) (moc kc)) i) (((mon kc) i) / 2) 1)) := hD
          refine lv_iinc (v := nI (i + 1)) (lv' := [(1, .int (nI (i + 1))), (0, .ref (q 0))]) hx hb dX7_used_87 hl (k := 1) rfl (nI_1 _) (by decide) rfl (fun ls hl => ?_)
          refine lv_goto (tgt := 55) hx hb dX7_used_90 (by decide) ?_
          have e9 : m_mL kc (m_mO (mou kc) (k_fillF be 0 (mnd kc)) (moc kc)) (i + 1) = upd (m_mL kc (m_mO (mou kc) (k_fillF be 0 (mnd kc)) (moc kc)) i) (((mon kc) i) / 2) 1 := by rw [m_mL, if_pos c_70]
          exact ih (i + 1) H locs ls (by omega) (by rw [e9]; exact hP) (by rw [e9]; exact hD) hS (lv_sub hl [1, 0] rfl)
  have l2 : ∀ (k i : Nat) (H : Heap) (locs : List Loc) (ls : Array Slot), (i + k = moc kc) → va_P D vwCl (wN κ q th kc cp cn ro kn lv (m_mO (mou kc) (k_fillF be 0 (mnd kc)) i)) H → va_D A (wN κ q th kc cp cn ro kn lv (m_mO (mou kc) (k_fillF be 0 (mnd kc)) i)) → va_S A s.heap H locs → lv_has ls 3 [(0, .ref (q 0)), (1, .int (nI i))] → W p l e (headSpec wsX7_used ({ frames := 0, cells := 0, slots := 0, locals := 0 })).room s m ([.ref (q 0)] : List Value).toArray below meth c H locs 0 0 (MQ below (va_Qv (S := (Nat → Int32)) (fun u => u = k_it (m_cF kc) K 1 (m_us0 kc be)) (fun u => k_B D A (wN κ q th kc cp cn ro kn lv u)) A) ([.ref (q 0)] : List Value).toArray s 0 0 A) (F0 m 25 ls []) := by
    intro k
    induction k with
    | zero =>
      intro i H locs ls hi hP hD hS hl
      refine lv_iload_n hx hb dX7_used_25 rfl (lv_at hl 1 rfl) ?_
      refine lv_aload_n hx hb dX7_used_26 rfl (lv_at hl 0 rfl) ?_
      refine va_get (D := D) (ci := 7) (v := .int (nI (moc kc))) (C := RX7) (T := TX7) (N := 15) hx hb hts (iwX7_used_7) hown hK.1 hP 0 rfl rfl 8 (by decide) (hts (.fieldLink RX7 54 "InverterGraphsModel" "outputCount" "I") (by decide +kernel)) (fun _ h9 => h9) rfl dX7_used_27 ?_
      refine lv_icmp_ge (tgt := 53) hx hb dX7_used_30 (by decide) (fun c_30 => ?_) (fun c_30 => ?_)
      · skip
        have c_30 : (moc kc) ≤ i := (nI_leI (a := (moc kc)) (b := i) (by omega) (by omega)).mp c_30
        have e9 : moc kc = i := by omega
        subst e9
        refine lv_iconst (v := 0) hx hb dX7_used_53 (by decide) ?_
        refine lv_istore_n (lv' := [(1, .int 0), (0, .ref (q 0))]) hx hb dX7_used_54 rfl hl (by decide) rfl (fun ls hl => ?_)
        exact l3 (mnd kc) 0 H locs ls (by omega) hP hD hS (lv_sub hl [1, 0] rfl)
      · skip
        have c_30 : ¬ ((moc kc) ≤ i) := fun h9 => c_30 ((nI_leI (a := (moc kc)) (b := i) (by omega) (by omega)).mpr h9)
        exfalso; omega
    | succ k ih =>
      intro i H locs ls hi hP hD hS hl
      refine lv_iload_n hx hb dX7_used_25 rfl (lv_at hl 1 rfl) ?_
      refine lv_aload_n hx hb dX7_used_26 rfl (lv_at hl 0 rfl) ?_
      refine va_get (D := D) (ci := 7) (v := .int (nI (moc kc))) (C := RX7) (T := TX7) (N := 15) hx hb hts (iwX7_used_7) hown hK.1 hP 0 rfl rfl 8 (by decide) (hts (.fieldLink RX7 54 "InverterGraphsModel" "outputCount" "I") (by decide +kernel)) (fun _ h9 => h9) rfl dX7_used_27 ?_
      refine lv_icmp_ge (tgt := 53) hx hb dX7_used_30 (by decide) (fun c_30 => ?_) (fun c_30 => ?_)
      · skip
        have c_30 : (moc kc) ≤ i := (nI_leI (a := (moc kc)) (b := i) (by omega) (by omega)).mp c_30
        exfalso; omega
      · skip
        have c_30 : ¬ ((moc kc) ≤ i) := fun h9 => c_30 ((nI_leI (a := (moc kc)) (b := i) (by omega) (by omega)).mpr h9)
        have hx9 := hlo i (by omega)
        refine lv_aload_n hx hb dX7_used_33 rfl (lv_at hl 0 rfl) ?_
        refine va_get (D := D) (ci := 7) (v := .ref (q 10)) (C := RX7) (T := TX7) (N := 15) hx hb hts (iwX7_used_7) hown hK.1 hP 0 rfl rfl 14 (by decide) (hts (.fieldLink RX7 40 "InverterGraphsModel" "below" "[Z") (by decide +kernel)) (fun _ h9 => h9) rfl dX7_used_34 ?_
        refine lv_aload_n hx hb dX7_used_37 rfl (lv_at hl 0 rfl) ?_
        refine va_get (D := D) (ci := 7) (v := .ref (q 5)) (C := RX7) (T := TX7) (N := 15) hx hb hts (iwX7_used_7) hown hK.1 hP 0 rfl rfl 6 (by decide) (hts (.fieldLink RX7 22 "InverterGraphsModel" "outputs" "[I") (by decide +kernel)) (fun _ h9 => h9) rfl dX7_used_38 ?_
        refine lv_iload_n hx hb dX7_used_41 rfl (lv_at hl 1 rfl) ?_
        refine k_iald (D := D) (j := i) hx hb hK.1 hP 5 0 rfl rfl (by omega) (by omega) dX7_used_42 ?_
        refine lv_iconst (v := 2) hx hb dX7_used_43 (by decide) ?_
        refine lv_idiv hx hb dX7_used_44 (by decide) ?_
        refine lv_topi (nm_r (pk_div (a := (mou kc) i) (d := 2) (by omega) (by omega) (by omega)) ?_)
        refine lv_iconst (v := 1) hx hb dX7_used_45 (by decide) ?_
        refine k_zast (D := D) (j := ((mou kc) i) / 2) hx hb hK.1 hP hD hS 10 2 rfl rfl (by omega) (by omega) (rfl) dX7_used_46 (fun H locs hP hD hS => ?_)
        have hP : va_P D vwCl (wN κ q th kc cp cn ro kn lv (upd (m_mO (mou kc) (k_fillF be 0 (mnd kc)) i) (((mou kc) i) / 2) 1)) H := hP
        have hD : va_D A (wN κ q th kc cp cn ro kn lv (upd (m_mO (mou kc) (k_fillF be 0 (mnd kc)) i) (((mou kc) i) / 2) 1)) := hD
        refine lv_iinc (v := nI (i + 1)) (lv' := [(1, .int (nI (i + 1))), (0, .ref (q 0))]) hx hb dX7_used_47 hl (k := 1) rfl (nI_1 _) (by decide) rfl (fun ls hl => ?_)
        refine lv_goto (tgt := 25) hx hb dX7_used_50 (by decide) ?_
        exact ih (i + 1) H locs ls (by omega) hP hD hS (lv_sub hl [1, 0] rfl)
  have l1 : ∀ (k i : Nat) (H : Heap) (locs : List Loc) (ls : Array Slot), (i + k = mnd kc) → va_P D vwCl (wN κ q th kc cp cn ro kn lv (k_fillF be 0 i)) H → va_D A (wN κ q th kc cp cn ro kn lv (k_fillF be 0 i)) → va_S A s.heap H locs → lv_has ls 3 [(0, .ref (q 0)), (1, .int (nI i))] → W p l e (headSpec wsX7_used ({ frames := 0, cells := 0, slots := 0, locals := 0 })).room s m ([.ref (q 0)] : List Value).toArray below meth c H locs 0 0 (MQ below (va_Qv (S := (Nat → Int32)) (fun u => u = k_it (m_cF kc) K 1 (m_us0 kc be)) (fun u => k_B D A (wN κ q th kc cp cn ro kn lv u)) A) ([.ref (q 0)] : List Value).toArray s 0 0 A) (F0 m 2 ls []) := by
    intro k
    induction k with
    | zero =>
      intro i H locs ls hi hP hD hS hl
      refine lv_iload_n hx hb dX7_used_2 rfl (lv_at hl 1 rfl) ?_
      refine lv_aload_n hx hb dX7_used_3 rfl (lv_at hl 0 rfl) ?_
      refine va_get (D := D) (ci := 7) (v := .int (nI (mnd kc))) (C := RX7) (T := TX7) (N := 15) hx hb hts (iwX7_used_7) hown hK.1 hP 0 rfl rfl 5 (by decide) (hts (.fieldLink RX7 43 "InverterGraphsModel" "nodes" "I") (by decide +kernel)) (fun _ h9 => h9) rfl dX7_used_4 ?_
      refine lv_icmp_ge (tgt := 23) hx hb dX7_used_7 (by decide) (fun c_7 => ?_) (fun c_7 => ?_)
      · skip
        have c_7 : (mnd kc) ≤ i := (nI_leI (a := (mnd kc)) (b := i) (by omega) (by omega)).mp c_7
        have e9 : mnd kc = i := by omega
        subst e9
        refine lv_iconst (v := 0) hx hb dX7_used_23 (by decide) ?_
        refine lv_istore_n (lv' := [(1, .int 0), (0, .ref (q 0))]) hx hb dX7_used_24 rfl hl (by decide) rfl (fun ls hl => ?_)
        exact l2 (moc kc) 0 H locs ls (by omega) hP hD hS (lv_sub hl [1, 0] rfl)
      · skip
        have c_7 : ¬ ((mnd kc) ≤ i) := fun h9 => c_7 ((nI_leI (a := (mnd kc)) (b := i) (by omega) (by omega)).mpr h9)
        exfalso; omega
    | succ k ih =>
      intro i H locs ls hi hP hD hS hl
      refine lv_iload_n hx hb dX7_used_2 rfl (lv_at hl 1 rfl) ?_
      refine lv_aload_n hx hb dX7_used_3 rfl (lv_at hl 0 rfl) ?_
      refine va_get (D := D) (ci := 7) (v := .int (nI (mnd kc))) (C := RX7) (T := TX7) (N := 15) hx hb hts (iwX7_used_7) hown hK.1 hP 0 rfl rfl 5 (by decide) (hts (.fieldLink RX7 43 "InverterGraphsModel" "nodes" "I") (by decide +kernel)) (fun _ h9 => h9) rfl dX7_used_4 ?_
      refine lv_icmp_ge (tgt := 23) hx hb dX7_used_7 (by decide) (fun c_7 => ?_) (fun c_7 => ?_)
      · skip
        have c_7 : (mnd kc) ≤ i := (nI_leI (a := (mnd kc)) (b := i) (by omega) (by omega)).mp c_7
        exfalso; omega
      · skip
        have c_7 : ¬ ((mnd kc) ≤ i) := fun h9 => c_7 ((nI_leI (a := (mnd kc)) (b := i) (by omega) (by omega)).mpr h9)
        refine lv_aload_n hx hb dX7_used_10 rfl (lv_at hl 0 rfl) ?_
        refine va_get (D := D) (ci := 7) (v := .ref (q 10)) (C := RX7) (T := TX7) (N := 15) hx hb hts (iwX7_used_7) hown hK.1 hP 0 rfl rfl 14 (by decide) (hts (.fieldLink RX7 40 "InverterGraphsModel" "below" "[Z") (by decide +kernel)) (fun _ h9 => h9) rfl dX7_used_11 ?_
        refine lv_iload_n hx hb dX7_used_14 rfl (lv_at hl 1 rfl) ?_
        refine lv_iconst (v := 0) hx hb dX7_used_15 (by decide) ?_
        refine k_zast (D := D) (j := i) hx hb hK.1 hP hD hS 10 2 rfl rfl (by omega) (by omega) (rfl) dX7_used_16 (fun H locs hP hD hS => ?_)
        have hP : va_P D vwCl (wN κ q th kc cp cn ro kn lv (upd (k_fillF be 0 i) i 0)) H := hP
        have hD : va_D A (wN κ q th kc cp cn ro kn lv (upd (k_fillF be 0 i) i 0)) := hD
        refine lv_iinc (v := nI (i + 1)) (lv' := [(1, .int (nI (i + 1))), (0, .ref (q 0))]) hx hb dX7_used_17 hl (k := 1) rfl (nI_1 _) (by decide) rfl (fun ls hl => ?_)
        refine lv_goto (tgt := 2) hx hb dX7_used_20 (by decide) ?_
        exact ih (i + 1) H locs ls (by omega) (by rw [← k_fillF_s]; exact hP) (by rw [← k_fillF_s]; exact hD) hS (lv_sub hl [1, 0] rfl)
  exact l1 (mnd kc) 0 _ _ ls (by omega) (by rw [k_fillF_0]; exact hP) (by rw [k_fillF_0]; exact hD) hS (lv_sub hl [1, 0] rfl)
theorem iwX7_findLevels_7 : ∀ w ∈ wsX70, w ∈ wsX7_findLevels := by decide +kernel
set_option maxHeartbeats 4000000 in
set_option maxRecDepth 100000 in
theorem c_X7_findLevels (l : Launch) (D : va_G) (κ : Nat → ClassId) (sz : Nat) (q : Nat → Nat) (th : Int32) (kc : KC) (cp : Nat → Int32) (cn : Nat) (ro : Nat → Int64) (kn : Int32) (lv be : Nat → Int32) (K : Nat) (hnd : mnd kc ≤ 400) (hoc : moc kc ≤ 40) (hcn : cn ≤ 30) (hlt : ∀ j, j < mnd kc → mso kc j = 2 → mon kc j < 2 * mnd kc ∧ mtw kc j < 2 * mnd kc) (hfin : k_itF (m_fF kc) (fun _ => True) K 1 (k_fillF lv 0 (mnd kc))) : k_muv (S := (Nat → Int32)) l yX7_findLevels wsX7_findLevels 0 0 0 0 D κ [.ref (q 0)] (wN κ q th kc cp cn ro kn lv be) sz (fun u => u = k_it (m_fF kc) K 1 (k_fillF lv 0 (mnd kc))) (fun u => wN κ q th kc cp cn ro kn u be) := by
  refine Met.ofW (cc := cX7_findLevels) (maxL := 6) (ret := none) (by decide) rfl ?_
  intro p e s m args below meth c s₁ B hml hv
  obtain ⟨rfl, hsz, hK, hP, hD0⟩ := hv
  have hx := B.exec
  have hb := B.bytes
  have hr := B.returns
  have hts := atoms_spec (ws := wsX7_findLevels) B.pre
  have hown : s.vm.findClass RX7 = some m.cls := findClass_of_methodNamed B.named
  have hlocks := B.notSynchronized
  subst hsz
  have hD := hD0.self (sz := s.heap.size)
  generalize hAe : va_A (wN κ q th kc cp cn ro kn lv be) s.heap.size = A at hD ⊢
  have hA : ∀ q : Nat, s.heap.size ≤ q → A q := fun q h => by rw [← hAe]; exact Or.inr h
  have hS : va_S A s.heap s.heap [] := va_S.rf
  have hP : va_P D vwCl (wN κ q th kc cp cn ro kn lv be) s.heap := hP
  have hl := lv_entry ([.ref (q 0)]) (n := 6) (Nat.le_of_ble_eq_true rfl)
  rw [lg_entry_eq]
  generalize (lg_sl ([.ref (q 0)]) ++ List.replicate (6 - (lg_sl ([.ref (q 0)])).length) Slot.unset).toArray = ls at hl ⊢
  have hl : lv_has ls 6 [(0, .ref (q 0))] := hl
  refine lv_iconst (v := 0) hx hb dX7_findLevels_0 (by decide) ?_
  refine lv_istore_n (lv' := [(1, .int 0), (0, .ref (q 0))]) hx hb dX7_findLevels_1 rfl hl (by decide) rfl (fun ls hl => ?_)
  obtain ⟨FIN9, hF9⟩ : ∃ z, z = k_it (m_fF kc) K 1 (k_fillF lv 0 (mnd kc)) := ⟨_, rfl⟩
  have lo : ∀ (k : Nat) (y : Int32) (x : Nat → Int32) (H : Heap) (locs : List Loc) (ls : Array Slot), (k_itF (m_fF kc) (fun _ => True) k y x) → (FIN9 = k_it (m_fF kc) k y x) → va_P D vwCl (wN κ q th kc cp cn ro kn x be) H → va_D A (wN κ q th kc cp cn ro kn x be) → va_S A s.heap H locs → lv_has ls 6 [(0, .ref (q 0)), (1, .int y)] → W p l e (headSpec wsX7_findLevels ({ frames := 0, cells := 0, slots := 0, locals := 0 })).room s m ([.ref (q 0)] : List Value).toArray below meth c H locs 0 0 (MQ below (va_Qv (S := (Nat → Int32)) (fun u => u = k_it (m_fF kc) K 1 (k_fillF lv 0 (mnd kc))) (fun u => k_B D A (wN κ q th kc cp cn ro kn u be)) A) ([.ref (q 0)] : List Value).toArray s 0 0 A) (F0 m 25 ls []) := by
    intro k
    induction k with
    | zero =>
      intro y x H locs ls hf9 hr9 hP hD hS hl
      refine lv_iload_n hx hb dX7_findLevels_25 rfl (lv_at hl 1 rfl) ?_
      refine lv_if_eq (tgt := 134) hx hb dX7_findLevels_26 (by decide) (fun c_26 => ?_) (fun c_26 => ?_)
      · skip
        exact W.vret hx hb hr (fun t ht hW => ⟨⟨x, rfl, (by rw [← hF9]; exact Eq.symm (by rw [hr9, k_it])), by rw [ht]; exact hP, hD⟩, hS.F ht⟩) hS.2.2 dX7_findLevels_134
      · skip
        exfalso; exact c_26 hf9.1
    | succ k ih =>
      intro y x H locs ls hf9 hr9 hP hD hS hl
      refine lv_iload_n hx hb dX7_findLevels_25 rfl (lv_at hl 1 rfl) ?_
      refine lv_if_eq (tgt := 134) hx hb dX7_findLevels_26 (by decide) (fun c_26 => ?_) (fun c_26 => ?_)
      · skip
        exact W.vret hx hb hr (fun t ht hW => ⟨⟨x, rfl, (by rw [← hF9]; exact Eq.symm (by rw [hr9, k_it, if_pos c_26])), by rw [ht]; exact hP, hD⟩, hS.F ht⟩) hS.2.2 dX7_findLevels_134
      · skip
        have hf8 := hf9.2.resolve_left c_26
        refine lv_iconst (v := 0) hx hb dX7_findLevels_29 (by decide) ?_
        refine lv_istore_n (lv' := [(1, .int 0), (0, .ref (q 0))]) hx hb dX7_findLevels_30 rfl hl (by decide) rfl (fun ls hl => ?_)
        refine lv_iconst (v := 0) hx hb dX7_findLevels_31 (by decide) ?_
        refine lv_istore_n (lv' := [(2, .int 0), (1, .int 0), (0, .ref (q 0))]) hx hb dX7_findLevels_32 rfl hl (by decide) rfl (fun ls hl => ?_)
        have li : ∀ (k2 i : Nat) (H : Heap) (locs : List Loc) (ls : Array Slot), (i + k2 = mnd kc) → va_P D vwCl (wN κ q th kc cp cn ro kn ((m_fw kc x i).2) be) H → va_D A (wN κ q th kc cp cn ro kn ((m_fw kc x i).2) be) → va_S A s.heap H locs → lv_has ls 6 [(0, .ref (q 0)), (1, .int ((m_fw kc x i).1)), (2, .int (nI i))] → W p l e (headSpec wsX7_findLevels ({ frames := 0, cells := 0, slots := 0, locals := 0 })).room s m ([.ref (q 0)] : List Value).toArray below meth c H locs 0 0 (MQ below (va_Qv (S := (Nat → Int32)) (fun u => u = k_it (m_fF kc) K 1 (k_fillF lv 0 (mnd kc))) (fun u => k_B D A (wN κ q th kc cp cn ro kn u be)) A) ([.ref (q 0)] : List Value).toArray s 0 0 A) (F0 m 33 ls []) := by
          intro k2
          induction k2 with
          | zero =>
            intro i H locs ls hi hP hD hS hl
            refine lv_iload_n hx hb dX7_findLevels_33 rfl (lv_at hl 2 rfl) ?_
            refine lv_aload_n hx hb dX7_findLevels_34 rfl (lv_at hl 0 rfl) ?_
            refine va_get (D := D) (ci := 7) (v := .int (nI (mnd kc))) (C := RX7) (T := TX7) (N := 15) hx hb hts (iwX7_findLevels_7) hown hK.1 hP 0 rfl rfl 5 (by decide) (hts (.fieldLink RX7 43 "InverterGraphsModel" "nodes" "I") (by decide +kernel)) (fun _ h9 => h9) rfl dX7_findLevels_35 ?_
            refine lv_icmp_ge (tgt := 131) hx hb dX7_findLevels_38 (by decide) (fun c_38 => ?_) (fun c_38 => ?_)
            · skip
              have c_38 : (mnd kc) ≤ i := (nI_leI (a := (mnd kc)) (b := i) (by omega) (by omega)).mp c_38
              have e9 : mnd kc = i := by omega
              subst e9
              refine lv_goto (tgt := 25) hx hb dX7_findLevels_131 (by decide) ?_
              exact ih (((m_fF kc) x).1) (((m_fF kc) x).2) H locs ls hf8 (by rw [hr9, k_it, if_neg c_26]) hP hD hS (lv_sub hl [0, 1] rfl)
            · skip
              have c_38 : ¬ ((mnd kc) ≤ i) := fun h9 => c_38 ((nI_leI (a := (mnd kc)) (b := i) (by omega) (by omega)).mpr h9)
              exfalso; omega
          | succ k2 ih =>
            intro i H locs ls hi hP hD hS hl
            refine lv_iload_n hx hb dX7_findLevels_33 rfl (lv_at hl 2 rfl) ?_
            refine lv_aload_n hx hb dX7_findLevels_34 rfl (lv_at hl 0 rfl) ?_
            refine va_get (D := D) (ci := 7) (v := .int (nI (mnd kc))) (C := RX7) (T := TX7) (N := 15) hx hb hts (iwX7_findLevels_7) hown hK.1 hP 0 rfl rfl 5 (by decide) (hts (.fieldLink RX7 43 "InverterGraphsModel" "nodes" "I") (by decide +kernel)) (fun _ h9 => h9) rfl dX7_findLevels_35 ?_
            refine lv_icmp_ge (tgt := 131) hx hb dX7_findLevels_38 (by decide) (fun c_38 => ?_) (fun c_38 => ?_)
            · skip
              have c_38 : (mnd kc) ≤ i := (nI_leI (a := (mnd kc)) (b := i) (by omega) (by omega)).mp c_38
              exfalso; omega
            · skip
              have c_38 : ¬ ((mnd kc) ≤ i) := fun h9 => c_38 ((nI_leI (a := (mnd kc)) (b := i) (by omega) (by omega)).mpr h9)
              refine lv_aload_n hx hb dX7_findLevels_41 rfl (lv_at hl 0 rfl) ?_
              refine va_get (D := D) (ci := 7) (v := .ref (q 1)) (C := RX7) (T := TX7) (N := 15) hx hb hts (iwX7_findLevels_7) hown hK.1 hP 0 rfl rfl 1 (by decide) (hts (.fieldLink RX7 7 "InverterGraphsModel" "sorts" "[I") (by decide +kernel)) (fun _ h9 => h9) rfl dX7_findLevels_42 ?_
              refine lv_iload_n hx hb dX7_findLevels_45 rfl (lv_at hl 2 rfl) ?_
              refine k_iald (D := D) (j := i) hx hb hK.1 hP 1 0 rfl rfl (by omega) (by omega) dX7_findLevels_46 ?_
              refine lv_iconst (v := 2) hx hb dX7_findLevels_47 (by decide) ?_
              refine lv_icmp_ne (tgt := 125) hx hb dX7_findLevels_48 (by decide) (fun c_48 => ?_) (fun c_48 => ?_)
              · skip
                refine lv_iinc (v := nI (i + 1)) (lv' := [(2, .int (nI (i + 1))), (0, .ref (q 0)), (1, .int ((m_fw kc x i).1))]) hx hb dX7_findLevels_125 hl (k := 2) rfl (nI_1 _) (by decide) rfl (fun ls hl => ?_)
                refine lv_goto (tgt := 33) hx hb dX7_findLevels_128 (by decide) ?_
                have e9 : m_fw kc x (i + 1) = (m_fw kc x i) := by show m_fwS kc i _ = _; unfold m_fwS; rw [if_neg c_48]
                exact ih (i + 1) H locs ls (by omega) (by rw [e9]; exact hP) (by rw [e9]; exact hD) hS (by rw [e9]; exact lv_sub hl [1, 2, 0] rfl)
              · skip
                have hx9 := hlt i (by omega) c_48
                refine lv_aload_n hx hb dX7_findLevels_51 rfl (lv_at hl 0 rfl) ?_
                refine va_get (D := D) (ci := 7) (v := .ref (q 9)) (C := RX7) (T := TX7) (N := 15) hx hb hts (iwX7_findLevels_7) hown hK.1 hP 0 rfl rfl 13 (by decide) (hts (.fieldLink RX7 37 "InverterGraphsModel" "levels" "[I") (by decide +kernel)) (fun _ h9 => h9) rfl dX7_findLevels_52 ?_
                refine lv_aload_n hx hb dX7_findLevels_55 rfl (lv_at hl 0 rfl) ?_
                refine va_get (D := D) (ci := 7) (v := .ref (q 2)) (C := RX7) (T := TX7) (N := 15) hx hb hts (iwX7_findLevels_7) hown hK.1 hP 0 rfl rfl 2 (by decide) (hts (.fieldLink RX7 13 "InverterGraphsModel" "ones" "[I") (by decide +kernel)) (fun _ h9 => h9) rfl dX7_findLevels_56 ?_
                refine lv_iload_n hx hb dX7_findLevels_59 rfl (lv_at hl 2 rfl) ?_
                refine k_iald (D := D) (j := i) hx hb hK.1 hP 2 0 rfl rfl (by omega) (by omega) dX7_findLevels_60 ?_
                refine lv_iconst (v := 2) hx hb dX7_findLevels_61 (by decide) ?_
                refine lv_idiv hx hb dX7_findLevels_62 (by decide) ?_
                refine lv_topi (nm_r (pk_div (a := (mon kc) i) (d := 2) (by omega) (by omega) (by omega)) ?_)
                refine k_iald (D := D) (j := ((mon kc) i) / 2) hx hb hK.1 hP 9 0 rfl rfl (by omega) (by omega) dX7_findLevels_63 ?_
                refine lv_istore_n (lv' := [(3, .int (((m_fw kc x i).2) (((mon kc) i) / 2))), (0, .ref (q 0)), (1, .int ((m_fw kc x i).1)), (2, .int (nI i))]) hx hb dX7_findLevels_64 rfl hl (by decide) rfl (fun ls hl => ?_)
                refine lv_aload_n hx hb dX7_findLevels_65 rfl (lv_at hl 1 rfl) ?_
                refine va_get (D := D) (ci := 7) (v := .ref (q 9)) (C := RX7) (T := TX7) (N := 15) hx hb hts (iwX7_findLevels_7) hown hK.1 hP 0 rfl rfl 13 (by decide) (hts (.fieldLink RX7 37 "InverterGraphsModel" "levels" "[I") (by decide +kernel)) (fun _ h9 => h9) rfl dX7_findLevels_66 ?_
                refine lv_aload_n hx hb dX7_findLevels_69 rfl (lv_at hl 1 rfl) ?_
                refine va_get (D := D) (ci := 7) (v := .ref (q 3)) (C := RX7) (T := TX7) (N := 15) hx hb hts (iwX7_findLevels_7) hown hK.1 hP 0 rfl rfl 3 (by decide) (hts (.fieldLink RX7 16 "InverterGraphsModel" "twos" "[I") (by decide +kernel)) (fun _ h9 => h9) rfl dX7_findLevels_70 ?_
                refine lv_iload_n hx hb dX7_findLevels_73 rfl (lv_at hl 3 rfl) ?_
                refine k_iald (D := D) (j := i) hx hb hK.1 hP 3 0 rfl rfl (by omega) (by omega) dX7_findLevels_74 ?_
                refine lv_iconst (v := 2) hx hb dX7_findLevels_75 (by decide) ?_
                refine lv_idiv hx hb dX7_findLevels_76 (by decide) ?_
                refine lv_topi (nm_r (pk_div (a := (mtw kc) i) (d := 2) (by omega) (by omega) (by omega)) ?_)
                refine k_iald (D := D) (j := ((mtw kc) i) / 2) hx hb hK.1 hP 9 0 rfl rfl (by omega) (by omega) dX7_findLevels_77 ?_
                refine lv_istore (lv' := [(4, .int (((m_fw kc x i).2) (((mtw kc) i) / 2))), (3, .int (((m_fw kc x i).2) (((mon kc) i) / 2))), (0, .ref (q 0)), (1, .int ((m_fw kc x i).1)), (2, .int (nI i))]) hx hb dX7_findLevels_78 hl (by decide) rfl (fun ls hl => ?_)
                refine lv_iconst (v := 1) hx hb dX7_findLevels_80 (by decide) ?_
                refine lv_iload_n hx hb dX7_findLevels_81 rfl (lv_at hl 1 rfl) ?_
                refine lv_iload hx hb dX7_findLevels_82 (lv_at hl 0 rfl) ?_
                have J_84 : ∀ z : Int32, z = (if ((m_fw kc x i).2) (((mon kc) i) / 2) ≤ ((m_fw kc x i).2) (((mtw kc) i) / 2) then ((m_fw kc x i).2) (((mtw kc) i) / 2) else ((m_fw kc x i).2) (((mon kc) i) / 2)) → W p l e (headSpec wsX7_findLevels ({ frames := 0, cells := 0, slots := 0, locals := 0 })).room s m ([.ref (q 0)] : List Value).toArray below meth c H locs 0 0 (MQ below (va_Qv (S := (Nat → Int32)) (fun u => u = k_it (m_fF kc) K 1 (k_fillF lv 0 (mnd kc))) (fun u => k_B D A (wN κ q th kc cp cn ro kn u be)) A) ([.ref (q 0)] : List Value).toArray s 0 0 A) (F0 m 93 ls [.int z, .int 1]) := by
                  intro z ez
                  subst ez
                  refine lv_iadd hx hb dX7_findLevels_93 ?_
                  refine lv_istore (lv' := [(5, .int (1 + (if ((m_fw kc x i).2) (((mon kc) i) / 2) ≤ ((m_fw kc x i).2) (((mtw kc) i) / 2) then ((m_fw kc x i).2) (((mtw kc) i) / 2) else ((m_fw kc x i).2) (((mon kc) i) / 2)))), (4, .int (((m_fw kc x i).2) (((mtw kc) i) / 2))), (3, .int (((m_fw kc x i).2) (((mon kc) i) / 2))), (0, .ref (q 0)), (1, .int ((m_fw kc x i).1)), (2, .int (nI i))]) hx hb dX7_findLevels_94 hl (by decide) rfl (fun ls hl => ?_)
                  refine lv_iload_n hx hb dX7_findLevels_96 rfl (lv_at hl 4 rfl) ?_
                  have J_97 : ∀ z : Int32, z = (if (m_fw kc x i).1 = 0 then if 1 + (if ((m_fw kc x i).2) (((mon kc) i) / 2) ≤ ((m_fw kc x i).2) (((mtw kc) i) / 2) then ((m_fw kc x i).2) (((mtw kc) i) / 2) else ((m_fw kc x i).2) (((mon kc) i) / 2)) = ((m_fw kc x i).2) i then 0 else 1 else 1) → W p l e (headSpec wsX7_findLevels ({ frames := 0, cells := 0, slots := 0, locals := 0 })).room s m ([.ref (q 0)] : List Value).toArray below meth c H locs 0 0 (MQ below (va_Qv (S := (Nat → Int32)) (fun u => u = k_it (m_fF kc) K 1 (k_fillF lv 0 (mnd kc))) (fun u => k_B D A (wN κ q th kc cp cn ro kn u be)) A) ([.ref (q 0)] : List Value).toArray s 0 0 A) (F0 m 116 ls [.int z]) := by
                    intro z ez
                    subst ez
                    refine lv_istore_n (lv' := [(1, .int (if (m_fw kc x i).1 = 0 then if 1 + (if ((m_fw kc x i).2) (((mon kc) i) / 2) ≤ ((m_fw kc x i).2) (((mtw kc) i) / 2) then ((m_fw kc x i).2) (((mtw kc) i) / 2) else ((m_fw kc x i).2) (((mon kc) i) / 2)) = ((m_fw kc x i).2) i then 0 else 1 else 1)), (5, .int (1 + (if ((m_fw kc x i).2) (((mon kc) i) / 2) ≤ ((m_fw kc x i).2) (((mtw kc) i) / 2) then ((m_fw kc x i).2) (((mtw kc) i) / 2) else ((m_fw kc x i).2) (((mon kc) i) / 2)))), (4, .int (((m_fw kc x i).2) (((mtw kc) i) / 2))), (3, .int (((m_fw kc x i).2) (((mon kc) i) / 2))), (0, .ref (q 0)), (2, .int (nI i))]) hx hb dX7_findLevels_116 rfl hl (by decide) rfl (fun ls hl => ?_)
                    refine lv_aload_n hx hb dX7_findLevels_117 rfl (lv_at hl 4 rfl) ?_
                    refine va_get (D := D) (ci := 7) (v := .ref (q 9)) (C := RX7) (T := TX7) (N := 15) hx hb hts (iwX7_findLevels_7) hown hK.1 hP 0 rfl rfl 13 (by decide) (hts (.fieldLink RX7 37 "InverterGraphsModel" "levels" "[I") (by decide +kernel)) (fun _ h9 => h9) rfl dX7_findLevels_118 ?_
                    refine lv_iload_n hx hb dX7_findLevels_121 rfl (lv_at hl 5 rfl) ?_
                    refine lv_iload hx hb dX7_findLevels_122 (lv_at hl 1 rfl) ?_
                    refine k_iast (D := D) (j := i) hx hb hK.1 hP hD hS 9 0 rfl rfl (by omega) (by omega) dX7_findLevels_124 (fun H locs hP hD hS => ?_)
                    have hP : va_P D vwCl (wN κ q th kc cp cn ro kn (upd ((m_fw kc x i).2) i (1 + (if ((m_fw kc x i).2) (((mon kc) i) / 2) ≤ ((m_fw kc x i).2) (((mtw kc) i) / 2) then ((m_fw kc x i).2) (((mtw kc) i) / 2) else ((m_fw kc x i).2) (((mon kc) i) / 2)))) be) H := hP
                    have hD : va_D A (wN κ q th kc cp cn ro kn (upd ((m_fw kc x i).2) i (1 + (if ((m_fw kc x i).2) (((mon kc) i) / 2) ≤ ((m_fw kc x i).2) (((mtw kc) i) / 2) then ((m_fw kc x i).2) (((mtw kc) i) / 2) else ((m_fw kc x i).2) (((mon kc) i) / 2)))) be) := hD
                    refine lv_iinc (v := nI (i + 1)) (lv' := [(2, .int (nI (i + 1))), (1, .int (if (m_fw kc x i).1 = 0 then if 1 + (if ((m_fw kc x i).2) (((mon kc) i) / 2) ≤ ((m_fw kc x i).2) (((mtw kc) i) / 2) then ((m_fw kc x i).2) (((mtw kc) i) / 2) else ((m_fw kc x i).2) (((mon kc) i) / 2)) = ((m_fw kc x i).2) i then 0 else 1 else 1)), (5, .int (1 + (if ((m_fw kc x i).2) (((mon kc) i) / 2) ≤ ((m_fw kc x i).2) (((mtw kc) i) / 2) then ((m_fw kc x i).2) (((mtw kc) i) / 2) else ((m_fw kc x i).2) (((mon kc) i) / 2)))), (4, .int (((m_fw kc x i).2) (((mtw kc) i) / 2))), (3, .int (((m_fw kc x i).2) (((mon kc) i) / 2))), (0, .ref (q 0))]) hx hb dX7_findLevels_125 hl (k := 5) rfl (nI_1 _) (by decide) rfl (fun ls hl => ?_)
                    refine lv_goto (tgt := 33) hx hb dX7_findLevels_128 (by decide) ?_
                    have e9 : m_fw kc x (i + 1) = ((if (m_fw kc x i).1 = 0 then if 1 + (if ((m_fw kc x i).2) (((mon kc) i) / 2) ≤ ((m_fw kc x i).2) (((mtw kc) i) / 2) then ((m_fw kc x i).2) (((mtw kc) i) / 2) else ((m_fw kc x i).2) (((mon kc) i) / 2)) = ((m_fw kc x i).2) i then 0 else 1 else 1), upd ((m_fw kc x i).2) i (1 + (if ((m_fw kc x i).2) (((mon kc) i) / 2) ≤ ((m_fw kc x i).2) (((mtw kc) i) / 2) then ((m_fw kc x i).2) (((mtw kc) i) / 2) else ((m_fw kc x i).2) (((mon kc) i) / 2)))) := by show m_fwS kc i _ = _; unfold m_fwS; rw [if_pos c_48]; rfl
                    exact ih (i + 1) H locs ls (by omega) (by rw [e9]; exact hP) (by rw [e9]; exact hD) hS (by rw [e9]; exact lv_sub hl [5, 1, 0] rfl)
                  refine lv_if_ne (tgt := 111) hx hb dX7_findLevels_97 (by decide) (fun c_97 => ?_) (fun c_97 => ?_)
                  · skip
                    refine lv_iconst (v := 1) hx hb dX7_findLevels_111 (by decide) ?_
                    refine lv_goto (tgt := 116) hx hb dX7_findLevels_112 (by decide) ?_
                    exact J_97 _ (by rw [if_neg c_97])
                  · skip
                    refine lv_iload hx hb dX7_findLevels_100 (lv_at hl 0 rfl) ?_
                    refine lv_aload_n hx hb dX7_findLevels_102 rfl (lv_at hl 3 rfl) ?_
                    refine va_get (D := D) (ci := 7) (v := .ref (q 9)) (C := RX7) (T := TX7) (N := 15) hx hb hts (iwX7_findLevels_7) hown hK.1 hP 0 rfl rfl 13 (by decide) (hts (.fieldLink RX7 37 "InverterGraphsModel" "levels" "[I") (by decide +kernel)) (fun _ h9 => h9) rfl dX7_findLevels_103 ?_
                    refine lv_iload_n hx hb dX7_findLevels_106 rfl (lv_at hl 5 rfl) ?_
                    refine k_iald (D := D) (j := i) hx hb hK.1 hP 9 0 rfl rfl (by omega) (by omega) dX7_findLevels_107 ?_
                    refine lv_icmp_eq (tgt := 115) hx hb dX7_findLevels_108 (by decide) (fun c_108 => ?_) (fun c_108 => ?_)
                    · skip
                      refine lv_iconst (v := 0) hx hb dX7_findLevels_115 (by decide) ?_
                      exact J_97 _ (by rw [if_pos c_97, if_pos c_108])
                    · skip
                      refine lv_iconst (v := 1) hx hb dX7_findLevels_111 (by decide) ?_
                      refine lv_goto (tgt := 116) hx hb dX7_findLevels_112 (by decide) ?_
                      exact J_97 _ (by rw [if_pos c_97, if_neg c_108])
                refine lv_icmp_le (tgt := 91) hx hb dX7_findLevels_84 (by decide) (fun c_84 => ?_) (fun c_84 => ?_)
                · skip
                  refine lv_iload hx hb dX7_findLevels_91 (lv_at hl 0 rfl) ?_
                  exact J_84 _ (by rw [if_pos c_84])
                · skip
                  refine lv_iload_n hx hb dX7_findLevels_87 rfl (lv_at hl 1 rfl) ?_
                  refine lv_goto (tgt := 93) hx hb dX7_findLevels_88 (by decide) ?_
                  exact J_84 _ (by rw [if_neg c_84])
        exact li (mnd kc) 0 H locs ls (by omega) hP hD hS (lv_sub hl [2, 1, 0] rfl)
  have l1 : ∀ (k i : Nat) (H : Heap) (locs : List Loc) (ls : Array Slot), (i + k = mnd kc) → va_P D vwCl (wN κ q th kc cp cn ro kn (k_fillF lv 0 i) be) H → va_D A (wN κ q th kc cp cn ro kn (k_fillF lv 0 i) be) → va_S A s.heap H locs → lv_has ls 6 [(0, .ref (q 0)), (1, .int (nI i))] → W p l e (headSpec wsX7_findLevels ({ frames := 0, cells := 0, slots := 0, locals := 0 })).room s m ([.ref (q 0)] : List Value).toArray below meth c H locs 0 0 (MQ below (va_Qv (S := (Nat → Int32)) (fun u => u = k_it (m_fF kc) K 1 (k_fillF lv 0 (mnd kc))) (fun u => k_B D A (wN κ q th kc cp cn ro kn u be)) A) ([.ref (q 0)] : List Value).toArray s 0 0 A) (F0 m 2 ls []) := by
    intro k
    induction k with
    | zero =>
      intro i H locs ls hi hP hD hS hl
      refine lv_iload_n hx hb dX7_findLevels_2 rfl (lv_at hl 1 rfl) ?_
      refine lv_aload_n hx hb dX7_findLevels_3 rfl (lv_at hl 0 rfl) ?_
      refine va_get (D := D) (ci := 7) (v := .int (nI (mnd kc))) (C := RX7) (T := TX7) (N := 15) hx hb hts (iwX7_findLevels_7) hown hK.1 hP 0 rfl rfl 5 (by decide) (hts (.fieldLink RX7 43 "InverterGraphsModel" "nodes" "I") (by decide +kernel)) (fun _ h9 => h9) rfl dX7_findLevels_4 ?_
      refine lv_icmp_ge (tgt := 23) hx hb dX7_findLevels_7 (by decide) (fun c_7 => ?_) (fun c_7 => ?_)
      · skip
        have c_7 : (mnd kc) ≤ i := (nI_leI (a := (mnd kc)) (b := i) (by omega) (by omega)).mp c_7
        have e9 : mnd kc = i := by omega
        subst e9
        refine lv_iconst (v := 1) hx hb dX7_findLevels_23 (by decide) ?_
        refine lv_istore_n (lv' := [(1, .int 1), (0, .ref (q 0))]) hx hb dX7_findLevels_24 rfl hl (by decide) rfl (fun ls hl => ?_)
        exact lo K 1 (k_fillF lv 0 (mnd kc)) H locs ls hfin hF9 hP hD hS (lv_sub hl [1, 0] rfl)
      · skip
        have c_7 : ¬ ((mnd kc) ≤ i) := fun h9 => c_7 ((nI_leI (a := (mnd kc)) (b := i) (by omega) (by omega)).mpr h9)
        exfalso; omega
    | succ k ih =>
      intro i H locs ls hi hP hD hS hl
      refine lv_iload_n hx hb dX7_findLevels_2 rfl (lv_at hl 1 rfl) ?_
      refine lv_aload_n hx hb dX7_findLevels_3 rfl (lv_at hl 0 rfl) ?_
      refine va_get (D := D) (ci := 7) (v := .int (nI (mnd kc))) (C := RX7) (T := TX7) (N := 15) hx hb hts (iwX7_findLevels_7) hown hK.1 hP 0 rfl rfl 5 (by decide) (hts (.fieldLink RX7 43 "InverterGraphsModel" "nodes" "I") (by decide +kernel)) (fun _ h9 => h9) rfl dX7_findLevels_4 ?_
      refine lv_icmp_ge (tgt := 23) hx hb dX7_findLevels_7 (by decide) (fun c_7 => ?_) (fun c_7 => ?_)
      · skip
        have c_7 : (mnd kc) ≤ i := (nI_leI (a := (mnd kc)) (b := i) (by omega) (by omega)).mp c_7
        exfalso; omega
      · skip
        have c_7 : ¬ ((mnd kc) ≤ i) := fun h9 => c_7 ((nI_leI (a := (mnd kc)) (b := i) (by omega) (by omega)).mpr h9)
        refine lv_aload_n hx hb dX7_findLevels_10 rfl (lv_at hl 0 rfl) ?_
        refine va_get (D := D) (ci := 7) (v := .ref (q 9)) (C := RX7) (T := TX7) (N := 15) hx hb hts (iwX7_findLevels_7) hown hK.1 hP 0 rfl rfl 13 (by decide) (hts (.fieldLink RX7 37 "InverterGraphsModel" "levels" "[I") (by decide +kernel)) (fun _ h9 => h9) rfl dX7_findLevels_11 ?_
        refine lv_iload_n hx hb dX7_findLevels_14 rfl (lv_at hl 1 rfl) ?_
        refine lv_iconst (v := 0) hx hb dX7_findLevels_15 (by decide) ?_
        refine k_iast (D := D) (j := i) hx hb hK.1 hP hD hS 9 0 rfl rfl (by omega) (by omega) dX7_findLevels_16 (fun H locs hP hD hS => ?_)
        have hP : va_P D vwCl (wN κ q th kc cp cn ro kn (upd (k_fillF lv 0 i) i 0) be) H := hP
        have hD : va_D A (wN κ q th kc cp cn ro kn (upd (k_fillF lv 0 i) i 0) be) := hD
        refine lv_iinc (v := nI (i + 1)) (lv' := [(1, .int (nI (i + 1))), (0, .ref (q 0))]) hx hb dX7_findLevels_17 hl (k := 1) rfl (nI_1 _) (by decide) rfl (fun ls hl => ?_)
        refine lv_goto (tgt := 2) hx hb dX7_findLevels_20 (by decide) ?_
        exact ih (i + 1) H locs ls (by omega) (by rw [← k_fillF_s]; exact hP) (by rw [← k_fillF_s]; exact hD) hS (lv_sub hl [1, 0] rfl)
  exact l1 (mnd kc) 0 _ _ ls (by omega) (by rw [k_fillF_0]; exact hP) (by rw [k_fillF_0]; exact hD) hS (lv_sub hl [1, 0] rfl)
