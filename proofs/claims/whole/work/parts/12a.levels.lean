/-! LEVELS, REACH, ROWS: what their methods answer and do -/
def k_gmax (lv : Nat → Int32) : Nat → Int32
  | 0 => 0
  | i + 1 => k_max (k_gmax lv i) (k_cat 400 lv (nI i))
def k_due (le gr lv : Nat → Int32) (i : Nat) : Int32 := 1 + k_max (k_cat 400 lv (k_nodeOf (k_cat 400 le (nI i)))) (k_cat 400 lv (k_nodeOf (k_cat 400 gr (nI i))))
def k_rsS (so le gr : Nat → Int32) (i : Nat) (x : Int32 × (Nat → Int32)) : Int32 × (Nat → Int32) :=
  if k_cat 400 so (nI i) = 2 then (if x.1 = 0 then (if k_cat 400 x.2 (nI i) = k_due le gr x.2 i then 0 else 1) else 1, k_cpt 400 x.2 (nI i) (k_due le gr x.2 i)) else x
def k_rs (so le gr lv : Nat → Int32) : Nat → Int32 × (Nat → Int32)
  | 0 => (0, lv)
  | i + 1 => k_rsS so le gr i (k_rs so le gr lv i)
def k_lw (so le gr : Nat → Int32) (n : Nat) : Nat → Int32 → (Nat → Int32) → (Nat → Int32)
  | 0, _, lv => lv
  | k + 1, z, lv => if z = 0 then lv else k_lw so le gr n k (k_rs so le gr lv n).1 (k_rs so le gr lv n).2
termination_by k => k
def k_mark (x : Int32) (e : KE) : KE := if k_cat 400 e.1 x = 0 then (k_cpt 400 e.1 x 1, k_cpt 400 e.2.1 e.2.2 x, e.2.2 + 1) else e
def k_clr (e : KE) : KE := (k_fillF e.1 0 400, e.2.1, 0)
def k_spS (le gr : Nat → Int32) (e : KE) : KE := k_mark (k_nodeOf (k_cat 400 gr (k_cat 400 e.2.1 (e.2.2 - 1)))) (k_mark (k_nodeOf (k_cat 400 le (k_cat 400 e.2.1 (e.2.2 - 1)))) (e.1, e.2.1, e.2.2 - 1))
def k_spr (le gr : Nat → Int32) : Nat → KE → KE
  | 0, e => e
  | k + 1, e => if e.2.2 ≤ 0 then e else k_spr le gr k (k_spS le gr e)
termination_by k => k
def k_mkR (m : Nat) (f : Nat → Int32) (e : KE) : Nat → KE
  | 0 => e
  | i + 1 => k_mark (k_nodeOf (k_cat m f (nI i))) (k_mkR m f e i)
def k_catJ (n : Nat) (f : Nat → Int64) (i : Int32) : Int64 := if i < 0 then 0 else if nI n ≤ i then 0 else f i.toNatClampNeg
def k_cptJ (n : Nat) (f : Nat → Int64) (i : Int32) (x : Int64) : Nat → Int64 := if i < 0 then f else if nI n ≤ i then f else vp_updL f i.toNatClampNeg x
def k_bits (ro : Nat → Int64) (x : Int32) : Int64 := if k_isTurned x = 0 then k_catJ 400 ro (k_nodeOf x) else k_catJ 400 ro (k_nodeOf x) ^^^ (-1)
def k_mix1 (z : Int64) (y : Int32) : Int64 := z ^^^ k_lushr z y
def k_mix (sd : Int64) (k : Int32) : Int64 := k_mix1 (k_mix1 (k_mix1 (sd + Int32.toInt64 (k + 1) * (-7046029254386353131)) 30 * (-4658895280553007687)) 27 * (-7723592293110705685)) 31
def k_msS (so : Nat → Int32) (sd : Int64) (i : Nat) (x : Int32 × (Nat → Int64)) : Int32 × (Nat → Int64) :=
  if k_cat 400 so (nI i) = 1 ∨ k_cat 400 so (nI i) = 3 ∨ k_cat 400 so (nI i) = 4 then (x.1 + 1, k_cptJ 400 x.2 (nI i) (k_mix sd x.1)) else x
def k_ms (so : Nat → Int32) (sd : Int64) (ro : Nat → Int64) : Nat → Int32 × (Nat → Int64)
  | 0 => (0, ro)
  | i + 1 => k_msS so sd i (k_ms so sd ro i)
def k_paS (so le gr : Nat → Int32) (i : Nat) (x : Int32 × (Nat → Int64)) : Int32 × (Nat → Int64) :=
  if k_cat 400 so (nI i) = 2 then (if x.1 = 0 then (if lg_cmp (k_catJ 400 x.2 (nI i)) (k_bits x.2 (k_cat 400 le (nI i)) &&& k_bits x.2 (k_cat 400 gr (nI i))) = 0 then 0 else 1) else 1, k_cptJ 400 x.2 (nI i) (k_bits x.2 (k_cat 400 le (nI i)) &&& k_bits x.2 (k_cat 400 gr (nI i)))) else x
def k_pa (so le gr : Nat → Int32) (ro : Nat → Int64) : Nat → Int32 × (Nat → Int64)
  | 0 => (0, ro)
  | i + 1 => k_paS so le gr i (k_pa so le gr ro i)
def k_rw (so le gr : Nat → Int32) (n : Nat) : Nat → Int32 → (Nat → Int64) → (Nat → Int64)
  | 0, _, ro => ro
  | k + 1, z, ro => if z = 0 then ro else k_rw so le gr n k (k_pa so le gr ro n).1 (k_pa so le gr ro n).2
termination_by k => k
theorem iwX3_at_3 : ∀ w ∈ wsX30, w ∈ wsX3_at := by decide +kernel
set_option maxHeartbeats 4000000 in
set_option maxRecDepth 100000 in
theorem c_X3_at (l : Launch) (D : va_G) (κ : Nat → ClassId) (ql : Nat → Nat) (lv : Nat → Int32) (p0 : Int32) : k_roi l yX3_at wsX3_at 1 21 D κ [.ref (ql 0), .int p0] (wL κ ql lv) (fun r => r = k_cat 400 lv p0) := by
  refine Met.ofW (cc := cX3_at) (maxL := 2) (ret := (some .int)) (by decide) rfl ?_
  intro p e s m args below meth c s₁ B hml hv
  obtain ⟨rfl, hK, hP⟩ := hv
  have hx := B.exec
  have hb := B.bytes
  have hr := B.returns
  have hts := atoms_spec (ws := wsX3_at) B.pre
  have hown : s.vm.findClass RX3 = some m.cls := findClass_of_methodNamed B.named
  have hlocks := B.notSynchronized
  have hP : va_P D vwCl (wL κ ql lv) s.heap := hP
  have hl := lv_entry ([.ref (ql 0), .int p0]) (n := 2) (Nat.le_of_ble_eq_true rfl)
  rw [lg_entry_eq]
  generalize (lg_sl ([.ref (ql 0), .int p0]) ++ List.replicate (2 - (lg_sl ([.ref (ql 0), .int p0])).length) Slot.unset).toArray = ls at hl ⊢
  have hl : lv_has ls 2 [(0, .ref (ql 0)), (1, .int p0)] := hl
  refine lv_aload_n hx hb dX3_at_0 rfl (lv_at hl 0 rfl) ?_
  refine va_get (D := D) (ci := 3) (v := .ref (ql 1)) (C := RX3) (T := TX3) (N := 1) hx hb hts (iwX3_at_3) hown hK.1 hP 0 rfl rfl 0 (by decide) (hts (.fieldLink RX3 14 "InverterGraphs$Levels" "levels" "LInverterGraphs$Cells;") (by decide +kernel)) (fun _ h9 => h9) rfl dX3_at_1 ?_
  refine lv_iload_n hx hb dX3_at_4 rfl (lv_at hl 1 rfl) ?_
  refine k_cRO (D := D) (κ := κ) (qc := (RX0, TX0, 1)) (ci := 0) (q0 := 0) ⟨hx, hb, hml, hown, hts⟩ (c_X0_at l D κ (ql 1) (ql 2) 400 lv p0 (by omega)) (cwV 1 hts gX3_at_X0_at rfl rfl rfl (by decide +kernel) ⟨Nat.le_of_ble_eq_true rfl, Nat.le_of_ble_eq_true rfl⟩) hK (hP.sub [1, 2] rfl) rfl rfl (As := [.int p0]) (rest := []) rfl rfl hl.1 (Nat.le_of_ble_eq_true rfl) dX3_at_5 ⟨Nat.le_of_ble_eq_true rfl, Nat.le_of_ble_eq_true rfl⟩ (fun r hr => ?_)
  subst hr
  exact W.iret (v := k_cat 400 lv p0) hx hb hr (fun t ht _ => ⟨k_cat 400 lv p0, rfl, rfl, ht⟩) (fun _ h9 => nomatch h9) dX3_at_8
theorem iwX3_greatest_3 : ∀ w ∈ wsX30, w ∈ wsX3_greatest := by decide +kernel
set_option maxHeartbeats 4000000 in
set_option maxRecDepth 100000 in
theorem c_X3_greatest (l : Launch) (D : va_G) (κ : Nat → ClassId) (ql : Nat → Nat) (lv : Nat → Int32)  : k_roi l yX3_greatest wsX3_greatest 1 21 D κ [.ref (ql 0)] (wL κ ql lv) (fun r => r = k_gmax lv 400) := by
  refine Met.ofW (cc := cX3_greatest) (maxL := 3) (ret := (some .int)) (by decide) rfl ?_
  intro p e s m args below meth c s₁ B hml hv
  obtain ⟨rfl, hK, hP⟩ := hv
  have hx := B.exec
  have hb := B.bytes
  have hr := B.returns
  have hts := atoms_spec (ws := wsX3_greatest) B.pre
  have hown : s.vm.findClass RX3 = some m.cls := findClass_of_methodNamed B.named
  have hlocks := B.notSynchronized
  have hP : va_P D vwCl (wL κ ql lv) s.heap := hP
  have hl := lv_entry ([.ref (ql 0)]) (n := 3) (Nat.le_of_ble_eq_true rfl)
  rw [lg_entry_eq]
  generalize (lg_sl ([.ref (ql 0)]) ++ List.replicate (3 - (lg_sl ([.ref (ql 0)])).length) Slot.unset).toArray = ls at hl ⊢
  have hl : lv_has ls 3 [(0, .ref (ql 0))] := hl
  refine lv_iconst (v := 0) hx hb dX3_greatest_0 (by decide) ?_
  refine lv_istore_n (lv' := [(1, .int 0), (0, .ref (ql 0))]) hx hb dX3_greatest_1 rfl hl (by decide) rfl (fun ls hl => ?_)
  refine lv_iconst (v := 0) hx hb dX3_greatest_2 (by decide) ?_
  refine lv_istore_n (lv' := [(2, .int 0), (1, .int 0), (0, .ref (ql 0))]) hx hb dX3_greatest_3 rfl hl (by decide) rfl (fun ls hl => ?_)
  have lp : ∀ (k i : Nat) (ls : Array Slot), (i + k = 400) → lv_has ls 3 [(0, .ref (ql 0)), (1, .int (k_gmax lv i)), (2, .int (nI i))] → W p l e (headSpec wsX3_greatest ({ frames := 1, cells := 0, slots := 0, locals := 21 })).room s m ([.ref (ql 0)] : List Value).toArray below meth c s.heap [] 0 0 (MQ below (vp_Si (fun r => r = k_gmax lv 400)) ([.ref (ql 0)] : List Value).toArray s 0 0 (fun _ => False)) (F0 m 4 ls []) := by
    intro k
    induction k with
    | zero =>
      intro i ls hi hl
      refine lv_iload_n hx hb dX3_greatest_4 rfl (lv_at hl 2 rfl) ?_
      refine lv_sipush (v := 400) hx hb dX3_greatest_5 (by decide) ?_
      refine lv_icmp_ge (tgt := 30) hx hb dX3_greatest_8 (by decide) (fun c_8 => ?_) (fun c_8 => ?_)
      · skip
        have c_8 : 400 ≤ i := (nI_leI (a := 400) (b := i) (by omega) (by omega)).mp c_8
        have e9 : 400 = i := by omega
        subst e9
        refine lv_iload_n hx hb dX3_greatest_30 rfl (lv_at hl 1 rfl) ?_
        exact W.iret (v := k_gmax lv 400) hx hb hr (fun t ht _ => ⟨k_gmax lv 400, rfl, rfl, ht⟩) (fun _ h9 => nomatch h9) dX3_greatest_31
      · skip
        have c_8 : ¬ (400 ≤ i) := fun h9 => c_8 ((nI_leI (a := 400) (b := i) (by omega) (by omega)).mpr h9)
        exfalso; omega
    | succ k ih =>
      intro i ls hi hl
      refine lv_iload_n hx hb dX3_greatest_4 rfl (lv_at hl 2 rfl) ?_
      refine lv_sipush (v := 400) hx hb dX3_greatest_5 (by decide) ?_
      refine lv_icmp_ge (tgt := 30) hx hb dX3_greatest_8 (by decide) (fun c_8 => ?_) (fun c_8 => ?_)
      · skip
        have c_8 : 400 ≤ i := (nI_leI (a := 400) (b := i) (by omega) (by omega)).mp c_8
        exfalso; omega
      · skip
        have c_8 : ¬ (400 ≤ i) := fun h9 => c_8 ((nI_leI (a := 400) (b := i) (by omega) (by omega)).mpr h9)
        refine lv_iload_n hx hb dX3_greatest_11 rfl (lv_at hl 1 rfl) ?_
        refine lv_aload_n hx hb dX3_greatest_12 rfl (lv_at hl 0 rfl) ?_
        refine va_get (D := D) (ci := 3) (v := .ref (ql 1)) (C := RX3) (T := TX3) (N := 1) hx hb hts (iwX3_greatest_3) hown hK.1 hP 0 rfl rfl 0 (by decide) (hts (.fieldLink RX3 14 "InverterGraphs$Levels" "levels" "LInverterGraphs$Cells;") (by decide +kernel)) (fun _ h9 => h9) rfl dX3_greatest_13 ?_
        refine lv_iload_n hx hb dX3_greatest_16 rfl (lv_at hl 2 rfl) ?_
        refine k_cRO (D := D) (κ := κ) (qc := (RX0, TX0, 1)) (ci := 0) (q0 := 0) ⟨hx, hb, hml, hown, hts⟩ (c_X0_at l D κ (ql 1) (ql 2) 400 lv (nI i) (by omega)) (cwV 1 hts gX3_greatest_X0_at rfl rfl rfl (by decide +kernel) ⟨Nat.le_of_ble_eq_true rfl, Nat.le_of_ble_eq_true rfl⟩) hK (hP.sub [1, 2] rfl) rfl rfl (As := [.int (nI i)]) (rest := [.int (k_gmax lv i)]) rfl rfl hl.1 (Nat.le_of_ble_eq_true rfl) dX3_greatest_17 ⟨Nat.le_of_ble_eq_true rfl, Nat.le_of_ble_eq_true rfl⟩ (fun r hr => ?_)
        subst hr
        refine va_mmax hx hb (by rw [hml]; exact hl.1.symm) hown (hts (.methodLink RX3 24 Lib.Math.max.name) (by decide +kernel)) (hts (.static Lib.Math.max.name) (by decide +kernel)) (hts (.initialized "java/lang/Math") (by decide +kernel)) (hts (.code Lib.Math.max.name Lib.Math.max.code 2 (some .int)) (by decide +kernel)) (Nat.le_of_ble_eq_true rfl) (Nat.le_of_ble_eq_true rfl) (Nat.le_of_ble_eq_true rfl) (Nat.le_of_ble_eq_true rfl) dX3_greatest_20 ?_
        refine lv_istore_n (lv' := [(1, .int (k_max (k_gmax lv i) (k_cat 400 lv (nI i)))), (0, .ref (ql 0)), (2, .int (nI i))]) hx hb dX3_greatest_23 rfl hl (by decide) rfl (fun ls hl => ?_)
        refine lv_iinc (v := nI (i + 1)) (lv' := [(2, .int (nI (i + 1))), (1, .int (k_max (k_gmax lv i) (k_cat 400 lv (nI i)))), (0, .ref (ql 0))]) hx hb dX3_greatest_24 hl (k := 2) rfl (nI_1 _) (by decide) rfl (fun ls hl => ?_)
        refine lv_goto (tgt := 4) hx hb dX3_greatest_27 (by decide) ?_
        exact ih (i + 1) ls (by omega) (lv_sub hl [2, 1, 0] rfl)
  exact lp 400 0 ls (by omega) (lv_sub hl [2, 1, 0] rfl)
theorem k_rs_01 (so le gr lv : Nat → Int32) : ∀ i, (k_rs so le gr lv i).1 = 0 ∨ (k_rs so le gr lv i).1 = 1 := by
  intro i
  induction i with
  | zero => exact Or.inl rfl
  | succ i ih =>
    show (k_rsS so le gr i _).1 = 0 ∨ (k_rsS so le gr i _).1 = 1
    unfold k_rsS
    split
    · show (if (k_rs so le gr lv i).1 = 0 then _ else _) = (0 : Int32) ∨ _ = (1 : Int32)
      split
      · split
        · exact Or.inl rfl
        · exact Or.inr rfl
      · exact Or.inr rfl
    · exact ih
theorem k_pa_01 (so le gr : Nat → Int32) (ro : Nat → Int64) : ∀ i, (k_pa so le gr ro i).1 = 0 ∨ (k_pa so le gr ro i).1 = 1 := by
  intro i
  induction i with
  | zero => exact Or.inl rfl
  | succ i ih =>
    show (k_paS so le gr i _).1 = 0 ∨ (k_paS so le gr i _).1 = 1
    unfold k_paS
    split
    · show (if (k_pa so le gr ro i).1 = 0 then _ else _) = (0 : Int32) ∨ _ = (1 : Int32)
      split
      · split
        · exact Or.inl rfl
        · exact Or.inr rfl
      · exact Or.inr rfl
    · exact ih
theorem iwX3_raise_3 : ∀ w ∈ wsX30, w ∈ wsX3_raise := by decide +kernel
set_option maxHeartbeats 4000000 in
set_option maxRecDepth 100000 in
theorem c_X3_raise (l : Launch) (D : va_G) (κ : Nat → ClassId) (sz : Nat) (ql : Nat → Nat) (lv : Nat → Int32) (q : Nat → Nat) (so le gr ne si ou bo : Nat → Int32) (n om ob : Nat)  (hn : n ≤ 400) (hom : om ≤ 40) (hob : ob ≤ om) : k_mui (S := Unit) l yX3_raise wsX3_raise 2 42 0 0 D κ [.ref (ql 0), .ref (q 0)] (List.flatten [wL κ ql lv, wG κ q so le gr ne si ou bo n om ob]) sz (fun r _ => r = (k_rs so le gr lv n).1) (fun u => List.flatten [wL κ ql ((k_rs so le gr lv n).2), wG κ q so le gr ne si ou bo n om ob]) := by
  refine Met.ofW (cc := cX3_raise) (maxL := 7) (ret := (some .boolean)) (by decide) rfl ?_
  intro p e s m args below meth c s₁ B hml hv
  obtain ⟨rfl, hsz, hK, hP, hD0⟩ := hv
  have hx := B.exec
  have hb := B.bytes
  have hr := B.returns
  have hts := atoms_spec (ws := wsX3_raise) B.pre
  have hown : s.vm.findClass RX3 = some m.cls := findClass_of_methodNamed B.named
  have hlocks := B.notSynchronized
  subst hsz
  have hD := hD0.self (sz := s.heap.size)
  generalize hAe : va_A (List.flatten [wL κ ql lv, wG κ q so le gr ne si ou bo n om ob]) s.heap.size = A at hD ⊢
  have hA : ∀ q : Nat, s.heap.size ≤ q → A q := fun q h => by rw [← hAe]; exact Or.inr h
  have hS : va_S A s.heap s.heap [] := va_S.rf
  have hP : va_P D vwCl (List.flatten [wL κ ql lv, wG κ q so le gr ne si ou bo n om ob]) s.heap := hP
  have hl := lv_entry ([.ref (ql 0), .ref (q 0)]) (n := 7) (Nat.le_of_ble_eq_true rfl)
  rw [lg_entry_eq]
  generalize (lg_sl ([.ref (ql 0), .ref (q 0)]) ++ List.replicate (7 - (lg_sl ([.ref (ql 0), .ref (q 0)])).length) Slot.unset).toArray = ls at hl ⊢
  have hl : lv_has ls 7 [(0, .ref (ql 0)), (1, .ref (q 0))] := hl
  refine lv_iconst (v := 0) hx hb dX3_raise_0 (by decide) ?_
  refine lv_istore_n (lv' := [(2, .int 0), (0, .ref (ql 0)), (1, .ref (q 0))]) hx hb dX3_raise_1 rfl hl (by decide) rfl (fun ls hl => ?_)
  refine lv_iconst (v := 0) hx hb dX3_raise_2 (by decide) ?_
  refine lv_istore_n (lv' := [(3, .int 0), (2, .int 0), (0, .ref (ql 0)), (1, .ref (q 0))]) hx hb dX3_raise_3 rfl hl (by decide) rfl (fun ls hl => ?_)
  have lp : ∀ (k i : Nat) (H : Heap) (locs : List Loc) (ls : Array Slot), (i + k = n) → va_P D vwCl (List.flatten [wL κ ql ((k_rs so le gr lv i).2), wG κ q so le gr ne si ou bo n om ob]) H → va_D A (List.flatten [wL κ ql ((k_rs so le gr lv i).2), wG κ q so le gr ne si ou bo n om ob]) → va_S A s.heap H locs → lv_has ls 7 [(0, .ref (ql 0)), (1, .ref (q 0)), (2, .int ((k_rs so le gr lv i).1)), (3, .int (nI i))] → W p l e (headSpec wsX3_raise ({ frames := 2, cells := 0, slots := 0, locals := 42 })).room s m ([.ref (ql 0), .ref (q 0)] : List Value).toArray below meth c H locs 0 0 (MQ below (va_Qi (S := Unit) (fun r _ => r = (k_rs so le gr lv n).1) (fun u => k_B D A (List.flatten [wL κ ql ((k_rs so le gr lv n).2), wG κ q so le gr ne si ou bo n om ob])) A) ([.ref (ql 0), .ref (q 0)] : List Value).toArray s 0 0 A) (F0 m 4 ls []) := by
    intro k
    induction k with
    | zero =>
      intro i H locs ls hi hP hD hS hl
      refine lv_iload_n hx hb dX3_raise_4 rfl (lv_at hl 3 rfl) ?_
      refine lv_aload_n hx hb dX3_raise_5 rfl (lv_at hl 1 rfl) ?_
      refine k_cRO (D := D) (κ := κ) (qc := (RX1, TX1, 10)) (ci := 1) (q0 := 0) ⟨hx, hb, hml, hown, hts⟩ (c_X1_nodesGiven l D κ q so le gr ne si ou bo n om ob  (by omega) (by omega) (by omega)) (cwV 0 hts gX3_raise_X1_nodesGiven rfl rfl rfl (by decide +kernel) ⟨Nat.le_of_ble_eq_true rfl, Nat.le_of_ble_eq_true rfl⟩) hK (k_sub1 (S := wG κ q so le gr ne si ou bo n om ob) hP 1 rfl) rfl rfl (As := []) (rest := [.int (nI i)]) rfl rfl hl.1 (Nat.le_of_ble_eq_true rfl) dX3_raise_6 ⟨Nat.le_of_ble_eq_true rfl, Nat.le_of_ble_eq_true rfl⟩ (fun r hr => ?_)
      subst hr
      refine lv_icmp_ge (tgt := 105) hx hb dX3_raise_9 (by decide) (fun c_9 => ?_) (fun c_9 => ?_)
      · skip
        have c_9 : n ≤ i := (nI_leI (a := n) (b := i) (by omega) (by omega)).mp c_9
        have e9 : n = i := by omega
        subst e9
        refine lv_iload_n hx hb dX3_raise_105 rfl (lv_at hl 2 rfl) ?_
        exact W.zret (ty := .boolean) (v := (k_rs so le gr lv n).1) hx hb hr (by rcases k_rs_01 so le gr lv n with h9 | h9 <;> rw [h9] <;> rfl) (fun t ht hW => ⟨⟨(k_rs so le gr lv n).1, (), rfl, rfl, by rw [ht]; exact hP, hD⟩, hS.F ht⟩) hS.2.2 dX3_raise_106
      · skip
        have c_9 : ¬ (n ≤ i) := fun h9 => c_9 ((nI_leI (a := n) (b := i) (by omega) (by omega)).mpr h9)
        exfalso; omega
    | succ k ih =>
      intro i H locs ls hi hP hD hS hl
      refine lv_iload_n hx hb dX3_raise_4 rfl (lv_at hl 3 rfl) ?_
      refine lv_aload_n hx hb dX3_raise_5 rfl (lv_at hl 1 rfl) ?_
      refine k_cRO (D := D) (κ := κ) (qc := (RX1, TX1, 10)) (ci := 1) (q0 := 0) ⟨hx, hb, hml, hown, hts⟩ (c_X1_nodesGiven l D κ q so le gr ne si ou bo n om ob  (by omega) (by omega) (by omega)) (cwV 0 hts gX3_raise_X1_nodesGiven rfl rfl rfl (by decide +kernel) ⟨Nat.le_of_ble_eq_true rfl, Nat.le_of_ble_eq_true rfl⟩) hK (k_sub1 (S := wG κ q so le gr ne si ou bo n om ob) hP 1 rfl) rfl rfl (As := []) (rest := [.int (nI i)]) rfl rfl hl.1 (Nat.le_of_ble_eq_true rfl) dX3_raise_6 ⟨Nat.le_of_ble_eq_true rfl, Nat.le_of_ble_eq_true rfl⟩ (fun r hr => ?_)
      subst hr
      refine lv_icmp_ge (tgt := 105) hx hb dX3_raise_9 (by decide) (fun c_9 => ?_) (fun c_9 => ?_)
      · skip
        have c_9 : n ≤ i := (nI_leI (a := n) (b := i) (by omega) (by omega)).mp c_9
        exfalso; omega
      · skip
        have c_9 : ¬ (n ≤ i) := fun h9 => c_9 ((nI_leI (a := n) (b := i) (by omega) (by omega)).mpr h9)
        refine lv_aload_n hx hb dX3_raise_12 rfl (lv_at hl 1 rfl) ?_
        refine lv_iload_n hx hb dX3_raise_13 rfl (lv_at hl 3 rfl) ?_
        refine k_cRO (D := D) (κ := κ) (qc := (RX1, TX1, 10)) (ci := 1) (q0 := 0) ⟨hx, hb, hml, hown, hts⟩ (c_X1_sortOf l D κ q so le gr ne si ou bo n om ob (nI i) (by omega) (by omega) (by omega)) (cwV 1 hts gX3_raise_X1_sortOf rfl rfl rfl (by decide +kernel) ⟨Nat.le_of_ble_eq_true rfl, Nat.le_of_ble_eq_true rfl⟩) hK (k_sub1 (S := wG κ q so le gr ne si ou bo n om ob) hP 1 rfl) rfl rfl (As := [.int (nI i)]) (rest := []) rfl rfl hl.1 (Nat.le_of_ble_eq_true rfl) dX3_raise_14 ⟨Nat.le_of_ble_eq_true rfl, Nat.le_of_ble_eq_true rfl⟩ (fun r hr => ?_)
        subst hr
        refine lv_iconst (v := 2) hx hb dX3_raise_17 (by decide) ?_
        refine lv_icmp_ne (tgt := 99) hx hb dX3_raise_18 (by decide) (fun c_18 => ?_) (fun c_18 => ?_)
        · skip
          refine lv_iinc (v := nI (i + 1)) (lv' := [(3, .int (nI (i + 1))), (0, .ref (ql 0)), (1, .ref (q 0)), (2, .int ((k_rs so le gr lv i).1))]) hx hb dX3_raise_99 hl (k := 3) rfl (nI_1 _) (by decide) rfl (fun ls hl => ?_)
          refine lv_goto (tgt := 4) hx hb dX3_raise_102 (by decide) ?_
          have e9 : k_rs so le gr lv (i + 1) = k_rs so le gr lv i := by show k_rsS so le gr i _ = _; unfold k_rsS; rw [if_neg c_18]
          exact ih (i + 1) H locs ls (by omega) (by rw [e9]; exact hP) (by rw [e9]; exact hD) hS (by rw [e9]; exact lv_sub hl [1, 2, 3, 0] rfl)
        · skip
          refine lv_aload_n hx hb dX3_raise_21 rfl (lv_at hl 0 rfl) ?_
          refine va_get (D := D) (ci := 3) (v := .ref (ql 1)) (C := RX3) (T := TX3) (N := 1) hx hb hts (iwX3_raise_3) hown hK.1 hP 0 rfl rfl 0 (by decide) (hts (.fieldLink RX3 14 "InverterGraphs$Levels" "levels" "LInverterGraphs$Cells;") (by decide +kernel)) (fun _ h9 => h9) rfl dX3_raise_22 ?_
          refine lv_aload_n hx hb dX3_raise_25 rfl (lv_at hl 1 rfl) ?_
          refine lv_iload_n hx hb dX3_raise_26 rfl (lv_at hl 3 rfl) ?_
          refine k_cRO (D := D) (κ := κ) (qc := (RX1, TX1, 10)) (ci := 1) (q0 := 0) ⟨hx, hb, hml, hown, hts⟩ (c_X1_lesserFanin l D κ q so le gr ne si ou bo n om ob (nI i) (by omega) (by omega) (by omega)) (cwV 1 hts gX3_raise_X1_lesserFanin rfl rfl rfl (by decide +kernel) ⟨Nat.le_of_ble_eq_true rfl, Nat.le_of_ble_eq_true rfl⟩) hK (k_sub1 (S := wG κ q so le gr ne si ou bo n om ob) hP 1 rfl) rfl rfl (As := [.int (nI i)]) (rest := [.ref (ql 1)]) rfl rfl hl.1 (Nat.le_of_ble_eq_true rfl) dX3_raise_27 ⟨Nat.le_of_ble_eq_true rfl, Nat.le_of_ble_eq_true rfl⟩ (fun r hr => ?_)
          subst hr
          refine k_cNS ⟨hx, hb, hml, hown, hts⟩ (c_X6_nodeOf l (k_cat 400 le (nI i))) ⟨va_cnB 1 hts ggX3_raise_X6_nodeOf rfl rfl rfl hK.2.2.2.2.2.1 (hts (.initialized RX6) (by decide +kernel)) (by decide +kernel) ⟨Nat.le_of_ble_eq_true rfl, Nat.le_of_ble_eq_true rfl⟩, (hts (.static yX6_nodeOf) (by decide +kernel)), trivial⟩ (As := [.int (k_cat 400 le (nI i))]) (rest := [.ref (ql 1)]) rfl rfl hl.1 (Nat.le_of_ble_eq_true rfl) dX3_raise_30 ⟨Nat.le_of_ble_eq_true rfl, Nat.le_of_ble_eq_true rfl⟩ (fun r hr => ?_)
          subst hr
          refine k_cRO (D := D) (κ := κ) (qc := (RX0, TX0, 1)) (ci := 0) (q0 := 0) ⟨hx, hb, hml, hown, hts⟩ (c_X0_at l D κ (ql 1) (ql 2) 400 ((k_rs so le gr lv i).2) (k_nodeOf (k_cat 400 le (nI i))) (by omega)) (cwV 1 hts gX3_raise_X0_at rfl rfl rfl (by decide +kernel) ⟨Nat.le_of_ble_eq_true rfl, Nat.le_of_ble_eq_true rfl⟩) hK (hP.sub [1, 2] rfl) rfl rfl (As := [.int (k_nodeOf (k_cat 400 le (nI i)))]) (rest := []) rfl rfl hl.1 (Nat.le_of_ble_eq_true rfl) dX3_raise_33 ⟨Nat.le_of_ble_eq_true rfl, Nat.le_of_ble_eq_true rfl⟩ (fun r hr => ?_)
          subst hr
          refine lv_istore (lv' := [(4, .int (k_cat 400 ((k_rs so le gr lv i).2) (k_nodeOf (k_cat 400 le (nI i))))), (0, .ref (ql 0)), (1, .ref (q 0)), (2, .int ((k_rs so le gr lv i).1)), (3, .int (nI i))]) hx hb dX3_raise_36 hl (by decide) rfl (fun ls hl => ?_)
          refine lv_aload_n hx hb dX3_raise_38 rfl (lv_at hl 1 rfl) ?_
          refine va_get (D := D) (ci := 3) (v := .ref (ql 1)) (C := RX3) (T := TX3) (N := 1) hx hb hts (iwX3_raise_3) hown hK.1 hP 0 rfl rfl 0 (by decide) (hts (.fieldLink RX3 14 "InverterGraphs$Levels" "levels" "LInverterGraphs$Cells;") (by decide +kernel)) (fun _ h9 => h9) rfl dX3_raise_39 ?_
          refine lv_aload_n hx hb dX3_raise_42 rfl (lv_at hl 2 rfl) ?_
          refine lv_iload_n hx hb dX3_raise_43 rfl (lv_at hl 4 rfl) ?_
          refine k_cRO (D := D) (κ := κ) (qc := (RX1, TX1, 10)) (ci := 1) (q0 := 0) ⟨hx, hb, hml, hown, hts⟩ (c_X1_greaterFanin l D κ q so le gr ne si ou bo n om ob (nI i) (by omega) (by omega) (by omega)) (cwV 1 hts gX3_raise_X1_greaterFanin rfl rfl rfl (by decide +kernel) ⟨Nat.le_of_ble_eq_true rfl, Nat.le_of_ble_eq_true rfl⟩) hK (k_sub1 (S := wG κ q so le gr ne si ou bo n om ob) hP 1 rfl) rfl rfl (As := [.int (nI i)]) (rest := [.ref (ql 1)]) rfl rfl hl.1 (Nat.le_of_ble_eq_true rfl) dX3_raise_44 ⟨Nat.le_of_ble_eq_true rfl, Nat.le_of_ble_eq_true rfl⟩ (fun r hr => ?_)
          subst hr
          refine k_cNS ⟨hx, hb, hml, hown, hts⟩ (c_X6_nodeOf l (k_cat 400 gr (nI i))) ⟨va_cnB 1 hts ggX3_raise_X6_nodeOf rfl rfl rfl hK.2.2.2.2.2.1 (hts (.initialized RX6) (by decide +kernel)) (by decide +kernel) ⟨Nat.le_of_ble_eq_true rfl, Nat.le_of_ble_eq_true rfl⟩, (hts (.static yX6_nodeOf) (by decide +kernel)), trivial⟩ (As := [.int (k_cat 400 gr (nI i))]) (rest := [.ref (ql 1)]) rfl rfl hl.1 (Nat.le_of_ble_eq_true rfl) dX3_raise_47 ⟨Nat.le_of_ble_eq_true rfl, Nat.le_of_ble_eq_true rfl⟩ (fun r hr => ?_)
          subst hr
          refine k_cRO (D := D) (κ := κ) (qc := (RX0, TX0, 1)) (ci := 0) (q0 := 0) ⟨hx, hb, hml, hown, hts⟩ (c_X0_at l D κ (ql 1) (ql 2) 400 ((k_rs so le gr lv i).2) (k_nodeOf (k_cat 400 gr (nI i))) (by omega)) (cwV 1 hts gX3_raise_X0_at rfl rfl rfl (by decide +kernel) ⟨Nat.le_of_ble_eq_true rfl, Nat.le_of_ble_eq_true rfl⟩) hK (hP.sub [1, 2] rfl) rfl rfl (As := [.int (k_nodeOf (k_cat 400 gr (nI i)))]) (rest := []) rfl rfl hl.1 (Nat.le_of_ble_eq_true rfl) dX3_raise_50 ⟨Nat.le_of_ble_eq_true rfl, Nat.le_of_ble_eq_true rfl⟩ (fun r hr => ?_)
          subst hr
          refine lv_istore (lv' := [(5, .int (k_cat 400 ((k_rs so le gr lv i).2) (k_nodeOf (k_cat 400 gr (nI i))))), (4, .int (k_cat 400 ((k_rs so le gr lv i).2) (k_nodeOf (k_cat 400 le (nI i))))), (0, .ref (ql 0)), (1, .ref (q 0)), (2, .int ((k_rs so le gr lv i).1)), (3, .int (nI i))]) hx hb dX3_raise_53 hl (by decide) rfl (fun ls hl => ?_)
          refine lv_iconst (v := 1) hx hb dX3_raise_55 (by decide) ?_
          refine lv_iload hx hb dX3_raise_56 (lv_at hl 1 rfl) ?_
          refine lv_iload hx hb dX3_raise_58 (lv_at hl 0 rfl) ?_
          refine va_mmax hx hb (by rw [hml]; exact hl.1.symm) hown (hts (.methodLink RX3 24 Lib.Math.max.name) (by decide +kernel)) (hts (.static Lib.Math.max.name) (by decide +kernel)) (hts (.initialized "java/lang/Math") (by decide +kernel)) (hts (.code Lib.Math.max.name Lib.Math.max.code 2 (some .int)) (by decide +kernel)) (Nat.le_of_ble_eq_true rfl) (Nat.le_of_ble_eq_true rfl) (Nat.le_of_ble_eq_true rfl) (Nat.le_of_ble_eq_true rfl) dX3_raise_60 ?_
          refine lv_iadd hx hb dX3_raise_63 ?_
          refine lv_istore (lv' := [(6, .int (1 + (k_max (k_cat 400 ((k_rs so le gr lv i).2) (k_nodeOf (k_cat 400 le (nI i)))) (k_cat 400 ((k_rs so le gr lv i).2) (k_nodeOf (k_cat 400 gr (nI i))))))), (5, .int (k_cat 400 ((k_rs so le gr lv i).2) (k_nodeOf (k_cat 400 gr (nI i))))), (4, .int (k_cat 400 ((k_rs so le gr lv i).2) (k_nodeOf (k_cat 400 le (nI i))))), (0, .ref (ql 0)), (1, .ref (q 0)), (2, .int ((k_rs so le gr lv i).1)), (3, .int (nI i))]) hx hb dX3_raise_64 hl (by decide) rfl (fun ls hl => ?_)
          refine lv_iload_n hx hb dX3_raise_66 rfl (lv_at hl 5 rfl) ?_
          have J_67 : ∀ z : Int32, z = (if (k_rs so le gr lv i).1 = 0 then if k_cat 400 ((k_rs so le gr lv i).2) (nI i) = 1 + (k_max (k_cat 400 ((k_rs so le gr lv i).2) (k_nodeOf (k_cat 400 le (nI i)))) (k_cat 400 ((k_rs so le gr lv i).2) (k_nodeOf (k_cat 400 gr (nI i))))) then 0 else 1 else 1) → W p l e (headSpec wsX3_raise ({ frames := 2, cells := 0, slots := 0, locals := 42 })).room s m ([.ref (ql 0), .ref (q 0)] : List Value).toArray below meth c H locs 0 0 (MQ below (va_Qi (S := Unit) (fun r _ => r = (k_rs so le gr lv n).1) (fun u => k_B D A (List.flatten [wL κ ql ((k_rs so le gr lv n).2), wG κ q so le gr ne si ou bo n om ob])) A) ([.ref (ql 0), .ref (q 0)] : List Value).toArray s 0 0 A) (F0 m 88 ls [.int z]) := by
            intro z ez
            subst ez
            refine lv_istore_n (lv' := [(2, .int (if (k_rs so le gr lv i).1 = 0 then if k_cat 400 ((k_rs so le gr lv i).2) (nI i) = 1 + (k_max (k_cat 400 ((k_rs so le gr lv i).2) (k_nodeOf (k_cat 400 le (nI i)))) (k_cat 400 ((k_rs so le gr lv i).2) (k_nodeOf (k_cat 400 gr (nI i))))) then 0 else 1 else 1)), (6, .int (1 + (k_max (k_cat 400 ((k_rs so le gr lv i).2) (k_nodeOf (k_cat 400 le (nI i)))) (k_cat 400 ((k_rs so le gr lv i).2) (k_nodeOf (k_cat 400 gr (nI i))))))), (5, .int (k_cat 400 ((k_rs so le gr lv i).2) (k_nodeOf (k_cat 400 gr (nI i))))), (4, .int (k_cat 400 ((k_rs so le gr lv i).2) (k_nodeOf (k_cat 400 le (nI i))))), (0, .ref (ql 0)), (1, .ref (q 0)), (3, .int (nI i))]) hx hb dX3_raise_88 rfl hl (by decide) rfl (fun ls hl => ?_)
            refine lv_aload_n hx hb dX3_raise_89 rfl (lv_at hl 4 rfl) ?_
            refine va_get (D := D) (ci := 3) (v := .ref (ql 1)) (C := RX3) (T := TX3) (N := 1) hx hb hts (iwX3_raise_3) hown hK.1 hP 0 rfl rfl 0 (by decide) (hts (.fieldLink RX3 14 "InverterGraphs$Levels" "levels" "LInverterGraphs$Cells;") (by decide +kernel)) (fun _ h9 => h9) rfl dX3_raise_90 ?_
            refine lv_iload_n hx hb dX3_raise_93 rfl (lv_at hl 6 rfl) ?_
            refine lv_iload hx hb dX3_raise_94 (lv_at hl 1 rfl) ?_
            refine k_cMUv (D := D) (κ := κ) (qc := (RX0, TX0, 1)) (ci := 0) (q0 := 0) (wn := fun _ => List.flatten [wL κ ql (k_cpt 400 ((k_rs so le gr lv i).2) (nI i) (1 + (k_max (k_cat 400 ((k_rs so le gr lv i).2) (k_nodeOf (k_cat 400 le (nI i)))) (k_cat 400 ((k_rs so le gr lv i).2) (k_nodeOf (k_cat 400 gr (nI i))))))), wG κ q so le gr ne si ou bo n om ob]) ⟨hx, hb, hml, hown, hts⟩ (c_X0_put l D κ _ (ql 1) (ql 2) 400 ((k_rs so le gr lv i).2) (nI i) (1 + (k_max (k_cat 400 ((k_rs so le gr lv i).2) (k_nodeOf (k_cat 400 le (nI i)))) (k_cat 400 ((k_rs so le gr lv i).2) (k_nodeOf (k_cat 400 gr (nI i)))))) (by omega)) (cwV 2 hts gX3_raise_X0_put rfl rfl rfl (by decide +kernel) ⟨Nat.le_of_ble_eq_true rfl, Nat.le_of_ble_eq_true rfl⟩) hK hP hD hS hA [1, 2] (by decide) rfl rfl rfl (fun _ => rfl) (fun _ => rfl) (As := [.int (nI i), .int (1 + (k_max (k_cat 400 ((k_rs so le gr lv i).2) (k_nodeOf (k_cat 400 le (nI i)))) (k_cat 400 ((k_rs so le gr lv i).2) (k_nodeOf (k_cat 400 gr (nI i))))))]) (rest := []) rfl rfl hl.1 (Nat.le_of_ble_eq_true rfl) dX3_raise_96 ⟨Nat.le_of_ble_eq_true rfl, Nat.le_of_ble_eq_true rfl⟩ (fun _ H locs hw9 hP hD hS => ?_)
            refine lv_iinc (v := nI (i + 1)) (lv' := [(3, .int (nI (i + 1))), (2, .int (if (k_rs so le gr lv i).1 = 0 then if k_cat 400 ((k_rs so le gr lv i).2) (nI i) = 1 + (k_max (k_cat 400 ((k_rs so le gr lv i).2) (k_nodeOf (k_cat 400 le (nI i)))) (k_cat 400 ((k_rs so le gr lv i).2) (k_nodeOf (k_cat 400 gr (nI i))))) then 0 else 1 else 1)), (6, .int (1 + (k_max (k_cat 400 ((k_rs so le gr lv i).2) (k_nodeOf (k_cat 400 le (nI i)))) (k_cat 400 ((k_rs so le gr lv i).2) (k_nodeOf (k_cat 400 gr (nI i))))))), (5, .int (k_cat 400 ((k_rs so le gr lv i).2) (k_nodeOf (k_cat 400 gr (nI i))))), (4, .int (k_cat 400 ((k_rs so le gr lv i).2) (k_nodeOf (k_cat 400 le (nI i))))), (0, .ref (ql 0)), (1, .ref (q 0))]) hx hb dX3_raise_99 hl (k := 6) rfl (nI_1 _) (by decide) rfl (fun ls hl => ?_)
            refine lv_goto (tgt := 4) hx hb dX3_raise_102 (by decide) ?_
            have e9 : k_rs so le gr lv (i + 1) = ((if (k_rs so le gr lv i).1 = 0 then if k_cat 400 ((k_rs so le gr lv i).2) (nI i) = 1 + (k_max (k_cat 400 ((k_rs so le gr lv i).2) (k_nodeOf (k_cat 400 le (nI i)))) (k_cat 400 ((k_rs so le gr lv i).2) (k_nodeOf (k_cat 400 gr (nI i))))) then 0 else 1 else 1), k_cpt 400 ((k_rs so le gr lv i).2) (nI i) (1 + (k_max (k_cat 400 ((k_rs so le gr lv i).2) (k_nodeOf (k_cat 400 le (nI i)))) (k_cat 400 ((k_rs so le gr lv i).2) (k_nodeOf (k_cat 400 gr (nI i))))))) := by show k_rsS so le gr i _ = _; unfold k_rsS; rw [if_pos c_18]; rfl
            exact ih (i + 1) H locs ls (by omega) (by rw [e9]; exact hP) (by rw [e9]; exact hD) hS (by rw [e9]; exact lv_sub hl [5, 6, 1, 0] rfl)
          refine lv_if_ne (tgt := 83) hx hb dX3_raise_67 (by decide) (fun c_67 => ?_) (fun c_67 => ?_)
          · skip
            refine lv_iconst (v := 1) hx hb dX3_raise_83 (by decide) ?_
            refine lv_goto (tgt := 88) hx hb dX3_raise_84 (by decide) ?_
            exact J_67 _ (by rw [if_neg c_67])
          · skip
            refine lv_aload_n hx hb dX3_raise_70 rfl (lv_at hl 3 rfl) ?_
            refine va_get (D := D) (ci := 3) (v := .ref (ql 1)) (C := RX3) (T := TX3) (N := 1) hx hb hts (iwX3_raise_3) hown hK.1 hP 0 rfl rfl 0 (by decide) (hts (.fieldLink RX3 14 "InverterGraphs$Levels" "levels" "LInverterGraphs$Cells;") (by decide +kernel)) (fun _ h9 => h9) rfl dX3_raise_71 ?_
            refine lv_iload_n hx hb dX3_raise_74 rfl (lv_at hl 6 rfl) ?_
            refine k_cRO (D := D) (κ := κ) (qc := (RX0, TX0, 1)) (ci := 0) (q0 := 0) ⟨hx, hb, hml, hown, hts⟩ (c_X0_at l D κ (ql 1) (ql 2) 400 ((k_rs so le gr lv i).2) (nI i) (by omega)) (cwV 1 hts gX3_raise_X0_at rfl rfl rfl (by decide +kernel) ⟨Nat.le_of_ble_eq_true rfl, Nat.le_of_ble_eq_true rfl⟩) hK (hP.sub [1, 2] rfl) rfl rfl (As := [.int (nI i)]) (rest := []) rfl rfl hl.1 (Nat.le_of_ble_eq_true rfl) dX3_raise_75 ⟨Nat.le_of_ble_eq_true rfl, Nat.le_of_ble_eq_true rfl⟩ (fun r hr => ?_)
            subst hr
            refine lv_iload hx hb dX3_raise_78 (lv_at hl 0 rfl) ?_
            refine lv_icmp_eq (tgt := 87) hx hb dX3_raise_80 (by decide) (fun c_80 => ?_) (fun c_80 => ?_)
            · skip
              refine lv_iconst (v := 0) hx hb dX3_raise_87 (by decide) ?_
              exact J_67 _ (by rw [if_pos c_67, if_pos c_80])
            · skip
              refine lv_iconst (v := 1) hx hb dX3_raise_83 (by decide) ?_
              refine lv_goto (tgt := 88) hx hb dX3_raise_84 (by decide) ?_
              exact J_67 _ (by rw [if_pos c_67, if_neg c_80])
  exact lp n 0 _ _ ls (by omega) hP hD hS (lv_sub hl [2, 3, 1, 0] rfl)
theorem iwX3_workOut_3 : ∀ w ∈ wsX30, w ∈ wsX3_workOut := by decide +kernel
set_option maxHeartbeats 4000000 in
set_option maxRecDepth 100000 in
theorem c_X3_workOut (l : Launch) (D : va_G) (κ : Nat → ClassId) (sz : Nat) (ql : Nat → Nat) (lv : Nat → Int32) (q : Nat → Nat) (so le gr ne si ou bo : Nat → Int32) (n om ob : Nat)  (hn : n ≤ 400) (hom : om ≤ 40) (hob : ob ≤ om) : k_muv (S := Unit) l yX3_workOut wsX3_workOut 3 68 0 0 D κ [.ref (ql 0), .ref (q 0)] (List.flatten [wL κ ql lv, wG κ q so le gr ne si ou bo n om ob]) sz (fun _ => True) (fun u => List.flatten [wL κ ql (k_lw so le gr n 400 1 (k_fillF lv 0 400)), wG κ q so le gr ne si ou bo n om ob]) := by
  refine Met.ofW (cc := cX3_workOut) (maxL := 4) (ret := none) (by decide) rfl ?_
  intro p e s m args below meth c s₁ B hml hv
  obtain ⟨rfl, hsz, hK, hP, hD0⟩ := hv
  have hx := B.exec
  have hb := B.bytes
  have hr := B.returns
  have hts := atoms_spec (ws := wsX3_workOut) B.pre
  have hown : s.vm.findClass RX3 = some m.cls := findClass_of_methodNamed B.named
  have hlocks := B.notSynchronized
  subst hsz
  have hD := hD0.self (sz := s.heap.size)
  generalize hAe : va_A (List.flatten [wL κ ql lv, wG κ q so le gr ne si ou bo n om ob]) s.heap.size = A at hD ⊢
  have hA : ∀ q : Nat, s.heap.size ≤ q → A q := fun q h => by rw [← hAe]; exact Or.inr h
  have hS : va_S A s.heap s.heap [] := va_S.rf
  have hP : va_P D vwCl (List.flatten [wL κ ql lv, wG κ q so le gr ne si ou bo n om ob]) s.heap := hP
  have hl := lv_entry ([.ref (ql 0), .ref (q 0)]) (n := 4) (Nat.le_of_ble_eq_true rfl)
  rw [lg_entry_eq]
  generalize (lg_sl ([.ref (ql 0), .ref (q 0)]) ++ List.replicate (4 - (lg_sl ([.ref (ql 0), .ref (q 0)])).length) Slot.unset).toArray = ls at hl ⊢
  have hl : lv_has ls 4 [(0, .ref (ql 0)), (1, .ref (q 0))] := hl
  refine lv_aload_n hx hb dX3_workOut_0 rfl (lv_at hl 0 rfl) ?_
  refine va_get (D := D) (ci := 3) (v := .ref (ql 1)) (C := RX3) (T := TX3) (N := 1) hx hb hts (iwX3_workOut_3) hown hK.1 hP 0 rfl rfl 0 (by decide) (hts (.fieldLink RX3 14 "InverterGraphs$Levels" "levels" "LInverterGraphs$Cells;") (by decide +kernel)) (fun _ h9 => h9) rfl dX3_workOut_1 ?_
  refine lv_iconst (v := 0) hx hb dX3_workOut_4 (by decide) ?_
  refine k_cMUv (D := D) (κ := κ) (qc := (RX0, TX0, 1)) (ci := 0) (q0 := 0) (wn := fun _ => List.flatten [wL κ ql (k_fillF lv 0 400), wG κ q so le gr ne si ou bo n om ob]) ⟨hx, hb, hml, hown, hts⟩ (c_X0_fill l D κ _ (ql 1) (ql 2) 400 lv 0 (by omega)) (cwV 1 hts gX3_workOut_X0_fill rfl rfl rfl (by decide +kernel) ⟨Nat.le_of_ble_eq_true rfl, Nat.le_of_ble_eq_true rfl⟩) hK hP hD hS hA [1, 2] (by decide) rfl rfl rfl (fun _ => rfl) (fun _ => rfl) (As := [.int 0]) (rest := []) rfl rfl hl.1 (Nat.le_of_ble_eq_true rfl) dX3_workOut_5 ⟨Nat.le_of_ble_eq_true rfl, Nat.le_of_ble_eq_true rfl⟩ (fun _ H locs hw9 hP hD hS => ?_)
  refine lv_iconst (v := 1) hx hb dX3_workOut_8 (by decide) ?_
  refine lv_istore_n (lv' := [(2, .int 1), (0, .ref (ql 0)), (1, .ref (q 0))]) hx hb dX3_workOut_9 rfl hl (by decide) rfl (fun ls hl => ?_)
  refine lv_iconst (v := 0) hx hb dX3_workOut_10 (by decide) ?_
  refine lv_istore_n (lv' := [(3, .int 0), (2, .int 1), (0, .ref (ql 0)), (1, .ref (q 0))]) hx hb dX3_workOut_11 rfl hl (by decide) rfl (fun ls hl => ?_)
  have lp : ∀ (k : Nat) (z : Int32) (x : Nat → Int32) (i : Nat) (H : Heap) (locs : List Loc) (ls : Array Slot), (i + k = 400) → ((k_lw so le gr n 400 1 (k_fillF lv 0 400)) = k_lw so le gr n k z x) → va_P D vwCl (List.flatten [wL κ ql x, wG κ q so le gr ne si ou bo n om ob]) H → va_D A (List.flatten [wL κ ql x, wG κ q so le gr ne si ou bo n om ob]) → va_S A s.heap H locs → lv_has ls 4 [(0, .ref (ql 0)), (1, .ref (q 0)), (2, .int z), (3, .int (nI i))] → W p l e (headSpec wsX3_workOut ({ frames := 3, cells := 0, slots := 0, locals := 68 })).room s m ([.ref (ql 0), .ref (q 0)] : List Value).toArray below meth c H locs 0 0 (MQ below (va_Qv (S := Unit) (fun _ => True) (fun u => k_B D A (List.flatten [wL κ ql (k_lw so le gr n 400 1 (k_fillF lv 0 400)), wG κ q so le gr ne si ou bo n om ob])) A) ([.ref (ql 0), .ref (q 0)] : List Value).toArray s 0 0 A) (F0 m 12 ls []) := by
    intro k
    induction k with
    | zero =>
      intro z x i H locs ls hi hr9 hP hD hS hl
      refine lv_iload_n hx hb dX3_workOut_12 rfl (lv_at hl 3 rfl) ?_
      refine lv_sipush (v := 400) hx hb dX3_workOut_13 (by decide) ?_
      refine lv_icmp_ge (tgt := 35) hx hb dX3_workOut_16 (by decide) (fun c_16 => ?_) (fun c_16 => ?_)
      · skip
        have c_16 : 400 ≤ i := (nI_leI (a := 400) (b := i) (by omega) (by omega)).mp c_16
        rw [show (k_lw so le gr n 400 1 (k_fillF lv 0 400)) = x from (by rw [hr9, k_lw])]
        exact W.vret hx hb hr (fun t ht hW => ⟨⟨(), rfl, trivial, by rw [ht]; exact hP, hD⟩, hS.F ht⟩) hS.2.2 dX3_workOut_35
      · skip
        have c_16 : ¬ (400 ≤ i) := fun h9 => c_16 ((nI_leI (a := 400) (b := i) (by omega) (by omega)).mpr h9)
        exfalso; omega
    | succ k ih =>
      intro z x i H locs ls hi hr9 hP hD hS hl
      refine lv_iload_n hx hb dX3_workOut_12 rfl (lv_at hl 3 rfl) ?_
      refine lv_sipush (v := 400) hx hb dX3_workOut_13 (by decide) ?_
      refine lv_icmp_ge (tgt := 35) hx hb dX3_workOut_16 (by decide) (fun c_16 => ?_) (fun c_16 => ?_)
      · skip
        have c_16 : 400 ≤ i := (nI_leI (a := 400) (b := i) (by omega) (by omega)).mp c_16
        exfalso; omega
      · skip
        have c_16 : ¬ (400 ≤ i) := fun h9 => c_16 ((nI_leI (a := 400) (b := i) (by omega) (by omega)).mpr h9)
        refine lv_iload_n hx hb dX3_workOut_19 rfl (lv_at hl 2 rfl) ?_
        refine lv_if_eq (tgt := 35) hx hb dX3_workOut_20 (by decide) (fun c_20 => ?_) (fun c_20 => ?_)
        · skip
          rw [show (k_lw so le gr n 400 1 (k_fillF lv 0 400)) = x from (by rw [hr9, k_lw, if_pos c_20])]
          exact W.vret hx hb hr (fun t ht hW => ⟨⟨(), rfl, trivial, by rw [ht]; exact hP, hD⟩, hS.F ht⟩) hS.2.2 dX3_workOut_35
        · skip
          refine lv_aload_n hx hb dX3_workOut_23 rfl (lv_at hl 0 rfl) ?_
          refine lv_aload_n hx hb dX3_workOut_24 rfl (lv_at hl 1 rfl) ?_
          refine k_cSUi (D := D) (κ := κ) (qc := (RX3, TX3, 1)) (ci := 3) (q0 := 0) (Wc := [wL κ ql x, wG κ q so le gr ne si ou bo n om ob]) (W' := fun _ => [wL κ ql ((k_rs so le gr x n).2), wG κ q so le gr ne si ou bo n om ob]) (Wn := fun _ => [wL κ ql ((k_rs so le gr x n).2), wG κ q so le gr ne si ou bo n om ob]) ⟨hx, hb, hml, hown, hts⟩ (c_X3_raise l D κ _ ql x q so le gr ne si ou bo n om ob  (by omega) (by omega) (by omega)) (cwV 1 hts gX3_workOut_X3_raise rfl rfl rfl (by decide +kernel) ⟨Nat.le_of_ble_eq_true rfl, Nat.le_of_ble_eq_true rfl⟩) hK hP hD hS hA [0, 1] (by decide) rfl rfl (fun _ => rfl) rfl rfl (fun _ => rfl) (fun _ => rfl) (As := [.ref (q 0)]) (rest := []) rfl rfl hl.1 (Nat.le_of_ble_eq_true rfl) dX3_workOut_25 ⟨Nat.le_of_ble_eq_true rfl, Nat.le_of_ble_eq_true rfl⟩ (fun r _ H locs hr hP hD hS => ?_)
          have hP : va_P D vwCl (List.flatten [wL κ ql ((k_rs so le gr x n).2), wG κ q so le gr ne si ou bo n om ob]) H := hP
          have hD : va_D A (List.flatten [wL κ ql ((k_rs so le gr x n).2), wG κ q so le gr ne si ou bo n om ob]) := hD
          subst hr
          refine lv_istore_n (lv' := [(2, .int ((k_rs so le gr x n).1)), (0, .ref (ql 0)), (1, .ref (q 0)), (3, .int (nI i))]) hx hb dX3_workOut_28 rfl hl (by decide) rfl (fun ls hl => ?_)
          refine lv_iinc (v := nI (i + 1)) (lv' := [(3, .int (nI (i + 1))), (2, .int ((k_rs so le gr x n).1)), (0, .ref (ql 0)), (1, .ref (q 0))]) hx hb dX3_workOut_29 hl (k := 3) rfl (nI_1 _) (by decide) rfl (fun ls hl => ?_)
          refine lv_goto (tgt := 12) hx hb dX3_workOut_32 (by decide) ?_
          exact ih ((k_rs so le gr x n).1) ((k_rs so le gr x n).2) (i + 1) H locs ls (by omega) (by rw [hr9, k_lw, if_neg c_20]) hP hD hS (lv_sub hl [2, 3, 1, 0] rfl)
  exact lp 400 1 (k_fillF lv 0 400) 0 H locs ls (by omega) rfl hP hD hS (lv_sub hl [2, 3, 1, 0] rfl)
