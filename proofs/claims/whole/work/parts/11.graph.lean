/-! GRAPH: what its methods answer and do, in numbers -/
def k_cnt (so : Nat → Int32) (x : Int32) : Nat → Int32
  | 0 => 0
  | i + 1 => k_cnt so x i + (if k_cat 400 so (nI i) = x then 1 else 0)
def k_use3 (le gr ne : Nat → Int32) (x : Int32) : Nat → Int32
  | 0 => 0
  | i + 1 => k_use3 le gr ne x i + (if k_nodeOf (k_cat 400 le (nI i)) = x then 1 else 0) + (if k_nodeOf (k_cat 400 gr (nI i)) = x then 1 else 0) + (if k_nodeOf (k_cat 400 ne (nI i)) = x then 1 else 0)
def k_useO (ou : Nat → Int32) (x z : Int32) : Nat → Int32
  | 0 => z
  | i + 1 => k_useO ou x z i + (if k_nodeOf (k_cat 40 ou (nI i)) = x then 1 else 0)
/-- the first and with just these fanins, from i on, k of them to look at -/
def k_sa (le gr : Nat → Int32) (x y z : Int32) : Nat → Nat → Int32
  | 0, _ => -1
  | k + 1, i => if k_cat 400 le (nI i) = x then (if k_cat 400 gr (nI i) = y then (if nI i = z then k_sa le gr x y z k (i + 1) else k_litOf (nI i)) else k_sa le gr x y z k (i + 1)) else k_sa le gr x y z k (i + 1)
def k_known (le gr : Nat → Int32) (n : Nat) (a b z : Int32) : Int32 :=
  if a = b then a else if a = k_turned b then 0 else if a = 0 then 0 else if b = 0 then 0 else if a = 1 then b else if b = 1 then a else k_sa le gr (k_min a b) (k_max a b) z n 0
def k_isRep (si : Nat → Int32) (x : Int32) : Int32 := if k_cat 400 si (k_nodeOf x) = -1 then 0 else 1
def k_stS (si : Nat → Int32) (x : Int32) : Int32 := if k_isTurned x = 0 then k_cat 400 si (k_nodeOf x) else k_turned (k_cat 400 si (k_nodeOf x))
def k_stL (si : Nat → Int32) : Nat → Int32 → Int32
  | 0, x => x
  | k + 1, x => if k_isRep si x = 0 then x else k_stL si k (k_stS si x)
termination_by k => k
/-- the first outdated and, from i on, k of them to look at -/
def k_lo (le gr si : Nat → Int32) : Nat → Nat → Int32
  | 0, _ => -1
  | k + 1, i => if k_isRep si (k_cat 400 le (nI i)) = 0 then (if k_isRep si (k_cat 400 gr (nI i)) = 0 then k_lo le gr si k (i + 1) else nI i) else nI i
theorem k_lo_or (le gr si : Nat → Int32) : ∀ (k i : Nat), k_lo le gr si k i = -1 ∨ ∃ j, i ≤ j ∧ j < i + k ∧ k_lo le gr si k i = nI j := by
  intro k
  induction k with
  | zero => intro i; exact Or.inl rfl
  | succ k ih =>
    intro i
    unfold k_lo
    split
    · split
      · rcases ih (i + 1) with h | ⟨j, h1, h2, h3⟩
        · exact Or.inl h
        · exact Or.inr ⟨j, by omega, by omega, h3⟩
      · exact Or.inr ⟨i, by omega, by omega, rfl⟩
    · exact Or.inr ⟨i, by omega, by omega, rfl⟩
/-- what renewing needs of a graph: sorts, lessers, greaters, what stands in -/
abbrev KG : Type := (Nat → Int32) × (Nat → Int32) × (Nat → Int32) × (Nat → Int32)
def k_gone (x y : Int32) (g : KG) : KG := (k_cpt 400 g.1 x 5, k_cpt 400 g.2.1 x (-1), k_cpt 400 g.2.2.1 x (-1), k_cpt 400 g.2.2.2 x y)
def k_reA (x : Int32) (g : KG) : Int32 := k_stL g.2.2.2 400 (k_cat 400 g.2.1 x)
def k_reB (x : Int32) (g : KG) : Int32 := k_stL g.2.2.2 400 (k_cat 400 g.2.2.1 x)
def k_reK (n : Nat) (x : Int32) (g : KG) : Int32 := k_known g.2.1 g.2.2.1 n (k_reA x g) (k_reB x g) x
def k_reR (n : Nat) (x : Int32) (g : KG) : Int32 := if k_reK n x g = -1 then 1 else 0
def k_reG (n : Nat) (x : Int32) (g : KG) : KG := if k_reK n x g = -1 then (g.1, k_cpt 400 g.2.1 x (k_min (k_reA x g) (k_reB x g)), k_cpt 400 g.2.2.1 x (k_max (k_reA x g) (k_reB x g)), g.2.2.2) else k_gone x (k_reK n x g) g
def k_reL (n : Nat) : Nat → Int32 → KG → KG
  | 0, _, g => g
  | k + 1, x, g => if x = -1 then g else if k_reR n x g = 0 then k_reL n k (k_lo (k_reG n x g).2.1 (k_reG n x g).2.2.1 (k_reG n x g).2.2.2 n 0) (k_reG n x g) else k_reL n k (k_lo (k_reG n x g).2.1 (k_reG n x g).2.2.1 (k_reG n x g).2.2.2 (n - (x.toNatClampNeg + 1)) (x.toNatClampNeg + 1)) (k_reG n x g)
termination_by k => k
/-- a row whose first i places have what stands for theirs -/
def k_stR (m : Nat) (si f : Nat → Int32) (i : Nat) : Nat → Int32 := fun j => if j < i then k_stL si 400 (f j) else f j
theorem k_stR_0 (m : Nat) (si f : Nat → Int32) : k_stR m si f 0 = f := by funext j; simp [k_stR]
theorem k_stR_s {m : Nat} (si f : Nat → Int32) {i : Nat} (hi : i < m) (hm : m ≤ 400) : k_cpt m (k_stR m si f i) (nI i) (k_stL si 400 (k_cat m (k_stR m si f i) (nI i))) = k_stR m si f (i + 1) := by
  rw [k_cpt_in hi (by omega), k_cat_in hi (by omega)]
  funext j
  by_cases h : j = i
  · subst h; rw [pk_us]; simp [k_stR]
  · rw [pk_un h]; simp only [k_stR]; by_cases h2 : j < i
    · rw [if_pos h2, if_pos (by omega)]
    · rw [if_neg h2, if_neg (by omega)]
def k_bx (f : Nat → Int32) (j i : Nat) : Nat → Int32 := fun x => if j ≤ x ∧ x < i then 1 else f x
theorem k_bx_0 (f : Nat → Int32) (j : Nat) : k_bx f j j = f := by funext x; simp only [k_bx]; rw [if_neg (by omega)]
theorem k_bx_s (f : Nat → Int32) {j i : Nat} (hj : j ≤ i) (hi : i < 40) : k_cpt 40 (k_bx f j i) (nI i) 1 = k_bx f j (i + 1) := by
  rw [k_cpt_in hi (by omega)]
  funext x
  by_cases h : x = i
  · subst h; rw [pk_us]; simp only [k_bx]; rw [if_pos ⟨hj, by omega⟩]
  · rw [pk_un h]; simp only [k_bx]; by_cases h2 : j ≤ x ∧ x < i
    · rw [if_pos h2, if_pos (by omega)]
    · rw [if_neg h2, if_neg (by omega)]
theorem iwX1_nodesGiven_1 : ∀ w ∈ wsX10, w ∈ wsX1_nodesGiven := by decide +kernel
set_option maxHeartbeats 4000000 in
set_option maxRecDepth 100000 in
theorem c_X1_nodesGiven (l : Launch) (D : va_G) (κ : Nat → ClassId) (q : Nat → Nat) (so le gr ne si ou bo : Nat → Int32) (n om ob : Nat)  (hn : n ≤ 400) (hom : om ≤ 40) (hob : ob ≤ om) : k_roi l yX1_nodesGiven wsX1_nodesGiven 0 0 D κ [.ref (q 0)] (wG κ q so le gr ne si ou bo n om ob) (fun r => r = nI n) := by
  refine Met.ofW (cc := cX1_nodesGiven) (maxL := 1) (ret := (some .int)) (by decide) rfl ?_
  intro p e s m args below meth c s₁ B hml hv
  obtain ⟨rfl, hK, hP⟩ := hv
  have hx := B.exec
  have hb := B.bytes
  have hr := B.returns
  have hts := atoms_spec (ws := wsX1_nodesGiven) B.pre
  have hown : s.vm.findClass RX1 = some m.cls := findClass_of_methodNamed B.named
  have hlocks := B.notSynchronized
  have hP : va_P D vwCl (wG κ q so le gr ne si ou bo n om ob) s.heap := hP
  have hl := lv_entry ([.ref (q 0)]) (n := 1) (Nat.le_of_ble_eq_true rfl)
  rw [lg_entry_eq]
  generalize (lg_sl ([.ref (q 0)]) ++ List.replicate (1 - (lg_sl ([.ref (q 0)])).length) Slot.unset).toArray = ls at hl ⊢
  have hl : lv_has ls 1 [(0, .ref (q 0))] := hl
  refine lv_aload_n hx hb dX1_nodesGiven_0 rfl (lv_at hl 0 rfl) ?_
  refine va_get (D := D) (ci := 1) (v := .int (nI n)) (C := RX1) (T := TX1) (N := 10) hx hb hts (iwX1_nodesGiven_1) hown hK.1 hP 0 rfl rfl 7 (by decide) (hts (.fieldLink RX1 46 "InverterGraphs$Graph" "nodes" "I") (by decide +kernel)) (fun _ h9 => h9) rfl dX1_nodesGiven_1 ?_
  exact W.iret (v := nI n) hx hb hr (fun t ht _ => ⟨nI n, rfl, rfl, ht⟩) (fun _ h9 => nomatch h9) dX1_nodesGiven_4
theorem iwX1_outputsGiven_1 : ∀ w ∈ wsX10, w ∈ wsX1_outputsGiven := by decide +kernel
set_option maxHeartbeats 4000000 in
set_option maxRecDepth 100000 in
theorem c_X1_outputsGiven (l : Launch) (D : va_G) (κ : Nat → ClassId) (q : Nat → Nat) (so le gr ne si ou bo : Nat → Int32) (n om ob : Nat)  (hn : n ≤ 400) (hom : om ≤ 40) (hob : ob ≤ om) : k_roi l yX1_outputsGiven wsX1_outputsGiven 0 0 D κ [.ref (q 0)] (wG κ q so le gr ne si ou bo n om ob) (fun r => r = nI om) := by
  refine Met.ofW (cc := cX1_outputsGiven) (maxL := 1) (ret := (some .int)) (by decide) rfl ?_
  intro p e s m args below meth c s₁ B hml hv
  obtain ⟨rfl, hK, hP⟩ := hv
  have hx := B.exec
  have hb := B.bytes
  have hr := B.returns
  have hts := atoms_spec (ws := wsX1_outputsGiven) B.pre
  have hown : s.vm.findClass RX1 = some m.cls := findClass_of_methodNamed B.named
  have hlocks := B.notSynchronized
  have hP : va_P D vwCl (wG κ q so le gr ne si ou bo n om ob) s.heap := hP
  have hl := lv_entry ([.ref (q 0)]) (n := 1) (Nat.le_of_ble_eq_true rfl)
  rw [lg_entry_eq]
  generalize (lg_sl ([.ref (q 0)]) ++ List.replicate (1 - (lg_sl ([.ref (q 0)])).length) Slot.unset).toArray = ls at hl ⊢
  have hl : lv_has ls 1 [(0, .ref (q 0))] := hl
  refine lv_aload_n hx hb dX1_outputsGiven_0 rfl (lv_at hl 0 rfl) ?_
  refine va_get (D := D) (ci := 1) (v := .int (nI om)) (C := RX1) (T := TX1) (N := 10) hx hb hts (iwX1_outputsGiven_1) hown hK.1 hP 0 rfl rfl 8 (by decide) (hts (.fieldLink RX1 50 "InverterGraphs$Graph" "outputsMade" "I") (by decide +kernel)) (fun _ h9 => h9) rfl dX1_outputsGiven_1 ?_
  exact W.iret (v := nI om) hx hb hr (fun t ht _ => ⟨nI om, rfl, rfl, ht⟩) (fun _ h9 => nomatch h9) dX1_outputsGiven_4
theorem iwX1_sortOf_1 : ∀ w ∈ wsX10, w ∈ wsX1_sortOf := by decide +kernel
set_option maxHeartbeats 4000000 in
set_option maxRecDepth 100000 in
theorem c_X1_sortOf (l : Launch) (D : va_G) (κ : Nat → ClassId) (q : Nat → Nat) (so le gr ne si ou bo : Nat → Int32) (n om ob : Nat) (p0 : Int32) (hn : n ≤ 400) (hom : om ≤ 40) (hob : ob ≤ om) : k_roi l yX1_sortOf wsX1_sortOf 1 21 D κ [.ref (q 0), .int p0] (wG κ q so le gr ne si ou bo n om ob) (fun r => r = k_cat 400 so p0) := by
  refine Met.ofW (cc := cX1_sortOf) (maxL := 2) (ret := (some .int)) (by decide) rfl ?_
  intro p e s m args below meth c s₁ B hml hv
  obtain ⟨rfl, hK, hP⟩ := hv
  have hx := B.exec
  have hb := B.bytes
  have hr := B.returns
  have hts := atoms_spec (ws := wsX1_sortOf) B.pre
  have hown : s.vm.findClass RX1 = some m.cls := findClass_of_methodNamed B.named
  have hlocks := B.notSynchronized
  have hP : va_P D vwCl (wG κ q so le gr ne si ou bo n om ob) s.heap := hP
  have hl := lv_entry ([.ref (q 0), .int p0]) (n := 2) (Nat.le_of_ble_eq_true rfl)
  rw [lg_entry_eq]
  generalize (lg_sl ([.ref (q 0), .int p0]) ++ List.replicate (2 - (lg_sl ([.ref (q 0), .int p0])).length) Slot.unset).toArray = ls at hl ⊢
  have hl : lv_has ls 2 [(0, .ref (q 0)), (1, .int p0)] := hl
  refine lv_aload_n hx hb dX1_sortOf_0 rfl (lv_at hl 0 rfl) ?_
  refine va_get (D := D) (ci := 1) (v := .ref (q 1)) (C := RX1) (T := TX1) (N := 10) hx hb hts (iwX1_sortOf_1) hown hK.1 hP 0 rfl rfl 0 (by decide) (hts (.fieldLink RX1 14 "InverterGraphs$Graph" "sorts" "LInverterGraphs$Cells;") (by decide +kernel)) (fun _ h9 => h9) rfl dX1_sortOf_1 ?_
  refine lv_iload_n hx hb dX1_sortOf_4 rfl (lv_at hl 1 rfl) ?_
  refine k_cRO (D := D) (κ := κ) (qc := (RX0, TX0, 1)) (ci := 0) (q0 := 0) ⟨hx, hb, hml, hown, hts⟩ (c_X0_at l D κ (q 1) (q 8) 400 so p0 (by omega)) (cwV 1 hts gX1_sortOf_X0_at rfl rfl rfl (by decide +kernel) ⟨Nat.le_of_ble_eq_true rfl, Nat.le_of_ble_eq_true rfl⟩) hK (hP.sub [1, 8] rfl) rfl rfl (As := [.int p0]) (rest := []) rfl rfl hl.1 (Nat.le_of_ble_eq_true rfl) dX1_sortOf_5 ⟨Nat.le_of_ble_eq_true rfl, Nat.le_of_ble_eq_true rfl⟩ (fun r hr => ?_)
  subst hr
  exact W.iret (v := k_cat 400 so p0) hx hb hr (fun t ht _ => ⟨k_cat 400 so p0, rfl, rfl, ht⟩) (fun _ h9 => nomatch h9) dX1_sortOf_8
theorem iwX1_lesserFanin_1 : ∀ w ∈ wsX10, w ∈ wsX1_lesserFanin := by decide +kernel
set_option maxHeartbeats 4000000 in
set_option maxRecDepth 100000 in
theorem c_X1_lesserFanin (l : Launch) (D : va_G) (κ : Nat → ClassId) (q : Nat → Nat) (so le gr ne si ou bo : Nat → Int32) (n om ob : Nat) (p0 : Int32) (hn : n ≤ 400) (hom : om ≤ 40) (hob : ob ≤ om) : k_roi l yX1_lesserFanin wsX1_lesserFanin 1 21 D κ [.ref (q 0), .int p0] (wG κ q so le gr ne si ou bo n om ob) (fun r => r = k_cat 400 le p0) := by
  refine Met.ofW (cc := cX1_lesserFanin) (maxL := 2) (ret := (some .int)) (by decide) rfl ?_
  intro p e s m args below meth c s₁ B hml hv
  obtain ⟨rfl, hK, hP⟩ := hv
  have hx := B.exec
  have hb := B.bytes
  have hr := B.returns
  have hts := atoms_spec (ws := wsX1_lesserFanin) B.pre
  have hown : s.vm.findClass RX1 = some m.cls := findClass_of_methodNamed B.named
  have hlocks := B.notSynchronized
  have hP : va_P D vwCl (wG κ q so le gr ne si ou bo n om ob) s.heap := hP
  have hl := lv_entry ([.ref (q 0), .int p0]) (n := 2) (Nat.le_of_ble_eq_true rfl)
  rw [lg_entry_eq]
  generalize (lg_sl ([.ref (q 0), .int p0]) ++ List.replicate (2 - (lg_sl ([.ref (q 0), .int p0])).length) Slot.unset).toArray = ls at hl ⊢
  have hl : lv_has ls 2 [(0, .ref (q 0)), (1, .int p0)] := hl
  refine lv_aload_n hx hb dX1_lesserFanin_0 rfl (lv_at hl 0 rfl) ?_
  refine va_get (D := D) (ci := 1) (v := .ref (q 2)) (C := RX1) (T := TX1) (N := 10) hx hb hts (iwX1_lesserFanin_1) hown hK.1 hP 0 rfl rfl 1 (by decide) (hts (.fieldLink RX1 20 "InverterGraphs$Graph" "lessers" "LInverterGraphs$Cells;") (by decide +kernel)) (fun _ h9 => h9) rfl dX1_lesserFanin_1 ?_
  refine lv_iload_n hx hb dX1_lesserFanin_4 rfl (lv_at hl 1 rfl) ?_
  refine k_cRO (D := D) (κ := κ) (qc := (RX0, TX0, 1)) (ci := 0) (q0 := 0) ⟨hx, hb, hml, hown, hts⟩ (c_X0_at l D κ (q 2) (q 9) 400 le p0 (by omega)) (cwV 1 hts gX1_lesserFanin_X0_at rfl rfl rfl (by decide +kernel) ⟨Nat.le_of_ble_eq_true rfl, Nat.le_of_ble_eq_true rfl⟩) hK (hP.sub [2, 9] rfl) rfl rfl (As := [.int p0]) (rest := []) rfl rfl hl.1 (Nat.le_of_ble_eq_true rfl) dX1_lesserFanin_5 ⟨Nat.le_of_ble_eq_true rfl, Nat.le_of_ble_eq_true rfl⟩ (fun r hr => ?_)
  subst hr
  exact W.iret (v := k_cat 400 le p0) hx hb hr (fun t ht _ => ⟨k_cat 400 le p0, rfl, rfl, ht⟩) (fun _ h9 => nomatch h9) dX1_lesserFanin_8
theorem iwX1_greaterFanin_1 : ∀ w ∈ wsX10, w ∈ wsX1_greaterFanin := by decide +kernel
set_option maxHeartbeats 4000000 in
set_option maxRecDepth 100000 in
theorem c_X1_greaterFanin (l : Launch) (D : va_G) (κ : Nat → ClassId) (q : Nat → Nat) (so le gr ne si ou bo : Nat → Int32) (n om ob : Nat) (p0 : Int32) (hn : n ≤ 400) (hom : om ≤ 40) (hob : ob ≤ om) : k_roi l yX1_greaterFanin wsX1_greaterFanin 1 21 D κ [.ref (q 0), .int p0] (wG κ q so le gr ne si ou bo n om ob) (fun r => r = k_cat 400 gr p0) := by
  refine Met.ofW (cc := cX1_greaterFanin) (maxL := 2) (ret := (some .int)) (by decide) rfl ?_
  intro p e s m args below meth c s₁ B hml hv
  obtain ⟨rfl, hK, hP⟩ := hv
  have hx := B.exec
  have hb := B.bytes
  have hr := B.returns
  have hts := atoms_spec (ws := wsX1_greaterFanin) B.pre
  have hown : s.vm.findClass RX1 = some m.cls := findClass_of_methodNamed B.named
  have hlocks := B.notSynchronized
  have hP : va_P D vwCl (wG κ q so le gr ne si ou bo n om ob) s.heap := hP
  have hl := lv_entry ([.ref (q 0), .int p0]) (n := 2) (Nat.le_of_ble_eq_true rfl)
  rw [lg_entry_eq]
  generalize (lg_sl ([.ref (q 0), .int p0]) ++ List.replicate (2 - (lg_sl ([.ref (q 0), .int p0])).length) Slot.unset).toArray = ls at hl ⊢
  have hl : lv_has ls 2 [(0, .ref (q 0)), (1, .int p0)] := hl
  refine lv_aload_n hx hb dX1_greaterFanin_0 rfl (lv_at hl 0 rfl) ?_
  refine va_get (D := D) (ci := 1) (v := .ref (q 3)) (C := RX1) (T := TX1) (N := 10) hx hb hts (iwX1_greaterFanin_1) hown hK.1 hP 0 rfl rfl 2 (by decide) (hts (.fieldLink RX1 23 "InverterGraphs$Graph" "greaters" "LInverterGraphs$Cells;") (by decide +kernel)) (fun _ h9 => h9) rfl dX1_greaterFanin_1 ?_
  refine lv_iload_n hx hb dX1_greaterFanin_4 rfl (lv_at hl 1 rfl) ?_
  refine k_cRO (D := D) (κ := κ) (qc := (RX0, TX0, 1)) (ci := 0) (q0 := 0) ⟨hx, hb, hml, hown, hts⟩ (c_X0_at l D κ (q 3) (q 10) 400 gr p0 (by omega)) (cwV 1 hts gX1_greaterFanin_X0_at rfl rfl rfl (by decide +kernel) ⟨Nat.le_of_ble_eq_true rfl, Nat.le_of_ble_eq_true rfl⟩) hK (hP.sub [3, 10] rfl) rfl rfl (As := [.int p0]) (rest := []) rfl rfl hl.1 (Nat.le_of_ble_eq_true rfl) dX1_greaterFanin_5 ⟨Nat.le_of_ble_eq_true rfl, Nat.le_of_ble_eq_true rfl⟩ (fun r hr => ?_)
  subst hr
  exact W.iret (v := k_cat 400 gr p0) hx hb hr (fun t ht _ => ⟨k_cat 400 gr p0, rfl, rfl, ht⟩) (fun _ h9 => nomatch h9) dX1_greaterFanin_8
theorem iwX1_nextLiteral_1 : ∀ w ∈ wsX10, w ∈ wsX1_nextLiteral := by decide +kernel
set_option maxHeartbeats 4000000 in
set_option maxRecDepth 100000 in
theorem c_X1_nextLiteral (l : Launch) (D : va_G) (κ : Nat → ClassId) (q : Nat → Nat) (so le gr ne si ou bo : Nat → Int32) (n om ob : Nat) (p0 : Int32) (hn : n ≤ 400) (hom : om ≤ 40) (hob : ob ≤ om) : k_roi l yX1_nextLiteral wsX1_nextLiteral 1 21 D κ [.ref (q 0), .int p0] (wG κ q so le gr ne si ou bo n om ob) (fun r => r = k_cat 400 ne p0) := by
  refine Met.ofW (cc := cX1_nextLiteral) (maxL := 2) (ret := (some .int)) (by decide) rfl ?_
  intro p e s m args below meth c s₁ B hml hv
  obtain ⟨rfl, hK, hP⟩ := hv
  have hx := B.exec
  have hb := B.bytes
  have hr := B.returns
  have hts := atoms_spec (ws := wsX1_nextLiteral) B.pre
  have hown : s.vm.findClass RX1 = some m.cls := findClass_of_methodNamed B.named
  have hlocks := B.notSynchronized
  have hP : va_P D vwCl (wG κ q so le gr ne si ou bo n om ob) s.heap := hP
  have hl := lv_entry ([.ref (q 0), .int p0]) (n := 2) (Nat.le_of_ble_eq_true rfl)
  rw [lg_entry_eq]
  generalize (lg_sl ([.ref (q 0), .int p0]) ++ List.replicate (2 - (lg_sl ([.ref (q 0), .int p0])).length) Slot.unset).toArray = ls at hl ⊢
  have hl : lv_has ls 2 [(0, .ref (q 0)), (1, .int p0)] := hl
  refine lv_aload_n hx hb dX1_nextLiteral_0 rfl (lv_at hl 0 rfl) ?_
  refine va_get (D := D) (ci := 1) (v := .ref (q 4)) (C := RX1) (T := TX1) (N := 10) hx hb hts (iwX1_nextLiteral_1) hown hK.1 hP 0 rfl rfl 3 (by decide) (hts (.fieldLink RX1 26 "InverterGraphs$Graph" "nexts" "LInverterGraphs$Cells;") (by decide +kernel)) (fun _ h9 => h9) rfl dX1_nextLiteral_1 ?_
  refine lv_iload_n hx hb dX1_nextLiteral_4 rfl (lv_at hl 1 rfl) ?_
  refine k_cRO (D := D) (κ := κ) (qc := (RX0, TX0, 1)) (ci := 0) (q0 := 0) ⟨hx, hb, hml, hown, hts⟩ (c_X0_at l D κ (q 4) (q 11) 400 ne p0 (by omega)) (cwV 1 hts gX1_nextLiteral_X0_at rfl rfl rfl (by decide +kernel) ⟨Nat.le_of_ble_eq_true rfl, Nat.le_of_ble_eq_true rfl⟩) hK (hP.sub [4, 11] rfl) rfl rfl (As := [.int p0]) (rest := []) rfl rfl hl.1 (Nat.le_of_ble_eq_true rfl) dX1_nextLiteral_5 ⟨Nat.le_of_ble_eq_true rfl, Nat.le_of_ble_eq_true rfl⟩ (fun r hr => ?_)
  subst hr
  exact W.iret (v := k_cat 400 ne p0) hx hb hr (fun t ht _ => ⟨k_cat 400 ne p0, rfl, rfl, ht⟩) (fun _ h9 => nomatch h9) dX1_nextLiteral_8
theorem iwX1_standInOf_1 : ∀ w ∈ wsX10, w ∈ wsX1_standInOf := by decide +kernel
set_option maxHeartbeats 4000000 in
set_option maxRecDepth 100000 in
theorem c_X1_standInOf (l : Launch) (D : va_G) (κ : Nat → ClassId) (q : Nat → Nat) (so le gr ne si ou bo : Nat → Int32) (n om ob : Nat) (p0 : Int32) (hn : n ≤ 400) (hom : om ≤ 40) (hob : ob ≤ om) : k_roi l yX1_standInOf wsX1_standInOf 1 21 D κ [.ref (q 0), .int p0] (wG κ q so le gr ne si ou bo n om ob) (fun r => r = k_cat 400 si p0) := by
  refine Met.ofW (cc := cX1_standInOf) (maxL := 2) (ret := (some .int)) (by decide) rfl ?_
  intro p e s m args below meth c s₁ B hml hv
  obtain ⟨rfl, hK, hP⟩ := hv
  have hx := B.exec
  have hb := B.bytes
  have hr := B.returns
  have hts := atoms_spec (ws := wsX1_standInOf) B.pre
  have hown : s.vm.findClass RX1 = some m.cls := findClass_of_methodNamed B.named
  have hlocks := B.notSynchronized
  have hP : va_P D vwCl (wG κ q so le gr ne si ou bo n om ob) s.heap := hP
  have hl := lv_entry ([.ref (q 0), .int p0]) (n := 2) (Nat.le_of_ble_eq_true rfl)
  rw [lg_entry_eq]
  generalize (lg_sl ([.ref (q 0), .int p0]) ++ List.replicate (2 - (lg_sl ([.ref (q 0), .int p0])).length) Slot.unset).toArray = ls at hl ⊢
  have hl : lv_has ls 2 [(0, .ref (q 0)), (1, .int p0)] := hl
  refine lv_aload_n hx hb dX1_standInOf_0 rfl (lv_at hl 0 rfl) ?_
  refine va_get (D := D) (ci := 1) (v := .ref (q 5)) (C := RX1) (T := TX1) (N := 10) hx hb hts (iwX1_standInOf_1) hown hK.1 hP 0 rfl rfl 4 (by decide) (hts (.fieldLink RX1 29 "InverterGraphs$Graph" "standIns" "LInverterGraphs$Cells;") (by decide +kernel)) (fun _ h9 => h9) rfl dX1_standInOf_1 ?_
  refine lv_iload_n hx hb dX1_standInOf_4 rfl (lv_at hl 1 rfl) ?_
  refine k_cRO (D := D) (κ := κ) (qc := (RX0, TX0, 1)) (ci := 0) (q0 := 0) ⟨hx, hb, hml, hown, hts⟩ (c_X0_at l D κ (q 5) (q 12) 400 si p0 (by omega)) (cwV 1 hts gX1_standInOf_X0_at rfl rfl rfl (by decide +kernel) ⟨Nat.le_of_ble_eq_true rfl, Nat.le_of_ble_eq_true rfl⟩) hK (hP.sub [5, 12] rfl) rfl rfl (As := [.int p0]) (rest := []) rfl rfl hl.1 (Nat.le_of_ble_eq_true rfl) dX1_standInOf_5 ⟨Nat.le_of_ble_eq_true rfl, Nat.le_of_ble_eq_true rfl⟩ (fun r hr => ?_)
  subst hr
  exact W.iret (v := k_cat 400 si p0) hx hb hr (fun t ht _ => ⟨k_cat 400 si p0, rfl, rfl, ht⟩) (fun _ h9 => nomatch h9) dX1_standInOf_8
theorem iwX1_outputLiteral_1 : ∀ w ∈ wsX10, w ∈ wsX1_outputLiteral := by decide +kernel
set_option maxHeartbeats 4000000 in
set_option maxRecDepth 100000 in
theorem c_X1_outputLiteral (l : Launch) (D : va_G) (κ : Nat → ClassId) (q : Nat → Nat) (so le gr ne si ou bo : Nat → Int32) (n om ob : Nat) (p0 : Int32) (hn : n ≤ 400) (hom : om ≤ 40) (hob : ob ≤ om) : k_roi l yX1_outputLiteral wsX1_outputLiteral 1 21 D κ [.ref (q 0), .int p0] (wG κ q so le gr ne si ou bo n om ob) (fun r => r = k_cat 40 ou p0) := by
  refine Met.ofW (cc := cX1_outputLiteral) (maxL := 2) (ret := (some .int)) (by decide) rfl ?_
  intro p e s m args below meth c s₁ B hml hv
  obtain ⟨rfl, hK, hP⟩ := hv
  have hx := B.exec
  have hb := B.bytes
  have hr := B.returns
  have hts := atoms_spec (ws := wsX1_outputLiteral) B.pre
  have hown : s.vm.findClass RX1 = some m.cls := findClass_of_methodNamed B.named
  have hlocks := B.notSynchronized
  have hP : va_P D vwCl (wG κ q so le gr ne si ou bo n om ob) s.heap := hP
  have hl := lv_entry ([.ref (q 0), .int p0]) (n := 2) (Nat.le_of_ble_eq_true rfl)
  rw [lg_entry_eq]
  generalize (lg_sl ([.ref (q 0), .int p0]) ++ List.replicate (2 - (lg_sl ([.ref (q 0), .int p0])).length) Slot.unset).toArray = ls at hl ⊢
  have hl : lv_has ls 2 [(0, .ref (q 0)), (1, .int p0)] := hl
  refine lv_aload_n hx hb dX1_outputLiteral_0 rfl (lv_at hl 0 rfl) ?_
  refine va_get (D := D) (ci := 1) (v := .ref (q 6)) (C := RX1) (T := TX1) (N := 10) hx hb hts (iwX1_outputLiteral_1) hown hK.1 hP 0 rfl rfl 5 (by decide) (hts (.fieldLink RX1 32 "InverterGraphs$Graph" "outputs" "LInverterGraphs$Cells;") (by decide +kernel)) (fun _ h9 => h9) rfl dX1_outputLiteral_1 ?_
  refine lv_iload_n hx hb dX1_outputLiteral_4 rfl (lv_at hl 1 rfl) ?_
  refine k_cRO (D := D) (κ := κ) (qc := (RX0, TX0, 1)) (ci := 0) (q0 := 0) ⟨hx, hb, hml, hown, hts⟩ (c_X0_at l D κ (q 6) (q 13) 40 ou p0 (by omega)) (cwV 1 hts gX1_outputLiteral_X0_at rfl rfl rfl (by decide +kernel) ⟨Nat.le_of_ble_eq_true rfl, Nat.le_of_ble_eq_true rfl⟩) hK (hP.sub [6, 13] rfl) rfl rfl (As := [.int p0]) (rest := []) rfl rfl hl.1 (Nat.le_of_ble_eq_true rfl) dX1_outputLiteral_5 ⟨Nat.le_of_ble_eq_true rfl, Nat.le_of_ble_eq_true rfl⟩ (fun r hr => ?_)
  subst hr
  exact W.iret (v := k_cat 40 ou p0) hx hb hr (fun t ht _ => ⟨k_cat 40 ou p0, rfl, rfl, ht⟩) (fun _ h9 => nomatch h9) dX1_outputLiteral_8
theorem iwX1_isBoxed_1 : ∀ w ∈ wsX10, w ∈ wsX1_isBoxed := by decide +kernel
set_option maxHeartbeats 4000000 in
set_option maxRecDepth 100000 in
theorem c_X1_isBoxed (l : Launch) (D : va_G) (κ : Nat → ClassId) (q : Nat → Nat) (so le gr ne si ou bo : Nat → Int32) (n om ob : Nat) (p0 : Int32) (hn : n ≤ 400) (hom : om ≤ 40) (hob : ob ≤ om) : k_roi l yX1_isBoxed wsX1_isBoxed 1 21 D κ [.ref (q 0), .int p0] (wG κ q so le gr ne si ou bo n om ob) (fun r => r = if k_cat 40 bo p0 = 1 then 1 else 0) := by
  refine Met.ofW (cc := cX1_isBoxed) (maxL := 2) (ret := (some .boolean)) (by decide) rfl ?_
  intro p e s m args below meth c s₁ B hml hv
  obtain ⟨rfl, hK, hP⟩ := hv
  have hx := B.exec
  have hb := B.bytes
  have hr := B.returns
  have hts := atoms_spec (ws := wsX1_isBoxed) B.pre
  have hown : s.vm.findClass RX1 = some m.cls := findClass_of_methodNamed B.named
  have hlocks := B.notSynchronized
  have hP : va_P D vwCl (wG κ q so le gr ne si ou bo n om ob) s.heap := hP
  have hl := lv_entry ([.ref (q 0), .int p0]) (n := 2) (Nat.le_of_ble_eq_true rfl)
  rw [lg_entry_eq]
  generalize (lg_sl ([.ref (q 0), .int p0]) ++ List.replicate (2 - (lg_sl ([.ref (q 0), .int p0])).length) Slot.unset).toArray = ls at hl ⊢
  have hl : lv_has ls 2 [(0, .ref (q 0)), (1, .int p0)] := hl
  refine lv_aload_n hx hb dX1_isBoxed_0 rfl (lv_at hl 0 rfl) ?_
  refine va_get (D := D) (ci := 1) (v := .ref (q 7)) (C := RX1) (T := TX1) (N := 10) hx hb hts (iwX1_isBoxed_1) hown hK.1 hP 0 rfl rfl 6 (by decide) (hts (.fieldLink RX1 35 "InverterGraphs$Graph" "boxed" "LInverterGraphs$Cells;") (by decide +kernel)) (fun _ h9 => h9) rfl dX1_isBoxed_1 ?_
  refine lv_iload_n hx hb dX1_isBoxed_4 rfl (lv_at hl 1 rfl) ?_
  refine k_cRO (D := D) (κ := κ) (qc := (RX0, TX0, 1)) (ci := 0) (q0 := 0) ⟨hx, hb, hml, hown, hts⟩ (c_X0_at l D κ (q 7) (q 14) 40 bo p0 (by omega)) (cwV 1 hts gX1_isBoxed_X0_at rfl rfl rfl (by decide +kernel) ⟨Nat.le_of_ble_eq_true rfl, Nat.le_of_ble_eq_true rfl⟩) hK (hP.sub [7, 14] rfl) rfl rfl (As := [.int p0]) (rest := []) rfl rfl hl.1 (Nat.le_of_ble_eq_true rfl) dX1_isBoxed_5 ⟨Nat.le_of_ble_eq_true rfl, Nat.le_of_ble_eq_true rfl⟩ (fun r hr => ?_)
  subst hr
  refine lv_iconst (v := 1) hx hb dX1_isBoxed_8 (by decide) ?_
  refine lv_icmp_ne (tgt := 16) hx hb dX1_isBoxed_9 (by decide) (fun c_9 => ?_) (fun c_9 => ?_)
  · skip
    refine lv_iconst (v := 0) hx hb dX1_isBoxed_16 (by decide) ?_
    exact W.zret (ty := .boolean) (v := 0) hx hb hr rfl (fun t ht _ => ⟨0, rfl, (by rw [if_neg c_9]), ht⟩) (fun _ h9 => nomatch h9) dX1_isBoxed_17
  · skip
    refine lv_iconst (v := 1) hx hb dX1_isBoxed_12 (by decide) ?_
    refine lv_goto (tgt := 17) hx hb dX1_isBoxed_13 (by decide) ?_
    exact W.zret (ty := .boolean) (v := 1) hx hb hr rfl (fun t ht _ => ⟨1, rfl, (by rw [if_pos c_9]), ht⟩) (fun _ h9 => nomatch h9) dX1_isBoxed_17
theorem iwX1_isReplaced_1 : ∀ w ∈ wsX10, w ∈ wsX1_isReplaced := by decide +kernel
set_option maxHeartbeats 4000000 in
set_option maxRecDepth 100000 in
theorem c_X1_isReplaced (l : Launch) (D : va_G) (κ : Nat → ClassId) (q : Nat → Nat) (so le gr ne si ou bo : Nat → Int32) (n om ob : Nat) (p0 : Int32) (hn : n ≤ 400) (hom : om ≤ 40) (hob : ob ≤ om) : k_roi l yX1_isReplaced wsX1_isReplaced 1 21 D κ [.ref (q 0), .int p0] (wG κ q so le gr ne si ou bo n om ob) (fun r => r = k_isRep si p0) := by
  refine Met.ofW (cc := cX1_isReplaced) (maxL := 2) (ret := (some .boolean)) (by decide) rfl ?_
  intro p e s m args below meth c s₁ B hml hv
  obtain ⟨rfl, hK, hP⟩ := hv
  have hx := B.exec
  have hb := B.bytes
  have hr := B.returns
  have hts := atoms_spec (ws := wsX1_isReplaced) B.pre
  have hown : s.vm.findClass RX1 = some m.cls := findClass_of_methodNamed B.named
  have hlocks := B.notSynchronized
  have hP : va_P D vwCl (wG κ q so le gr ne si ou bo n om ob) s.heap := hP
  have hl := lv_entry ([.ref (q 0), .int p0]) (n := 2) (Nat.le_of_ble_eq_true rfl)
  rw [lg_entry_eq]
  generalize (lg_sl ([.ref (q 0), .int p0]) ++ List.replicate (2 - (lg_sl ([.ref (q 0), .int p0])).length) Slot.unset).toArray = ls at hl ⊢
  have hl : lv_has ls 2 [(0, .ref (q 0)), (1, .int p0)] := hl
  refine lv_aload_n hx hb dX1_isReplaced_0 rfl (lv_at hl 0 rfl) ?_
  refine va_get (D := D) (ci := 1) (v := .ref (q 5)) (C := RX1) (T := TX1) (N := 10) hx hb hts (iwX1_isReplaced_1) hown hK.1 hP 0 rfl rfl 4 (by decide) (hts (.fieldLink RX1 29 "InverterGraphs$Graph" "standIns" "LInverterGraphs$Cells;") (by decide +kernel)) (fun _ h9 => h9) rfl dX1_isReplaced_1 ?_
  refine lv_iload_n hx hb dX1_isReplaced_4 rfl (lv_at hl 1 rfl) ?_
  refine k_cNS ⟨hx, hb, hml, hown, hts⟩ (c_X6_nodeOf l p0) ⟨va_cnB 1 hts ggX1_isReplaced_X6_nodeOf rfl rfl rfl hK.2.1 (hts (.initialized RX6) (by decide +kernel)) (by decide +kernel) ⟨Nat.le_of_ble_eq_true rfl, Nat.le_of_ble_eq_true rfl⟩, (hts (.static yX6_nodeOf) (by decide +kernel)), trivial⟩ (As := [.int p0]) (rest := [.ref (q 5)]) rfl rfl hl.1 (Nat.le_of_ble_eq_true rfl) dX1_isReplaced_5 ⟨Nat.le_of_ble_eq_true rfl, Nat.le_of_ble_eq_true rfl⟩ (fun r hr => ?_)
  subst hr
  refine k_cRO (D := D) (κ := κ) (qc := (RX0, TX0, 1)) (ci := 0) (q0 := 0) ⟨hx, hb, hml, hown, hts⟩ (c_X0_at l D κ (q 5) (q 12) 400 si (k_nodeOf p0) (by omega)) (cwV 1 hts gX1_isReplaced_X0_at rfl rfl rfl (by decide +kernel) ⟨Nat.le_of_ble_eq_true rfl, Nat.le_of_ble_eq_true rfl⟩) hK (hP.sub [5, 12] rfl) rfl rfl (As := [.int (k_nodeOf p0)]) (rest := []) rfl rfl hl.1 (Nat.le_of_ble_eq_true rfl) dX1_isReplaced_8 ⟨Nat.le_of_ble_eq_true rfl, Nat.le_of_ble_eq_true rfl⟩ (fun r hr => ?_)
  subst hr
  refine lv_iconst (v := (-1)) hx hb dX1_isReplaced_11 (by decide) ?_
  refine lv_icmp_eq (tgt := 19) hx hb dX1_isReplaced_12 (by decide) (fun c_12 => ?_) (fun c_12 => ?_)
  · skip
    refine lv_iconst (v := 0) hx hb dX1_isReplaced_19 (by decide) ?_
    exact W.zret (ty := .boolean) (v := 0) hx hb hr rfl (fun t ht _ => ⟨0, rfl, (by unfold k_isRep; rw [if_pos c_12]), ht⟩) (fun _ h9 => nomatch h9) dX1_isReplaced_20
  · skip
    refine lv_iconst (v := 1) hx hb dX1_isReplaced_15 (by decide) ?_
    refine lv_goto (tgt := 20) hx hb dX1_isReplaced_16 (by decide) ?_
    exact W.zret (ty := .boolean) (v := 1) hx hb hr rfl (fun t ht _ => ⟨1, rfl, (by unfold k_isRep; rw [if_neg c_12]), ht⟩) (fun _ h9 => nomatch h9) dX1_isReplaced_20
theorem iwX1_outputsToBox_1 : ∀ w ∈ wsX10, w ∈ wsX1_outputsToBox := by decide +kernel
set_option maxHeartbeats 4000000 in
set_option maxRecDepth 100000 in
theorem c_X1_outputsToBox (l : Launch) (D : va_G) (κ : Nat → ClassId) (q : Nat → Nat) (so le gr ne si ou bo : Nat → Int32) (n om ob : Nat)  (hn : n ≤ 400) (hom : om ≤ 40) (hob : ob ≤ om) : k_roi l yX1_outputsToBox wsX1_outputsToBox 0 0 D κ [.ref (q 0)] (wG κ q so le gr ne si ou bo n om ob) (fun r => r = nI (om - ob)) := by
  refine Met.ofW (cc := cX1_outputsToBox) (maxL := 1) (ret := (some .int)) (by decide) rfl ?_
  intro p e s m args below meth c s₁ B hml hv
  obtain ⟨rfl, hK, hP⟩ := hv
  have hx := B.exec
  have hb := B.bytes
  have hr := B.returns
  have hts := atoms_spec (ws := wsX1_outputsToBox) B.pre
  have hown : s.vm.findClass RX1 = some m.cls := findClass_of_methodNamed B.named
  have hlocks := B.notSynchronized
  have hP : va_P D vwCl (wG κ q so le gr ne si ou bo n om ob) s.heap := hP
  have hl := lv_entry ([.ref (q 0)]) (n := 1) (Nat.le_of_ble_eq_true rfl)
  rw [lg_entry_eq]
  generalize (lg_sl ([.ref (q 0)]) ++ List.replicate (1 - (lg_sl ([.ref (q 0)])).length) Slot.unset).toArray = ls at hl ⊢
  have hl : lv_has ls 1 [(0, .ref (q 0))] := hl
  refine lv_aload_n hx hb dX1_outputsToBox_0 rfl (lv_at hl 0 rfl) ?_
  refine va_get (D := D) (ci := 1) (v := .int (nI om)) (C := RX1) (T := TX1) (N := 10) hx hb hts (iwX1_outputsToBox_1) hown hK.1 hP 0 rfl rfl 8 (by decide) (hts (.fieldLink RX1 50 "InverterGraphs$Graph" "outputsMade" "I") (by decide +kernel)) (fun _ h9 => h9) rfl dX1_outputsToBox_1 ?_
  refine lv_aload_n hx hb dX1_outputsToBox_4 rfl (lv_at hl 0 rfl) ?_
  refine va_get (D := D) (ci := 1) (v := .int (nI ob)) (C := RX1) (T := TX1) (N := 10) hx hb hts (iwX1_outputsToBox_1) hown hK.1 hP 0 rfl rfl 9 (by decide) (hts (.fieldLink RX1 53 "InverterGraphs$Graph" "outputsUpToBoxed" "I") (by decide +kernel)) (fun _ h9 => h9) rfl dX1_outputsToBox_5 ?_
  refine lv_isub hx hb dX1_outputsToBox_8 ?_
  refine lv_topi (nm_r (pk_sub (a := om) (b := ob) (by omega)) ?_)
  exact W.iret (v := nI (om - ob)) hx hb hr (fun t ht _ => ⟨nI (om - ob), rfl, rfl, ht⟩) (fun _ h9 => nomatch h9) dX1_outputsToBox_9
theorem iwX1_howMany_1 : ∀ w ∈ wsX10, w ∈ wsX1_howMany := by decide +kernel
set_option maxHeartbeats 4000000 in
set_option maxRecDepth 100000 in
theorem c_X1_howMany (l : Launch) (D : va_G) (κ : Nat → ClassId) (q : Nat → Nat) (so le gr ne si ou bo : Nat → Int32) (n om ob : Nat) (p0 : Int32) (hn : n ≤ 400) (hom : om ≤ 40) (hob : ob ≤ om) : k_roi l yX1_howMany wsX1_howMany 1 21 D κ [.ref (q 0), .int p0] (wG κ q so le gr ne si ou bo n om ob) (fun r => r = k_cnt so p0 n) := by
  refine Met.ofW (cc := cX1_howMany) (maxL := 4) (ret := (some .int)) (by decide) rfl ?_
  intro p e s m args below meth c s₁ B hml hv
  obtain ⟨rfl, hK, hP⟩ := hv
  have hx := B.exec
  have hb := B.bytes
  have hr := B.returns
  have hts := atoms_spec (ws := wsX1_howMany) B.pre
  have hown : s.vm.findClass RX1 = some m.cls := findClass_of_methodNamed B.named
  have hlocks := B.notSynchronized
  have hP : va_P D vwCl (wG κ q so le gr ne si ou bo n om ob) s.heap := hP
  have hl := lv_entry ([.ref (q 0), .int p0]) (n := 4) (Nat.le_of_ble_eq_true rfl)
  rw [lg_entry_eq]
  generalize (lg_sl ([.ref (q 0), .int p0]) ++ List.replicate (4 - (lg_sl ([.ref (q 0), .int p0])).length) Slot.unset).toArray = ls at hl ⊢
  have hl : lv_has ls 4 [(0, .ref (q 0)), (1, .int p0)] := hl
  refine lv_iconst (v := 0) hx hb dX1_howMany_0 (by decide) ?_
  refine lv_istore_n (lv' := [(2, .int 0), (0, .ref (q 0)), (1, .int p0)]) hx hb dX1_howMany_1 rfl hl (by decide) rfl (fun ls hl => ?_)
  refine lv_iconst (v := 0) hx hb dX1_howMany_2 (by decide) ?_
  refine lv_istore_n (lv' := [(3, .int 0), (2, .int 0), (0, .ref (q 0)), (1, .int p0)]) hx hb dX1_howMany_3 rfl hl (by decide) rfl (fun ls hl => ?_)
  have lp : ∀ (k i : Nat) (ls : Array Slot), (i + k = n) → lv_has ls 4 [(0, .ref (q 0)), (1, .int p0), (2, .int (k_cnt so p0 i)), (3, .int (nI i))] → W p l e (headSpec wsX1_howMany ({ frames := 1, cells := 0, slots := 0, locals := 21 })).room s m ([.ref (q 0), .int p0] : List Value).toArray below meth c s.heap [] 0 0 (MQ below (vp_Si (fun r => r = k_cnt so p0 n)) ([.ref (q 0), .int p0] : List Value).toArray s 0 0 (fun _ => False)) (F0 m 4 ls []) := by
    intro k
    induction k with
    | zero =>
      intro i ls hi hl
      refine lv_iload_n hx hb dX1_howMany_4 rfl (lv_at hl 3 rfl) ?_
      refine lv_aload_n hx hb dX1_howMany_5 rfl (lv_at hl 0 rfl) ?_
      refine va_get (D := D) (ci := 1) (v := .int (nI n)) (C := RX1) (T := TX1) (N := 10) hx hb hts (iwX1_howMany_1) hown hK.1 hP 0 rfl rfl 7 (by decide) (hts (.fieldLink RX1 46 "InverterGraphs$Graph" "nodes" "I") (by decide +kernel)) (fun _ h9 => h9) rfl dX1_howMany_6 ?_
      refine lv_icmp_ge (tgt := 38) hx hb dX1_howMany_9 (by decide) (fun c_9 => ?_) (fun c_9 => ?_)
      · skip
        have c_9 : n ≤ i := (nI_leI (a := n) (b := i) (by omega) (by omega)).mp c_9
        have e9 : n = i := by omega
        subst e9
        refine lv_iload_n hx hb dX1_howMany_38 rfl (lv_at hl 2 rfl) ?_
        exact W.iret (v := k_cnt so p0 n) hx hb hr (fun t ht _ => ⟨k_cnt so p0 n, rfl, rfl, ht⟩) (fun _ h9 => nomatch h9) dX1_howMany_39
      · skip
        have c_9 : ¬ (n ≤ i) := fun h9 => c_9 ((nI_leI (a := n) (b := i) (by omega) (by omega)).mpr h9)
        exfalso; omega
    | succ k ih =>
      intro i ls hi hl
      refine lv_iload_n hx hb dX1_howMany_4 rfl (lv_at hl 3 rfl) ?_
      refine lv_aload_n hx hb dX1_howMany_5 rfl (lv_at hl 0 rfl) ?_
      refine va_get (D := D) (ci := 1) (v := .int (nI n)) (C := RX1) (T := TX1) (N := 10) hx hb hts (iwX1_howMany_1) hown hK.1 hP 0 rfl rfl 7 (by decide) (hts (.fieldLink RX1 46 "InverterGraphs$Graph" "nodes" "I") (by decide +kernel)) (fun _ h9 => h9) rfl dX1_howMany_6 ?_
      refine lv_icmp_ge (tgt := 38) hx hb dX1_howMany_9 (by decide) (fun c_9 => ?_) (fun c_9 => ?_)
      · skip
        have c_9 : n ≤ i := (nI_leI (a := n) (b := i) (by omega) (by omega)).mp c_9
        exfalso; omega
      · skip
        have c_9 : ¬ (n ≤ i) := fun h9 => c_9 ((nI_leI (a := n) (b := i) (by omega) (by omega)).mpr h9)
        refine lv_iload_n hx hb dX1_howMany_12 rfl (lv_at hl 2 rfl) ?_
        refine lv_aload_n hx hb dX1_howMany_13 rfl (lv_at hl 0 rfl) ?_
        refine va_get (D := D) (ci := 1) (v := .ref (q 1)) (C := RX1) (T := TX1) (N := 10) hx hb hts (iwX1_howMany_1) hown hK.1 hP 0 rfl rfl 0 (by decide) (hts (.fieldLink RX1 14 "InverterGraphs$Graph" "sorts" "LInverterGraphs$Cells;") (by decide +kernel)) (fun _ h9 => h9) rfl dX1_howMany_14 ?_
        refine lv_iload_n hx hb dX1_howMany_17 rfl (lv_at hl 3 rfl) ?_
        refine k_cRO (D := D) (κ := κ) (qc := (RX0, TX0, 1)) (ci := 0) (q0 := 0) ⟨hx, hb, hml, hown, hts⟩ (c_X0_at l D κ (q 1) (q 8) 400 so (nI i) (by omega)) (cwV 1 hts gX1_howMany_X0_at rfl rfl rfl (by decide +kernel) ⟨Nat.le_of_ble_eq_true rfl, Nat.le_of_ble_eq_true rfl⟩) hK (hP.sub [1, 8] rfl) rfl rfl (As := [.int (nI i)]) (rest := [.int (k_cnt so p0 i)]) rfl rfl hl.1 (Nat.le_of_ble_eq_true rfl) dX1_howMany_18 ⟨Nat.le_of_ble_eq_true rfl, Nat.le_of_ble_eq_true rfl⟩ (fun r hr => ?_)
        subst hr
        refine lv_iload_n hx hb dX1_howMany_21 rfl (lv_at hl 1 rfl) ?_
        have J_22 : ∀ z : Int32, z = (if k_cat 400 so (nI i) = p0 then 1 else 0) → W p l e (headSpec wsX1_howMany ({ frames := 1, cells := 0, slots := 0, locals := 21 })).room s m ([.ref (q 0), .int p0] : List Value).toArray below meth c s.heap [] 0 0 (MQ below (vp_Si (fun r => r = k_cnt so p0 n)) ([.ref (q 0), .int p0] : List Value).toArray s 0 0 (fun _ => False)) (F0 m 30 ls [.int z, .int (k_cnt so p0 i)]) := by
          intro z ez
          subst ez
          refine lv_iadd hx hb dX1_howMany_30 ?_
          refine lv_istore_n (lv' := [(2, .int ((k_cnt so p0 i) + (if k_cat 400 so (nI i) = p0 then 1 else 0))), (0, .ref (q 0)), (1, .int p0), (3, .int (nI i))]) hx hb dX1_howMany_31 rfl hl (by decide) rfl (fun ls hl => ?_)
          refine lv_iinc (v := nI (i + 1)) (lv' := [(3, .int (nI (i + 1))), (2, .int ((k_cnt so p0 i) + (if k_cat 400 so (nI i) = p0 then 1 else 0))), (0, .ref (q 0)), (1, .int p0)]) hx hb dX1_howMany_32 hl (k := 3) rfl (nI_1 _) (by decide) rfl (fun ls hl => ?_)
          refine lv_goto (tgt := 4) hx hb dX1_howMany_35 (by decide) ?_
          exact ih (i + 1) ls (by omega) (lv_sub hl [2, 3, 1, 0] rfl)
        refine lv_icmp_ne (tgt := 29) hx hb dX1_howMany_22 (by decide) (fun c_22 => ?_) (fun c_22 => ?_)
        · skip
          refine lv_iconst (v := 0) hx hb dX1_howMany_29 (by decide) ?_
          exact J_22 _ (by rw [if_neg c_22])
        · skip
          refine lv_iconst (v := 1) hx hb dX1_howMany_25 (by decide) ?_
          refine lv_goto (tgt := 30) hx hb dX1_howMany_26 (by decide) ?_
          exact J_22 _ (by rw [if_pos c_22])
  exact lp n 0 ls (by omega) (lv_sub hl [2, 3, 1, 0] rfl)
theorem iwX1_usesOf_1 : ∀ w ∈ wsX10, w ∈ wsX1_usesOf := by decide +kernel
set_option maxHeartbeats 4000000 in
set_option maxRecDepth 100000 in
theorem c_X1_usesOf (l : Launch) (D : va_G) (κ : Nat → ClassId) (q : Nat → Nat) (so le gr ne si ou bo : Nat → Int32) (n om ob : Nat) (p0 : Int32) (hn : n ≤ 400) (hom : om ≤ 40) (hob : ob ≤ om) : k_roi l yX1_usesOf wsX1_usesOf 1 21 D κ [.ref (q 0), .int p0] (wG κ q so le gr ne si ou bo n om ob) (fun r => r = k_useO ou p0 (k_use3 le gr ne p0 n) om) := by
  refine Met.ofW (cc := cX1_usesOf) (maxL := 4) (ret := (some .int)) (by decide) rfl ?_
  intro p e s m args below meth c s₁ B hml hv
  obtain ⟨rfl, hK, hP⟩ := hv
  have hx := B.exec
  have hb := B.bytes
  have hr := B.returns
  have hts := atoms_spec (ws := wsX1_usesOf) B.pre
  have hown : s.vm.findClass RX1 = some m.cls := findClass_of_methodNamed B.named
  have hlocks := B.notSynchronized
  have hP : va_P D vwCl (wG κ q so le gr ne si ou bo n om ob) s.heap := hP
  have hl := lv_entry ([.ref (q 0), .int p0]) (n := 4) (Nat.le_of_ble_eq_true rfl)
  rw [lg_entry_eq]
  generalize (lg_sl ([.ref (q 0), .int p0]) ++ List.replicate (4 - (lg_sl ([.ref (q 0), .int p0])).length) Slot.unset).toArray = ls at hl ⊢
  have hl : lv_has ls 4 [(0, .ref (q 0)), (1, .int p0)] := hl
  refine lv_iconst (v := 0) hx hb dX1_usesOf_0 (by decide) ?_
  refine lv_istore_n (lv' := [(2, .int 0), (0, .ref (q 0)), (1, .int p0)]) hx hb dX1_usesOf_1 rfl hl (by decide) rfl (fun ls hl => ?_)
  refine lv_iconst (v := 0) hx hb dX1_usesOf_2 (by decide) ?_
  refine lv_istore_n (lv' := [(3, .int 0), (2, .int 0), (0, .ref (q 0)), (1, .int p0)]) hx hb dX1_usesOf_3 rfl hl (by decide) rfl (fun ls hl => ?_)
  have lq : ∀ (k i : Nat) (ls : Array Slot), (i + k = om) → lv_has ls 4 [(0, .ref (q 0)), (1, .int p0), (2, .int (k_useO ou p0 (k_use3 le gr ne p0 n) i)), (3, .int (nI i))] → W p l e (headSpec wsX1_usesOf ({ frames := 1, cells := 0, slots := 0, locals := 21 })).room s m ([.ref (q 0), .int p0] : List Value).toArray below meth c s.heap [] 0 0 (MQ below (vp_Si (fun r => r = k_useO ou p0 (k_use3 le gr ne p0 n) om)) ([.ref (q 0), .int p0] : List Value).toArray s 0 0 (fun _ => False)) (F0 m 89 ls []) := by
    intro k
    induction k with
    | zero =>
      intro i ls hi hl
      refine lv_iload_n hx hb dX1_usesOf_89 rfl (lv_at hl 3 rfl) ?_
      refine lv_aload_n hx hb dX1_usesOf_90 rfl (lv_at hl 0 rfl) ?_
      refine va_get (D := D) (ci := 1) (v := .int (nI om)) (C := RX1) (T := TX1) (N := 10) hx hb hts (iwX1_usesOf_1) hown hK.1 hP 0 rfl rfl 8 (by decide) (hts (.fieldLink RX1 50 "InverterGraphs$Graph" "outputsMade" "I") (by decide +kernel)) (fun _ h9 => h9) rfl dX1_usesOf_91 ?_
      refine lv_icmp_ge (tgt := 126) hx hb dX1_usesOf_94 (by decide) (fun c_94 => ?_) (fun c_94 => ?_)
      · skip
        have c_94 : om ≤ i := (nI_leI (a := om) (b := i) (by omega) (by omega)).mp c_94
        have e9 : om = i := by omega
        subst e9
        refine lv_iload_n hx hb dX1_usesOf_126 rfl (lv_at hl 2 rfl) ?_
        exact W.iret (v := k_useO ou p0 (k_use3 le gr ne p0 n) om) hx hb hr (fun t ht _ => ⟨k_useO ou p0 (k_use3 le gr ne p0 n) om, rfl, rfl, ht⟩) (fun _ h9 => nomatch h9) dX1_usesOf_127
      · skip
        have c_94 : ¬ (om ≤ i) := fun h9 => c_94 ((nI_leI (a := om) (b := i) (by omega) (by omega)).mpr h9)
        exfalso; omega
    | succ k ih =>
      intro i ls hi hl
      refine lv_iload_n hx hb dX1_usesOf_89 rfl (lv_at hl 3 rfl) ?_
      refine lv_aload_n hx hb dX1_usesOf_90 rfl (lv_at hl 0 rfl) ?_
      refine va_get (D := D) (ci := 1) (v := .int (nI om)) (C := RX1) (T := TX1) (N := 10) hx hb hts (iwX1_usesOf_1) hown hK.1 hP 0 rfl rfl 8 (by decide) (hts (.fieldLink RX1 50 "InverterGraphs$Graph" "outputsMade" "I") (by decide +kernel)) (fun _ h9 => h9) rfl dX1_usesOf_91 ?_
      refine lv_icmp_ge (tgt := 126) hx hb dX1_usesOf_94 (by decide) (fun c_94 => ?_) (fun c_94 => ?_)
      · skip
        have c_94 : om ≤ i := (nI_leI (a := om) (b := i) (by omega) (by omega)).mp c_94
        exfalso; omega
      · skip
        have c_94 : ¬ (om ≤ i) := fun h9 => c_94 ((nI_leI (a := om) (b := i) (by omega) (by omega)).mpr h9)
        refine lv_iload_n hx hb dX1_usesOf_97 rfl (lv_at hl 2 rfl) ?_
        refine lv_aload_n hx hb dX1_usesOf_98 rfl (lv_at hl 0 rfl) ?_
        refine va_get (D := D) (ci := 1) (v := .ref (q 6)) (C := RX1) (T := TX1) (N := 10) hx hb hts (iwX1_usesOf_1) hown hK.1 hP 0 rfl rfl 5 (by decide) (hts (.fieldLink RX1 32 "InverterGraphs$Graph" "outputs" "LInverterGraphs$Cells;") (by decide +kernel)) (fun _ h9 => h9) rfl dX1_usesOf_99 ?_
        refine lv_iload_n hx hb dX1_usesOf_102 rfl (lv_at hl 3 rfl) ?_
        refine k_cRO (D := D) (κ := κ) (qc := (RX0, TX0, 1)) (ci := 0) (q0 := 0) ⟨hx, hb, hml, hown, hts⟩ (c_X0_at l D κ (q 6) (q 13) 40 ou (nI i) (by omega)) (cwV 1 hts gX1_usesOf_X0_at rfl rfl rfl (by decide +kernel) ⟨Nat.le_of_ble_eq_true rfl, Nat.le_of_ble_eq_true rfl⟩) hK (hP.sub [6, 13] rfl) rfl rfl (As := [.int (nI i)]) (rest := [.int (k_useO ou p0 (k_use3 le gr ne p0 n) i)]) rfl rfl hl.1 (Nat.le_of_ble_eq_true rfl) dX1_usesOf_103 ⟨Nat.le_of_ble_eq_true rfl, Nat.le_of_ble_eq_true rfl⟩ (fun r hr => ?_)
        subst hr
        refine k_cNS ⟨hx, hb, hml, hown, hts⟩ (c_X6_nodeOf l (k_cat 40 ou (nI i))) ⟨va_cnB 1 hts ggX1_usesOf_X6_nodeOf rfl rfl rfl hK.2.1 (hts (.initialized RX6) (by decide +kernel)) (by decide +kernel) ⟨Nat.le_of_ble_eq_true rfl, Nat.le_of_ble_eq_true rfl⟩, (hts (.static yX6_nodeOf) (by decide +kernel)), trivial⟩ (As := [.int (k_cat 40 ou (nI i))]) (rest := [.int (k_useO ou p0 (k_use3 le gr ne p0 n) i)]) rfl rfl hl.1 (Nat.le_of_ble_eq_true rfl) dX1_usesOf_106 ⟨Nat.le_of_ble_eq_true rfl, Nat.le_of_ble_eq_true rfl⟩ (fun r hr => ?_)
        subst hr
        refine lv_iload_n hx hb dX1_usesOf_109 rfl (lv_at hl 1 rfl) ?_
        have J_110 : ∀ z : Int32, z = (if k_nodeOf (k_cat 40 ou (nI i)) = p0 then 1 else 0) → W p l e (headSpec wsX1_usesOf ({ frames := 1, cells := 0, slots := 0, locals := 21 })).room s m ([.ref (q 0), .int p0] : List Value).toArray below meth c s.heap [] 0 0 (MQ below (vp_Si (fun r => r = k_useO ou p0 (k_use3 le gr ne p0 n) om)) ([.ref (q 0), .int p0] : List Value).toArray s 0 0 (fun _ => False)) (F0 m 118 ls [.int z, .int (k_useO ou p0 (k_use3 le gr ne p0 n) i)]) := by
          intro z ez
          subst ez
          refine lv_iadd hx hb dX1_usesOf_118 ?_
          refine lv_istore_n (lv' := [(2, .int ((k_useO ou p0 (k_use3 le gr ne p0 n) i) + (if k_nodeOf (k_cat 40 ou (nI i)) = p0 then 1 else 0))), (0, .ref (q 0)), (1, .int p0), (3, .int (nI i))]) hx hb dX1_usesOf_119 rfl hl (by decide) rfl (fun ls hl => ?_)
          refine lv_iinc (v := nI (i + 1)) (lv' := [(3, .int (nI (i + 1))), (2, .int ((k_useO ou p0 (k_use3 le gr ne p0 n) i) + (if k_nodeOf (k_cat 40 ou (nI i)) = p0 then 1 else 0))), (0, .ref (q 0)), (1, .int p0)]) hx hb dX1_usesOf_120 hl (k := 3) rfl (nI_1 _) (by decide) rfl (fun ls hl => ?_)
          refine lv_goto (tgt := 89) hx hb dX1_usesOf_123 (by decide) ?_
          exact ih (i + 1) ls (by omega) (lv_sub hl [2, 3, 1, 0] rfl)
        refine lv_icmp_ne (tgt := 117) hx hb dX1_usesOf_110 (by decide) (fun c_110 => ?_) (fun c_110 => ?_)
        · skip
          refine lv_iconst (v := 0) hx hb dX1_usesOf_117 (by decide) ?_
          exact J_110 _ (by rw [if_neg c_110])
        · skip
          refine lv_iconst (v := 1) hx hb dX1_usesOf_113 (by decide) ?_
          refine lv_goto (tgt := 118) hx hb dX1_usesOf_114 (by decide) ?_
          exact J_110 _ (by rw [if_pos c_110])
  have lp : ∀ (k i : Nat) (ls : Array Slot), (i + k = n) → lv_has ls 4 [(0, .ref (q 0)), (1, .int p0), (2, .int (k_use3 le gr ne p0 i)), (3, .int (nI i))] → W p l e (headSpec wsX1_usesOf ({ frames := 1, cells := 0, slots := 0, locals := 21 })).room s m ([.ref (q 0), .int p0] : List Value).toArray below meth c s.heap [] 0 0 (MQ below (vp_Si (fun r => r = k_useO ou p0 (k_use3 le gr ne p0 n) om)) ([.ref (q 0), .int p0] : List Value).toArray s 0 0 (fun _ => False)) (F0 m 4 ls []) := by
    intro k
    induction k with
    | zero =>
      intro i ls hi hl
      refine lv_iload_n hx hb dX1_usesOf_4 rfl (lv_at hl 3 rfl) ?_
      refine lv_aload_n hx hb dX1_usesOf_5 rfl (lv_at hl 0 rfl) ?_
      refine va_get (D := D) (ci := 1) (v := .int (nI n)) (C := RX1) (T := TX1) (N := 10) hx hb hts (iwX1_usesOf_1) hown hK.1 hP 0 rfl rfl 7 (by decide) (hts (.fieldLink RX1 46 "InverterGraphs$Graph" "nodes" "I") (by decide +kernel)) (fun _ h9 => h9) rfl dX1_usesOf_6 ?_
      refine lv_icmp_ge (tgt := 87) hx hb dX1_usesOf_9 (by decide) (fun c_9 => ?_) (fun c_9 => ?_)
      · skip
        have c_9 : n ≤ i := (nI_leI (a := n) (b := i) (by omega) (by omega)).mp c_9
        have e9 : n = i := by omega
        subst e9
        refine lv_iconst (v := 0) hx hb dX1_usesOf_87 (by decide) ?_
        refine lv_istore_n (lv' := [(3, .int 0), (0, .ref (q 0)), (1, .int p0), (2, .int (k_use3 le gr ne p0 n))]) hx hb dX1_usesOf_88 rfl hl (by decide) rfl (fun ls hl => ?_)
        exact lq om 0 ls (by omega) (lv_sub hl [1, 2, 3, 0] rfl)
      · skip
        have c_9 : ¬ (n ≤ i) := fun h9 => c_9 ((nI_leI (a := n) (b := i) (by omega) (by omega)).mpr h9)
        exfalso; omega
    | succ k ih =>
      intro i ls hi hl
      refine lv_iload_n hx hb dX1_usesOf_4 rfl (lv_at hl 3 rfl) ?_
      refine lv_aload_n hx hb dX1_usesOf_5 rfl (lv_at hl 0 rfl) ?_
      refine va_get (D := D) (ci := 1) (v := .int (nI n)) (C := RX1) (T := TX1) (N := 10) hx hb hts (iwX1_usesOf_1) hown hK.1 hP 0 rfl rfl 7 (by decide) (hts (.fieldLink RX1 46 "InverterGraphs$Graph" "nodes" "I") (by decide +kernel)) (fun _ h9 => h9) rfl dX1_usesOf_6 ?_
      refine lv_icmp_ge (tgt := 87) hx hb dX1_usesOf_9 (by decide) (fun c_9 => ?_) (fun c_9 => ?_)
      · skip
        have c_9 : n ≤ i := (nI_leI (a := n) (b := i) (by omega) (by omega)).mp c_9
        exfalso; omega
      · skip
        have c_9 : ¬ (n ≤ i) := fun h9 => c_9 ((nI_leI (a := n) (b := i) (by omega) (by omega)).mpr h9)
        refine lv_iload_n hx hb dX1_usesOf_12 rfl (lv_at hl 2 rfl) ?_
        refine lv_aload_n hx hb dX1_usesOf_13 rfl (lv_at hl 0 rfl) ?_
        refine va_get (D := D) (ci := 1) (v := .ref (q 2)) (C := RX1) (T := TX1) (N := 10) hx hb hts (iwX1_usesOf_1) hown hK.1 hP 0 rfl rfl 1 (by decide) (hts (.fieldLink RX1 20 "InverterGraphs$Graph" "lessers" "LInverterGraphs$Cells;") (by decide +kernel)) (fun _ h9 => h9) rfl dX1_usesOf_14 ?_
        refine lv_iload_n hx hb dX1_usesOf_17 rfl (lv_at hl 3 rfl) ?_
        refine k_cRO (D := D) (κ := κ) (qc := (RX0, TX0, 1)) (ci := 0) (q0 := 0) ⟨hx, hb, hml, hown, hts⟩ (c_X0_at l D κ (q 2) (q 9) 400 le (nI i) (by omega)) (cwV 1 hts gX1_usesOf_X0_at rfl rfl rfl (by decide +kernel) ⟨Nat.le_of_ble_eq_true rfl, Nat.le_of_ble_eq_true rfl⟩) hK (hP.sub [2, 9] rfl) rfl rfl (As := [.int (nI i)]) (rest := [.int (k_use3 le gr ne p0 i)]) rfl rfl hl.1 (Nat.le_of_ble_eq_true rfl) dX1_usesOf_18 ⟨Nat.le_of_ble_eq_true rfl, Nat.le_of_ble_eq_true rfl⟩ (fun r hr => ?_)
        subst hr
        refine k_cNS ⟨hx, hb, hml, hown, hts⟩ (c_X6_nodeOf l (k_cat 400 le (nI i))) ⟨va_cnB 1 hts ggX1_usesOf_X6_nodeOf rfl rfl rfl hK.2.1 (hts (.initialized RX6) (by decide +kernel)) (by decide +kernel) ⟨Nat.le_of_ble_eq_true rfl, Nat.le_of_ble_eq_true rfl⟩, (hts (.static yX6_nodeOf) (by decide +kernel)), trivial⟩ (As := [.int (k_cat 400 le (nI i))]) (rest := [.int (k_use3 le gr ne p0 i)]) rfl rfl hl.1 (Nat.le_of_ble_eq_true rfl) dX1_usesOf_21 ⟨Nat.le_of_ble_eq_true rfl, Nat.le_of_ble_eq_true rfl⟩ (fun r hr => ?_)
        subst hr
        refine lv_iload_n hx hb dX1_usesOf_24 rfl (lv_at hl 1 rfl) ?_
        have J_25 : ∀ z : Int32, z = (if k_nodeOf (k_cat 400 le (nI i)) = p0 then 1 else 0) → W p l e (headSpec wsX1_usesOf ({ frames := 1, cells := 0, slots := 0, locals := 21 })).room s m ([.ref (q 0), .int p0] : List Value).toArray below meth c s.heap [] 0 0 (MQ below (vp_Si (fun r => r = k_useO ou p0 (k_use3 le gr ne p0 n) om)) ([.ref (q 0), .int p0] : List Value).toArray s 0 0 (fun _ => False)) (F0 m 33 ls [.int z, .int (k_use3 le gr ne p0 i)]) := by
          intro z ez
          subst ez
          refine lv_iadd hx hb dX1_usesOf_33 ?_
          refine lv_istore_n (lv' := [(2, .int ((k_use3 le gr ne p0 i) + (if k_nodeOf (k_cat 400 le (nI i)) = p0 then 1 else 0))), (0, .ref (q 0)), (1, .int p0), (3, .int (nI i))]) hx hb dX1_usesOf_34 rfl hl (by decide) rfl (fun ls hl => ?_)
          refine lv_iload_n hx hb dX1_usesOf_35 rfl (lv_at hl 0 rfl) ?_
          refine lv_aload_n hx hb dX1_usesOf_36 rfl (lv_at hl 1 rfl) ?_
          refine va_get (D := D) (ci := 1) (v := .ref (q 3)) (C := RX1) (T := TX1) (N := 10) hx hb hts (iwX1_usesOf_1) hown hK.1 hP 0 rfl rfl 2 (by decide) (hts (.fieldLink RX1 23 "InverterGraphs$Graph" "greaters" "LInverterGraphs$Cells;") (by decide +kernel)) (fun _ h9 => h9) rfl dX1_usesOf_37 ?_
          refine lv_iload_n hx hb dX1_usesOf_40 rfl (lv_at hl 3 rfl) ?_
          refine k_cRO (D := D) (κ := κ) (qc := (RX0, TX0, 1)) (ci := 0) (q0 := 0) ⟨hx, hb, hml, hown, hts⟩ (c_X0_at l D κ (q 3) (q 10) 400 gr (nI i) (by omega)) (cwV 1 hts gX1_usesOf_X0_at rfl rfl rfl (by decide +kernel) ⟨Nat.le_of_ble_eq_true rfl, Nat.le_of_ble_eq_true rfl⟩) hK (hP.sub [3, 10] rfl) rfl rfl (As := [.int (nI i)]) (rest := [.int ((k_use3 le gr ne p0 i) + (if k_nodeOf (k_cat 400 le (nI i)) = p0 then 1 else 0))]) rfl rfl hl.1 (Nat.le_of_ble_eq_true rfl) dX1_usesOf_41 ⟨Nat.le_of_ble_eq_true rfl, Nat.le_of_ble_eq_true rfl⟩ (fun r hr => ?_)
          subst hr
          refine k_cNS ⟨hx, hb, hml, hown, hts⟩ (c_X6_nodeOf l (k_cat 400 gr (nI i))) ⟨va_cnB 1 hts ggX1_usesOf_X6_nodeOf rfl rfl rfl hK.2.1 (hts (.initialized RX6) (by decide +kernel)) (by decide +kernel) ⟨Nat.le_of_ble_eq_true rfl, Nat.le_of_ble_eq_true rfl⟩, (hts (.static yX6_nodeOf) (by decide +kernel)), trivial⟩ (As := [.int (k_cat 400 gr (nI i))]) (rest := [.int ((k_use3 le gr ne p0 i) + (if k_nodeOf (k_cat 400 le (nI i)) = p0 then 1 else 0))]) rfl rfl hl.1 (Nat.le_of_ble_eq_true rfl) dX1_usesOf_44 ⟨Nat.le_of_ble_eq_true rfl, Nat.le_of_ble_eq_true rfl⟩ (fun r hr => ?_)
          subst hr
          refine lv_iload_n hx hb dX1_usesOf_47 rfl (lv_at hl 2 rfl) ?_
          have J_48 : ∀ z : Int32, z = (if k_nodeOf (k_cat 400 gr (nI i)) = p0 then 1 else 0) → W p l e (headSpec wsX1_usesOf ({ frames := 1, cells := 0, slots := 0, locals := 21 })).room s m ([.ref (q 0), .int p0] : List Value).toArray below meth c s.heap [] 0 0 (MQ below (vp_Si (fun r => r = k_useO ou p0 (k_use3 le gr ne p0 n) om)) ([.ref (q 0), .int p0] : List Value).toArray s 0 0 (fun _ => False)) (F0 m 56 ls [.int z, .int ((k_use3 le gr ne p0 i) + (if k_nodeOf (k_cat 400 le (nI i)) = p0 then 1 else 0))]) := by
            intro z ez
            subst ez
            refine lv_iadd hx hb dX1_usesOf_56 ?_
            refine lv_istore_n (lv' := [(2, .int (((k_use3 le gr ne p0 i) + (if k_nodeOf (k_cat 400 le (nI i)) = p0 then 1 else 0)) + (if k_nodeOf (k_cat 400 gr (nI i)) = p0 then 1 else 0))), (0, .ref (q 0)), (1, .int p0), (3, .int (nI i))]) hx hb dX1_usesOf_57 rfl hl (by decide) rfl (fun ls hl => ?_)
            refine lv_iload_n hx hb dX1_usesOf_58 rfl (lv_at hl 0 rfl) ?_
            refine lv_aload_n hx hb dX1_usesOf_59 rfl (lv_at hl 1 rfl) ?_
            refine va_get (D := D) (ci := 1) (v := .ref (q 4)) (C := RX1) (T := TX1) (N := 10) hx hb hts (iwX1_usesOf_1) hown hK.1 hP 0 rfl rfl 3 (by decide) (hts (.fieldLink RX1 26 "InverterGraphs$Graph" "nexts" "LInverterGraphs$Cells;") (by decide +kernel)) (fun _ h9 => h9) rfl dX1_usesOf_60 ?_
            refine lv_iload_n hx hb dX1_usesOf_63 rfl (lv_at hl 3 rfl) ?_
            refine k_cRO (D := D) (κ := κ) (qc := (RX0, TX0, 1)) (ci := 0) (q0 := 0) ⟨hx, hb, hml, hown, hts⟩ (c_X0_at l D κ (q 4) (q 11) 400 ne (nI i) (by omega)) (cwV 1 hts gX1_usesOf_X0_at rfl rfl rfl (by decide +kernel) ⟨Nat.le_of_ble_eq_true rfl, Nat.le_of_ble_eq_true rfl⟩) hK (hP.sub [4, 11] rfl) rfl rfl (As := [.int (nI i)]) (rest := [.int (((k_use3 le gr ne p0 i) + (if k_nodeOf (k_cat 400 le (nI i)) = p0 then 1 else 0)) + (if k_nodeOf (k_cat 400 gr (nI i)) = p0 then 1 else 0))]) rfl rfl hl.1 (Nat.le_of_ble_eq_true rfl) dX1_usesOf_64 ⟨Nat.le_of_ble_eq_true rfl, Nat.le_of_ble_eq_true rfl⟩ (fun r hr => ?_)
            subst hr
            refine k_cNS ⟨hx, hb, hml, hown, hts⟩ (c_X6_nodeOf l (k_cat 400 ne (nI i))) ⟨va_cnB 1 hts ggX1_usesOf_X6_nodeOf rfl rfl rfl hK.2.1 (hts (.initialized RX6) (by decide +kernel)) (by decide +kernel) ⟨Nat.le_of_ble_eq_true rfl, Nat.le_of_ble_eq_true rfl⟩, (hts (.static yX6_nodeOf) (by decide +kernel)), trivial⟩ (As := [.int (k_cat 400 ne (nI i))]) (rest := [.int (((k_use3 le gr ne p0 i) + (if k_nodeOf (k_cat 400 le (nI i)) = p0 then 1 else 0)) + (if k_nodeOf (k_cat 400 gr (nI i)) = p0 then 1 else 0))]) rfl rfl hl.1 (Nat.le_of_ble_eq_true rfl) dX1_usesOf_67 ⟨Nat.le_of_ble_eq_true rfl, Nat.le_of_ble_eq_true rfl⟩ (fun r hr => ?_)
            subst hr
            refine lv_iload_n hx hb dX1_usesOf_70 rfl (lv_at hl 2 rfl) ?_
            have J_71 : ∀ z : Int32, z = (if k_nodeOf (k_cat 400 ne (nI i)) = p0 then 1 else 0) → W p l e (headSpec wsX1_usesOf ({ frames := 1, cells := 0, slots := 0, locals := 21 })).room s m ([.ref (q 0), .int p0] : List Value).toArray below meth c s.heap [] 0 0 (MQ below (vp_Si (fun r => r = k_useO ou p0 (k_use3 le gr ne p0 n) om)) ([.ref (q 0), .int p0] : List Value).toArray s 0 0 (fun _ => False)) (F0 m 79 ls [.int z, .int (((k_use3 le gr ne p0 i) + (if k_nodeOf (k_cat 400 le (nI i)) = p0 then 1 else 0)) + (if k_nodeOf (k_cat 400 gr (nI i)) = p0 then 1 else 0))]) := by
              intro z ez
              subst ez
              refine lv_iadd hx hb dX1_usesOf_79 ?_
              refine lv_istore_n (lv' := [(2, .int ((((k_use3 le gr ne p0 i) + (if k_nodeOf (k_cat 400 le (nI i)) = p0 then 1 else 0)) + (if k_nodeOf (k_cat 400 gr (nI i)) = p0 then 1 else 0)) + (if k_nodeOf (k_cat 400 ne (nI i)) = p0 then 1 else 0))), (0, .ref (q 0)), (1, .int p0), (3, .int (nI i))]) hx hb dX1_usesOf_80 rfl hl (by decide) rfl (fun ls hl => ?_)
              refine lv_iinc (v := nI (i + 1)) (lv' := [(3, .int (nI (i + 1))), (2, .int ((((k_use3 le gr ne p0 i) + (if k_nodeOf (k_cat 400 le (nI i)) = p0 then 1 else 0)) + (if k_nodeOf (k_cat 400 gr (nI i)) = p0 then 1 else 0)) + (if k_nodeOf (k_cat 400 ne (nI i)) = p0 then 1 else 0))), (0, .ref (q 0)), (1, .int p0)]) hx hb dX1_usesOf_81 hl (k := 3) rfl (nI_1 _) (by decide) rfl (fun ls hl => ?_)
              refine lv_goto (tgt := 4) hx hb dX1_usesOf_84 (by decide) ?_
              exact ih (i + 1) ls (by omega) (lv_sub hl [2, 3, 1, 0] rfl)
            refine lv_icmp_ne (tgt := 78) hx hb dX1_usesOf_71 (by decide) (fun c_71 => ?_) (fun c_71 => ?_)
            · skip
              refine lv_iconst (v := 0) hx hb dX1_usesOf_78 (by decide) ?_
              exact J_71 _ (by rw [if_neg c_71])
            · skip
              refine lv_iconst (v := 1) hx hb dX1_usesOf_74 (by decide) ?_
              refine lv_goto (tgt := 79) hx hb dX1_usesOf_75 (by decide) ?_
              exact J_71 _ (by rw [if_pos c_71])
          refine lv_icmp_ne (tgt := 55) hx hb dX1_usesOf_48 (by decide) (fun c_48 => ?_) (fun c_48 => ?_)
          · skip
            refine lv_iconst (v := 0) hx hb dX1_usesOf_55 (by decide) ?_
            exact J_48 _ (by rw [if_neg c_48])
          · skip
            refine lv_iconst (v := 1) hx hb dX1_usesOf_51 (by decide) ?_
            refine lv_goto (tgt := 56) hx hb dX1_usesOf_52 (by decide) ?_
            exact J_48 _ (by rw [if_pos c_48])
        refine lv_icmp_ne (tgt := 32) hx hb dX1_usesOf_25 (by decide) (fun c_25 => ?_) (fun c_25 => ?_)
        · skip
          refine lv_iconst (v := 0) hx hb dX1_usesOf_32 (by decide) ?_
          exact J_25 _ (by rw [if_neg c_25])
        · skip
          refine lv_iconst (v := 1) hx hb dX1_usesOf_28 (by decide) ?_
          refine lv_goto (tgt := 33) hx hb dX1_usesOf_29 (by decide) ?_
          exact J_25 _ (by rw [if_pos c_25])
  exact lp n 0 ls (by omega) (lv_sub hl [2, 3, 1, 0] rfl)
theorem iwX1_standingAnd_1 : ∀ w ∈ wsX10, w ∈ wsX1_standingAnd := by decide +kernel
set_option maxHeartbeats 4000000 in
set_option maxRecDepth 100000 in
theorem c_X1_standingAnd (l : Launch) (D : va_G) (κ : Nat → ClassId) (q : Nat → Nat) (so le gr ne si ou bo : Nat → Int32) (n om ob : Nat) (p0 p1 p2 : Int32) (hn : n ≤ 400) (hom : om ≤ 40) (hob : ob ≤ om) : k_roi l yX1_standingAnd wsX1_standingAnd 1 21 D κ [.ref (q 0), .int p0, .int p1, .int p2] (wG κ q so le gr ne si ou bo n om ob) (fun r => r = k_sa le gr p0 p1 p2 n 0) := by
  refine Met.ofW (cc := cX1_standingAnd) (maxL := 5) (ret := (some .int)) (by decide) rfl ?_
  intro p e s m args below meth c s₁ B hml hv
  obtain ⟨rfl, hK, hP⟩ := hv
  have hx := B.exec
  have hb := B.bytes
  have hr := B.returns
  have hts := atoms_spec (ws := wsX1_standingAnd) B.pre
  have hown : s.vm.findClass RX1 = some m.cls := findClass_of_methodNamed B.named
  have hlocks := B.notSynchronized
  have hP : va_P D vwCl (wG κ q so le gr ne si ou bo n om ob) s.heap := hP
  have hl := lv_entry ([.ref (q 0), .int p0, .int p1, .int p2]) (n := 5) (Nat.le_of_ble_eq_true rfl)
  rw [lg_entry_eq]
  generalize (lg_sl ([.ref (q 0), .int p0, .int p1, .int p2]) ++ List.replicate (5 - (lg_sl ([.ref (q 0), .int p0, .int p1, .int p2])).length) Slot.unset).toArray = ls at hl ⊢
  have hl : lv_has ls 5 [(0, .ref (q 0)), (1, .int p0), (2, .int p1), (3, .int p2)] := hl
  refine lv_iconst (v := 0) hx hb dX1_standingAnd_0 (by decide) ?_
  refine lv_istore (lv' := [(4, .int 0), (0, .ref (q 0)), (1, .int p0), (2, .int p1), (3, .int p2)]) hx hb dX1_standingAnd_1 hl (by decide) rfl (fun ls hl => ?_)
  have lp : ∀ (k i : Nat) (ls : Array Slot), (i + k = n) → (k_sa le gr p0 p1 p2 n 0 = k_sa le gr p0 p1 p2 k i) → lv_has ls 5 [(0, .ref (q 0)), (1, .int p0), (2, .int p1), (3, .int p2), (4, .int (nI i))] → W p l e (headSpec wsX1_standingAnd ({ frames := 1, cells := 0, slots := 0, locals := 21 })).room s m ([.ref (q 0), .int p0, .int p1, .int p2] : List Value).toArray below meth c s.heap [] 0 0 (MQ below (vp_Si (fun r => r = k_sa le gr p0 p1 p2 n 0)) ([.ref (q 0), .int p0, .int p1, .int p2] : List Value).toArray s 0 0 (fun _ => False)) (F0 m 3 ls []) := by
    intro k
    induction k with
    | zero =>
      intro i ls hi hr9 hl
      refine lv_iload hx hb dX1_standingAnd_3 (lv_at hl 4 rfl) ?_
      refine lv_aload_n hx hb dX1_standingAnd_5 rfl (lv_at hl 0 rfl) ?_
      refine va_get (D := D) (ci := 1) (v := .int (nI n)) (C := RX1) (T := TX1) (N := 10) hx hb hts (iwX1_standingAnd_1) hown hK.1 hP 0 rfl rfl 7 (by decide) (hts (.fieldLink RX1 46 "InverterGraphs$Graph" "nodes" "I") (by decide +kernel)) (fun _ h9 => h9) rfl dX1_standingAnd_6 ?_
      refine lv_icmp_ge (tgt := 56) hx hb dX1_standingAnd_9 (by decide) (fun c_9 => ?_) (fun c_9 => ?_)
      · skip
        have c_9 : n ≤ i := (nI_leI (a := n) (b := i) (by omega) (by omega)).mp c_9
        refine lv_iconst (v := (-1)) hx hb dX1_standingAnd_56 (by decide) ?_
        exact W.iret (v := (-1)) hx hb hr (fun t ht _ => ⟨(-1), rfl, hr9.symm, ht⟩) (fun _ h9 => nomatch h9) dX1_standingAnd_57
      · skip
        have c_9 : ¬ (n ≤ i) := fun h9 => c_9 ((nI_leI (a := n) (b := i) (by omega) (by omega)).mpr h9)
        exfalso; omega
    | succ k ih =>
      intro i ls hi hr9 hl
      refine lv_iload hx hb dX1_standingAnd_3 (lv_at hl 4 rfl) ?_
      refine lv_aload_n hx hb dX1_standingAnd_5 rfl (lv_at hl 0 rfl) ?_
      refine va_get (D := D) (ci := 1) (v := .int (nI n)) (C := RX1) (T := TX1) (N := 10) hx hb hts (iwX1_standingAnd_1) hown hK.1 hP 0 rfl rfl 7 (by decide) (hts (.fieldLink RX1 46 "InverterGraphs$Graph" "nodes" "I") (by decide +kernel)) (fun _ h9 => h9) rfl dX1_standingAnd_6 ?_
      refine lv_icmp_ge (tgt := 56) hx hb dX1_standingAnd_9 (by decide) (fun c_9 => ?_) (fun c_9 => ?_)
      · skip
        have c_9 : n ≤ i := (nI_leI (a := n) (b := i) (by omega) (by omega)).mp c_9
        exfalso; omega
      · skip
        have c_9 : ¬ (n ≤ i) := fun h9 => c_9 ((nI_leI (a := n) (b := i) (by omega) (by omega)).mpr h9)
        refine lv_aload_n hx hb dX1_standingAnd_12 rfl (lv_at hl 0 rfl) ?_
        refine va_get (D := D) (ci := 1) (v := .ref (q 2)) (C := RX1) (T := TX1) (N := 10) hx hb hts (iwX1_standingAnd_1) hown hK.1 hP 0 rfl rfl 1 (by decide) (hts (.fieldLink RX1 20 "InverterGraphs$Graph" "lessers" "LInverterGraphs$Cells;") (by decide +kernel)) (fun _ h9 => h9) rfl dX1_standingAnd_13 ?_
        refine lv_iload hx hb dX1_standingAnd_16 (lv_at hl 4 rfl) ?_
        refine k_cRO (D := D) (κ := κ) (qc := (RX0, TX0, 1)) (ci := 0) (q0 := 0) ⟨hx, hb, hml, hown, hts⟩ (c_X0_at l D κ (q 2) (q 9) 400 le (nI i) (by omega)) (cwV 1 hts gX1_standingAnd_X0_at rfl rfl rfl (by decide +kernel) ⟨Nat.le_of_ble_eq_true rfl, Nat.le_of_ble_eq_true rfl⟩) hK (hP.sub [2, 9] rfl) rfl rfl (As := [.int (nI i)]) (rest := []) rfl rfl hl.1 (Nat.le_of_ble_eq_true rfl) dX1_standingAnd_18 ⟨Nat.le_of_ble_eq_true rfl, Nat.le_of_ble_eq_true rfl⟩ (fun r hr => ?_)
        subst hr
        refine lv_iload_n hx hb dX1_standingAnd_21 rfl (lv_at hl 1 rfl) ?_
        refine lv_icmp_ne (tgt := 50) hx hb dX1_standingAnd_22 (by decide) (fun c_22 => ?_) (fun c_22 => ?_)
        · skip
          refine lv_iinc (v := nI (i + 1)) (lv' := [(4, .int (nI (i + 1))), (0, .ref (q 0)), (1, .int p0), (2, .int p1), (3, .int p2)]) hx hb dX1_standingAnd_50 hl (k := 4) rfl (nI_1 _) (by decide) rfl (fun ls hl => ?_)
          refine lv_goto (tgt := 3) hx hb dX1_standingAnd_53 (by decide) ?_
          exact ih (i + 1) ls (by omega) (by rw [hr9, k_sa, if_neg c_22]) (lv_sub hl [1, 2, 3, 4, 0] rfl)
        · skip
          refine lv_aload_n hx hb dX1_standingAnd_25 rfl (lv_at hl 0 rfl) ?_
          refine va_get (D := D) (ci := 1) (v := .ref (q 3)) (C := RX1) (T := TX1) (N := 10) hx hb hts (iwX1_standingAnd_1) hown hK.1 hP 0 rfl rfl 2 (by decide) (hts (.fieldLink RX1 23 "InverterGraphs$Graph" "greaters" "LInverterGraphs$Cells;") (by decide +kernel)) (fun _ h9 => h9) rfl dX1_standingAnd_26 ?_
          refine lv_iload hx hb dX1_standingAnd_29 (lv_at hl 4 rfl) ?_
          refine k_cRO (D := D) (κ := κ) (qc := (RX0, TX0, 1)) (ci := 0) (q0 := 0) ⟨hx, hb, hml, hown, hts⟩ (c_X0_at l D κ (q 3) (q 10) 400 gr (nI i) (by omega)) (cwV 1 hts gX1_standingAnd_X0_at rfl rfl rfl (by decide +kernel) ⟨Nat.le_of_ble_eq_true rfl, Nat.le_of_ble_eq_true rfl⟩) hK (hP.sub [3, 10] rfl) rfl rfl (As := [.int (nI i)]) (rest := []) rfl rfl hl.1 (Nat.le_of_ble_eq_true rfl) dX1_standingAnd_31 ⟨Nat.le_of_ble_eq_true rfl, Nat.le_of_ble_eq_true rfl⟩ (fun r hr => ?_)
          subst hr
          refine lv_iload_n hx hb dX1_standingAnd_34 rfl (lv_at hl 2 rfl) ?_
          refine lv_icmp_ne (tgt := 50) hx hb dX1_standingAnd_35 (by decide) (fun c_35 => ?_) (fun c_35 => ?_)
          · skip
            refine lv_iinc (v := nI (i + 1)) (lv' := [(4, .int (nI (i + 1))), (0, .ref (q 0)), (1, .int p0), (2, .int p1), (3, .int p2)]) hx hb dX1_standingAnd_50 hl (k := 4) rfl (nI_1 _) (by decide) rfl (fun ls hl => ?_)
            refine lv_goto (tgt := 3) hx hb dX1_standingAnd_53 (by decide) ?_
            exact ih (i + 1) ls (by omega) (by rw [hr9, k_sa, if_pos c_22, if_neg c_35]) (lv_sub hl [1, 2, 3, 4, 0] rfl)
          · skip
            refine lv_iload hx hb dX1_standingAnd_38 (lv_at hl 4 rfl) ?_
            refine lv_iload_n hx hb dX1_standingAnd_40 rfl (lv_at hl 3 rfl) ?_
            refine lv_icmp_eq (tgt := 50) hx hb dX1_standingAnd_41 (by decide) (fun c_41 => ?_) (fun c_41 => ?_)
            · skip
              refine lv_iinc (v := nI (i + 1)) (lv' := [(4, .int (nI (i + 1))), (0, .ref (q 0)), (1, .int p0), (2, .int p1), (3, .int p2)]) hx hb dX1_standingAnd_50 hl (k := 4) rfl (nI_1 _) (by decide) rfl (fun ls hl => ?_)
              refine lv_goto (tgt := 3) hx hb dX1_standingAnd_53 (by decide) ?_
              exact ih (i + 1) ls (by omega) (by rw [hr9, k_sa, if_pos c_22, if_pos c_35, if_pos c_41]) (lv_sub hl [1, 2, 3, 4, 0] rfl)
            · skip
              refine lv_iload hx hb dX1_standingAnd_44 (lv_at hl 4 rfl) ?_
              refine k_cNS ⟨hx, hb, hml, hown, hts⟩ (c_X6_literalOf l (nI i)) ⟨va_cnB 1 hts ggX1_standingAnd_X6_literalOf rfl rfl rfl hK.2.2.2.1 (hts (.initialized RX6) (by decide +kernel)) (by decide +kernel) ⟨Nat.le_of_ble_eq_true rfl, Nat.le_of_ble_eq_true rfl⟩, (hts (.static yX6_literalOf) (by decide +kernel)), trivial⟩ (As := [.int (nI i)]) (rest := []) rfl rfl hl.1 (Nat.le_of_ble_eq_true rfl) dX1_standingAnd_46 ⟨Nat.le_of_ble_eq_true rfl, Nat.le_of_ble_eq_true rfl⟩ (fun r hr => ?_)
              subst hr
              exact W.iret (v := k_litOf (nI i)) hx hb hr (fun t ht _ => ⟨k_litOf (nI i), rfl, (by rw [hr9, k_sa, if_pos c_22, if_pos c_35, if_neg c_41]), ht⟩) (fun _ h9 => nomatch h9) dX1_standingAnd_49
  exact lp n 0 ls (by omega) rfl (lv_sub hl [1, 2, 3, 4, 0] rfl)
set_option maxHeartbeats 4000000 in
set_option maxRecDepth 100000 in
theorem c_X1_knownAnd (l : Launch) (D : va_G) (κ : Nat → ClassId) (q : Nat → Nat) (so le gr ne si ou bo : Nat → Int32) (n om ob : Nat) (p0 p1 p2 : Int32) (hn : n ≤ 400) (hom : om ≤ 40) (hob : ob ≤ om) : k_roi l yX1_knownAnd wsX1_knownAnd 2 45 D κ [.ref (q 0), .int p0, .int p1, .int p2] (wG κ q so le gr ne si ou bo n om ob) (fun r => r = k_known le gr n p0 p1 p2) := by
  refine Met.ofW (cc := cX1_knownAnd) (maxL := 4) (ret := (some .int)) (by decide) rfl ?_
  intro p e s m args below meth c s₁ B hml hv
  obtain ⟨rfl, hK, hP⟩ := hv
  have hx := B.exec
  have hb := B.bytes
  have hr := B.returns
  have hts := atoms_spec (ws := wsX1_knownAnd) B.pre
  have hown : s.vm.findClass RX1 = some m.cls := findClass_of_methodNamed B.named
  have hlocks := B.notSynchronized
  have hP : va_P D vwCl (wG κ q so le gr ne si ou bo n om ob) s.heap := hP
  have hl := lv_entry ([.ref (q 0), .int p0, .int p1, .int p2]) (n := 4) (Nat.le_of_ble_eq_true rfl)
  rw [lg_entry_eq]
  generalize (lg_sl ([.ref (q 0), .int p0, .int p1, .int p2]) ++ List.replicate (4 - (lg_sl ([.ref (q 0), .int p0, .int p1, .int p2])).length) Slot.unset).toArray = ls at hl ⊢
  have hl : lv_has ls 4 [(0, .ref (q 0)), (1, .int p0), (2, .int p1), (3, .int p2)] := hl
  refine lv_iload_n hx hb dX1_knownAnd_0 rfl (lv_at hl 1 rfl) ?_
  refine lv_iload_n hx hb dX1_knownAnd_1 rfl (lv_at hl 2 rfl) ?_
  refine lv_icmp_ne (tgt := 7) hx hb dX1_knownAnd_2 (by decide) (fun c_2 => ?_) (fun c_2 => ?_)
  · skip
    refine lv_iload_n hx hb dX1_knownAnd_7 rfl (lv_at hl 1 rfl) ?_
    refine lv_iload_n hx hb dX1_knownAnd_8 rfl (lv_at hl 2 rfl) ?_
    refine k_cNS ⟨hx, hb, hml, hown, hts⟩ (c_X6_turned l p1) ⟨va_cnB 1 hts ggX1_knownAnd_X6_turned rfl rfl rfl hK.2.2.1 (hts (.initialized RX6) (by decide +kernel)) (by decide +kernel) ⟨Nat.le_of_ble_eq_true rfl, Nat.le_of_ble_eq_true rfl⟩, (hts (.static yX6_turned) (by decide +kernel)), trivial⟩ (As := [.int p1]) (rest := [.int p0]) rfl rfl hl.1 (Nat.le_of_ble_eq_true rfl) dX1_knownAnd_9 ⟨Nat.le_of_ble_eq_true rfl, Nat.le_of_ble_eq_true rfl⟩ (fun r hr => ?_)
    subst hr
    refine lv_icmp_eq (tgt := 23) hx hb dX1_knownAnd_12 (by decide) (fun c_12 => ?_) (fun c_12 => ?_)
    · skip
      refine lv_iconst (v := 0) hx hb dX1_knownAnd_23 (by decide) ?_
      exact W.iret (v := 0) hx hb hr (fun t ht _ => ⟨0, rfl, (by unfold k_known; rw [if_neg c_2, if_pos c_12]), ht⟩) (fun _ h9 => nomatch h9) dX1_knownAnd_24
    · skip
      refine lv_iload_n hx hb dX1_knownAnd_15 rfl (lv_at hl 1 rfl) ?_
      refine lv_if_eq (tgt := 23) hx hb dX1_knownAnd_16 (by decide) (fun c_16 => ?_) (fun c_16 => ?_)
      · skip
        refine lv_iconst (v := 0) hx hb dX1_knownAnd_23 (by decide) ?_
        exact W.iret (v := 0) hx hb hr (fun t ht _ => ⟨0, rfl, (by unfold k_known; rw [if_neg c_2, if_neg c_12, if_pos c_16]), ht⟩) (fun _ h9 => nomatch h9) dX1_knownAnd_24
      · skip
        refine lv_iload_n hx hb dX1_knownAnd_19 rfl (lv_at hl 2 rfl) ?_
        refine lv_if_ne (tgt := 25) hx hb dX1_knownAnd_20 (by decide) (fun c_20 => ?_) (fun c_20 => ?_)
        · skip
          refine lv_iload_n hx hb dX1_knownAnd_25 rfl (lv_at hl 1 rfl) ?_
          refine lv_iconst (v := 1) hx hb dX1_knownAnd_26 (by decide) ?_
          refine lv_icmp_ne (tgt := 32) hx hb dX1_knownAnd_27 (by decide) (fun c_27 => ?_) (fun c_27 => ?_)
          · skip
            refine lv_iload_n hx hb dX1_knownAnd_32 rfl (lv_at hl 2 rfl) ?_
            refine lv_iconst (v := 1) hx hb dX1_knownAnd_33 (by decide) ?_
            refine lv_icmp_ne (tgt := 39) hx hb dX1_knownAnd_34 (by decide) (fun c_34 => ?_) (fun c_34 => ?_)
            · skip
              refine lv_aload_n hx hb dX1_knownAnd_39 rfl (lv_at hl 0 rfl) ?_
              refine lv_iload_n hx hb dX1_knownAnd_40 rfl (lv_at hl 1 rfl) ?_
              refine lv_iload_n hx hb dX1_knownAnd_41 rfl (lv_at hl 2 rfl) ?_
              refine va_mmin hx hb (by rw [hml]; exact hl.1.symm) hown (hts (.methodLink RX1 63 Lib.Math.min.name) (by decide +kernel)) (hts (.static Lib.Math.min.name) (by decide +kernel)) (hts (.initialized "java/lang/Math") (by decide +kernel)) (hts (.code Lib.Math.min.name Lib.Math.min.code 2 (some .int)) (by decide +kernel)) (Nat.le_of_ble_eq_true rfl) (Nat.le_of_ble_eq_true rfl) (Nat.le_of_ble_eq_true rfl) (Nat.le_of_ble_eq_true rfl) dX1_knownAnd_42 ?_
              refine lv_iload_n hx hb dX1_knownAnd_45 rfl (lv_at hl 1 rfl) ?_
              refine lv_iload_n hx hb dX1_knownAnd_46 rfl (lv_at hl 2 rfl) ?_
              refine va_mmax hx hb (by rw [hml]; exact hl.1.symm) hown (hts (.methodLink RX1 69 Lib.Math.max.name) (by decide +kernel)) (hts (.static Lib.Math.max.name) (by decide +kernel)) (hts (.initialized "java/lang/Math") (by decide +kernel)) (hts (.code Lib.Math.max.name Lib.Math.max.code 2 (some .int)) (by decide +kernel)) (Nat.le_of_ble_eq_true rfl) (Nat.le_of_ble_eq_true rfl) (Nat.le_of_ble_eq_true rfl) (Nat.le_of_ble_eq_true rfl) dX1_knownAnd_47 ?_
              refine lv_iload_n hx hb dX1_knownAnd_50 rfl (lv_at hl 3 rfl) ?_
              refine k_cRO (D := D) (κ := κ) (qc := (RX1, TX1, 10)) (ci := 1) (q0 := 0) ⟨hx, hb, hml, hown, hts⟩ (c_X1_standingAnd l D κ q so le gr ne si ou bo n om ob (k_min p0 p1) (k_max p0 p1) p2 (by omega) (by omega) (by omega)) (cwV 3 hts gX1_knownAnd_X1_standingAnd rfl rfl rfl (by decide +kernel) ⟨Nat.le_of_ble_eq_true rfl, Nat.le_of_ble_eq_true rfl⟩) hK hP rfl rfl (As := [.int (k_min p0 p1), .int (k_max p0 p1), .int p2]) (rest := []) rfl rfl hl.1 (Nat.le_of_ble_eq_true rfl) dX1_knownAnd_51 ⟨Nat.le_of_ble_eq_true rfl, Nat.le_of_ble_eq_true rfl⟩ (fun r hr => ?_)
              subst hr
              exact W.iret (v := k_sa le gr (k_min p0 p1) (k_max p0 p1) p2 n 0) hx hb hr (fun t ht _ => ⟨k_sa le gr (k_min p0 p1) (k_max p0 p1) p2 n 0, rfl, (by unfold k_known; rw [if_neg c_2, if_neg c_12, if_neg c_16, if_neg c_20, if_neg c_27, if_neg c_34]), ht⟩) (fun _ h9 => nomatch h9) dX1_knownAnd_54
            · skip
              refine lv_iload_n hx hb dX1_knownAnd_37 rfl (lv_at hl 1 rfl) ?_
              exact W.iret (v := p0) hx hb hr (fun t ht _ => ⟨p0, rfl, (by unfold k_known; rw [if_neg c_2, if_neg c_12, if_neg c_16, if_neg c_20, if_neg c_27, if_pos c_34]), ht⟩) (fun _ h9 => nomatch h9) dX1_knownAnd_38
          · skip
            refine lv_iload_n hx hb dX1_knownAnd_30 rfl (lv_at hl 2 rfl) ?_
            exact W.iret (v := p1) hx hb hr (fun t ht _ => ⟨p1, rfl, (by unfold k_known; rw [if_neg c_2, if_neg c_12, if_neg c_16, if_neg c_20, if_pos c_27]), ht⟩) (fun _ h9 => nomatch h9) dX1_knownAnd_31
        · skip
          refine lv_iconst (v := 0) hx hb dX1_knownAnd_23 (by decide) ?_
          exact W.iret (v := 0) hx hb hr (fun t ht _ => ⟨0, rfl, (by unfold k_known; rw [if_neg c_2, if_neg c_12, if_neg c_16, if_pos c_20]), ht⟩) (fun _ h9 => nomatch h9) dX1_knownAnd_24
  · skip
    refine lv_iload_n hx hb dX1_knownAnd_5 rfl (lv_at hl 1 rfl) ?_
    exact W.iret (v := p0) hx hb hr (fun t ht _ => ⟨p0, rfl, (by unfold k_known; rw [if_pos c_2]), ht⟩) (fun _ h9 => nomatch h9) dX1_knownAnd_6
theorem iwX1_leastOutdated_1 : ∀ w ∈ wsX10, w ∈ wsX1_leastOutdated := by decide +kernel
set_option maxHeartbeats 4000000 in
set_option maxRecDepth 100000 in
theorem c_X1_leastOutdated (l : Launch) (D : va_G) (κ : Nat → ClassId) (q : Nat → Nat) (so le gr ne si ou bo : Nat → Int32) (n om ob : Nat) (p0 : Nat) (hn : n ≤ 400) (hom : om ≤ 40) (hob : ob ≤ om) (hp0 : p0 ≤ n) : k_roi l yX1_leastOutdated wsX1_leastOutdated 2 42 D κ [.ref (q 0), .int (nI p0)] (wG κ q so le gr ne si ou bo n om ob) (fun r => r = k_lo le gr si (n - p0) p0) := by
  refine Met.ofW (cc := cX1_leastOutdated) (maxL := 3) (ret := (some .int)) (by decide) rfl ?_
  intro p e s m args below meth c s₁ B hml hv
  obtain ⟨rfl, hK, hP⟩ := hv
  have hx := B.exec
  have hb := B.bytes
  have hr := B.returns
  have hts := atoms_spec (ws := wsX1_leastOutdated) B.pre
  have hown : s.vm.findClass RX1 = some m.cls := findClass_of_methodNamed B.named
  have hlocks := B.notSynchronized
  have hP : va_P D vwCl (wG κ q so le gr ne si ou bo n om ob) s.heap := hP
  have hl := lv_entry ([.ref (q 0), .int (nI p0)]) (n := 3) (Nat.le_of_ble_eq_true rfl)
  rw [lg_entry_eq]
  generalize (lg_sl ([.ref (q 0), .int (nI p0)]) ++ List.replicate (3 - (lg_sl ([.ref (q 0), .int (nI p0)])).length) Slot.unset).toArray = ls at hl ⊢
  have hl : lv_has ls 3 [(0, .ref (q 0)), (1, .int (nI p0))] := hl
  refine lv_iload_n hx hb dX1_leastOutdated_0 rfl (lv_at hl 1 rfl) ?_
  refine lv_istore_n (lv' := [(2, .int (nI p0)), (0, .ref (q 0)), (1, .int (nI p0))]) hx hb dX1_leastOutdated_1 rfl hl (by decide) rfl (fun ls hl => ?_)
  have lp : ∀ (k i : Nat) (ls : Array Slot), (i + k = n) → (k_lo le gr si (n - p0) p0 = k_lo le gr si k i) → lv_has ls 3 [(0, .ref (q 0)), (1, .int (nI p0)), (2, .int (nI i))] → W p l e (headSpec wsX1_leastOutdated ({ frames := 2, cells := 0, slots := 0, locals := 42 })).room s m ([.ref (q 0), .int (nI p0)] : List Value).toArray below meth c s.heap [] 0 0 (MQ below (vp_Si (fun r => r = k_lo le gr si (n - p0) p0)) ([.ref (q 0), .int (nI p0)] : List Value).toArray s 0 0 (fun _ => False)) (F0 m 2 ls []) := by
    intro k
    induction k with
    | zero =>
      intro i ls hi hr9 hl
      refine lv_iload_n hx hb dX1_leastOutdated_2 rfl (lv_at hl 2 rfl) ?_
      refine lv_aload_n hx hb dX1_leastOutdated_3 rfl (lv_at hl 0 rfl) ?_
      refine va_get (D := D) (ci := 1) (v := .int (nI n)) (C := RX1) (T := TX1) (N := 10) hx hb hts (iwX1_leastOutdated_1) hown hK.1 hP 0 rfl rfl 7 (by decide) (hts (.fieldLink RX1 46 "InverterGraphs$Graph" "nodes" "I") (by decide +kernel)) (fun _ h9 => h9) rfl dX1_leastOutdated_4 ?_
      refine lv_icmp_ge (tgt := 48) hx hb dX1_leastOutdated_7 (by decide) (fun c_7 => ?_) (fun c_7 => ?_)
      · skip
        have c_7 : n ≤ i := (nI_leI (a := n) (b := i) (by omega) (by omega)).mp c_7
        refine lv_iconst (v := (-1)) hx hb dX1_leastOutdated_48 (by decide) ?_
        exact W.iret (v := (-1)) hx hb hr (fun t ht _ => ⟨(-1), rfl, hr9.symm, ht⟩) (fun _ h9 => nomatch h9) dX1_leastOutdated_49
      · skip
        have c_7 : ¬ (n ≤ i) := fun h9 => c_7 ((nI_leI (a := n) (b := i) (by omega) (by omega)).mpr h9)
        exfalso; omega
    | succ k ih =>
      intro i ls hi hr9 hl
      refine lv_iload_n hx hb dX1_leastOutdated_2 rfl (lv_at hl 2 rfl) ?_
      refine lv_aload_n hx hb dX1_leastOutdated_3 rfl (lv_at hl 0 rfl) ?_
      refine va_get (D := D) (ci := 1) (v := .int (nI n)) (C := RX1) (T := TX1) (N := 10) hx hb hts (iwX1_leastOutdated_1) hown hK.1 hP 0 rfl rfl 7 (by decide) (hts (.fieldLink RX1 46 "InverterGraphs$Graph" "nodes" "I") (by decide +kernel)) (fun _ h9 => h9) rfl dX1_leastOutdated_4 ?_
      refine lv_icmp_ge (tgt := 48) hx hb dX1_leastOutdated_7 (by decide) (fun c_7 => ?_) (fun c_7 => ?_)
      · skip
        have c_7 : n ≤ i := (nI_leI (a := n) (b := i) (by omega) (by omega)).mp c_7
        exfalso; omega
      · skip
        have c_7 : ¬ (n ≤ i) := fun h9 => c_7 ((nI_leI (a := n) (b := i) (by omega) (by omega)).mpr h9)
        refine lv_aload_n hx hb dX1_leastOutdated_10 rfl (lv_at hl 0 rfl) ?_
        refine lv_aload_n hx hb dX1_leastOutdated_11 rfl (lv_at hl 0 rfl) ?_
        refine va_get (D := D) (ci := 1) (v := .ref (q 2)) (C := RX1) (T := TX1) (N := 10) hx hb hts (iwX1_leastOutdated_1) hown hK.1 hP 0 rfl rfl 1 (by decide) (hts (.fieldLink RX1 20 "InverterGraphs$Graph" "lessers" "LInverterGraphs$Cells;") (by decide +kernel)) (fun _ h9 => h9) rfl dX1_leastOutdated_12 ?_
        refine lv_iload_n hx hb dX1_leastOutdated_15 rfl (lv_at hl 2 rfl) ?_
        refine k_cRO (D := D) (κ := κ) (qc := (RX0, TX0, 1)) (ci := 0) (q0 := 0) ⟨hx, hb, hml, hown, hts⟩ (c_X0_at l D κ (q 2) (q 9) 400 le (nI i) (by omega)) (cwV 1 hts gX1_leastOutdated_X0_at rfl rfl rfl (by decide +kernel) ⟨Nat.le_of_ble_eq_true rfl, Nat.le_of_ble_eq_true rfl⟩) hK (hP.sub [2, 9] rfl) rfl rfl (As := [.int (nI i)]) (rest := [.ref (q 0)]) rfl rfl hl.1 (Nat.le_of_ble_eq_true rfl) dX1_leastOutdated_16 ⟨Nat.le_of_ble_eq_true rfl, Nat.le_of_ble_eq_true rfl⟩ (fun r hr => ?_)
        subst hr
        refine k_cRO (D := D) (κ := κ) (qc := (RX1, TX1, 10)) (ci := 1) (q0 := 0) ⟨hx, hb, hml, hown, hts⟩ (c_X1_isReplaced l D κ q so le gr ne si ou bo n om ob (k_cat 400 le (nI i)) (by omega) (by omega) (by omega)) (cwV 1 hts gX1_leastOutdated_X1_isReplaced rfl rfl rfl (by decide +kernel) ⟨Nat.le_of_ble_eq_true rfl, Nat.le_of_ble_eq_true rfl⟩) hK hP rfl rfl (As := [.int (k_cat 400 le (nI i))]) (rest := []) rfl rfl hl.1 (Nat.le_of_ble_eq_true rfl) dX1_leastOutdated_19 ⟨Nat.le_of_ble_eq_true rfl, Nat.le_of_ble_eq_true rfl⟩ (fun r hr => ?_)
        subst hr
        refine lv_if_ne (tgt := 40) hx hb dX1_leastOutdated_22 (by decide) (fun c_22 => ?_) (fun c_22 => ?_)
        · skip
          refine lv_iload_n hx hb dX1_leastOutdated_40 rfl (lv_at hl 2 rfl) ?_
          exact W.iret (v := nI i) hx hb hr (fun t ht _ => ⟨nI i, rfl, (by rw [hr9, k_lo, if_neg c_22]), ht⟩) (fun _ h9 => nomatch h9) dX1_leastOutdated_41
        · skip
          refine lv_aload_n hx hb dX1_leastOutdated_25 rfl (lv_at hl 0 rfl) ?_
          refine lv_aload_n hx hb dX1_leastOutdated_26 rfl (lv_at hl 0 rfl) ?_
          refine va_get (D := D) (ci := 1) (v := .ref (q 3)) (C := RX1) (T := TX1) (N := 10) hx hb hts (iwX1_leastOutdated_1) hown hK.1 hP 0 rfl rfl 2 (by decide) (hts (.fieldLink RX1 23 "InverterGraphs$Graph" "greaters" "LInverterGraphs$Cells;") (by decide +kernel)) (fun _ h9 => h9) rfl dX1_leastOutdated_27 ?_
          refine lv_iload_n hx hb dX1_leastOutdated_30 rfl (lv_at hl 2 rfl) ?_
          refine k_cRO (D := D) (κ := κ) (qc := (RX0, TX0, 1)) (ci := 0) (q0 := 0) ⟨hx, hb, hml, hown, hts⟩ (c_X0_at l D κ (q 3) (q 10) 400 gr (nI i) (by omega)) (cwV 1 hts gX1_leastOutdated_X0_at rfl rfl rfl (by decide +kernel) ⟨Nat.le_of_ble_eq_true rfl, Nat.le_of_ble_eq_true rfl⟩) hK (hP.sub [3, 10] rfl) rfl rfl (As := [.int (nI i)]) (rest := [.ref (q 0)]) rfl rfl hl.1 (Nat.le_of_ble_eq_true rfl) dX1_leastOutdated_31 ⟨Nat.le_of_ble_eq_true rfl, Nat.le_of_ble_eq_true rfl⟩ (fun r hr => ?_)
          subst hr
          refine k_cRO (D := D) (κ := κ) (qc := (RX1, TX1, 10)) (ci := 1) (q0 := 0) ⟨hx, hb, hml, hown, hts⟩ (c_X1_isReplaced l D κ q so le gr ne si ou bo n om ob (k_cat 400 gr (nI i)) (by omega) (by omega) (by omega)) (cwV 1 hts gX1_leastOutdated_X1_isReplaced rfl rfl rfl (by decide +kernel) ⟨Nat.le_of_ble_eq_true rfl, Nat.le_of_ble_eq_true rfl⟩) hK hP rfl rfl (As := [.int (k_cat 400 gr (nI i))]) (rest := []) rfl rfl hl.1 (Nat.le_of_ble_eq_true rfl) dX1_leastOutdated_34 ⟨Nat.le_of_ble_eq_true rfl, Nat.le_of_ble_eq_true rfl⟩ (fun r hr => ?_)
          subst hr
          refine lv_if_eq (tgt := 42) hx hb dX1_leastOutdated_37 (by decide) (fun c_37 => ?_) (fun c_37 => ?_)
          · skip
            refine lv_iinc (v := nI (i + 1)) (lv' := [(2, .int (nI (i + 1))), (0, .ref (q 0)), (1, .int (nI p0))]) hx hb dX1_leastOutdated_42 hl (k := 2) rfl (nI_1 _) (by decide) rfl (fun ls hl => ?_)
            refine lv_goto (tgt := 2) hx hb dX1_leastOutdated_45 (by decide) ?_
            exact ih (i + 1) ls (by omega) (by rw [hr9, k_lo, if_pos c_22, if_pos c_37]) (lv_sub hl [1, 2, 0] rfl)
          · skip
            refine lv_iload_n hx hb dX1_leastOutdated_40 rfl (lv_at hl 2 rfl) ?_
            exact W.iret (v := nI i) hx hb hr (fun t ht _ => ⟨nI i, rfl, (by rw [hr9, k_lo, if_pos c_22, if_neg c_37]), ht⟩) (fun _ h9 => nomatch h9) dX1_leastOutdated_41
  exact lp (n - p0) p0 ls (by omega) rfl (lv_sub hl [1, 2, 0] rfl)
theorem iwX1_standing_1 : ∀ w ∈ wsX10, w ∈ wsX1_standing := by decide +kernel
set_option maxHeartbeats 4000000 in
set_option maxRecDepth 100000 in
theorem c_X1_standing (l : Launch) (D : va_G) (κ : Nat → ClassId) (q : Nat → Nat) (so le gr ne si ou bo : Nat → Int32) (n om ob : Nat) (p0 : Int32) (hn : n ≤ 400) (hom : om ≤ 40) (hob : ob ≤ om) : k_roi l yX1_standing wsX1_standing 2 42 D κ [.ref (q 0), .int p0] (wG κ q so le gr ne si ou bo n om ob) (fun r => r = k_stL si 400 p0) := by
  refine Met.ofW (cc := cX1_standing) (maxL := 5) (ret := (some .int)) (by decide) rfl ?_
  intro p e s m args below meth c s₁ B hml hv
  obtain ⟨rfl, hK, hP⟩ := hv
  have hx := B.exec
  have hb := B.bytes
  have hr := B.returns
  have hts := atoms_spec (ws := wsX1_standing) B.pre
  have hown : s.vm.findClass RX1 = some m.cls := findClass_of_methodNamed B.named
  have hlocks := B.notSynchronized
  have hP : va_P D vwCl (wG κ q so le gr ne si ou bo n om ob) s.heap := hP
  have hl := lv_entry ([.ref (q 0), .int p0]) (n := 5) (Nat.le_of_ble_eq_true rfl)
  rw [lg_entry_eq]
  generalize (lg_sl ([.ref (q 0), .int p0]) ++ List.replicate (5 - (lg_sl ([.ref (q 0), .int p0])).length) Slot.unset).toArray = ls at hl ⊢
  have hl : lv_has ls 5 [(0, .ref (q 0)), (1, .int p0)] := hl
  refine lv_iload_n hx hb dX1_standing_0 rfl (lv_at hl 1 rfl) ?_
  refine lv_istore_n (lv' := [(2, .int p0), (0, .ref (q 0)), (1, .int p0)]) hx hb dX1_standing_1 rfl hl (by decide) rfl (fun ls hl => ?_)
  refine lv_iconst (v := 0) hx hb dX1_standing_2 (by decide) ?_
  refine lv_istore_n (lv' := [(3, .int 0), (2, .int p0), (0, .ref (q 0)), (1, .int p0)]) hx hb dX1_standing_3 rfl hl (by decide) rfl (fun ls hl => ?_)
  have lp : ∀ (k : Nat) (x : Int32) (i : Nat) (ls : Array Slot), (i + k = 400) → (k_stL si 400 p0 = k_stL si k x) → lv_has ls 5 [(0, .ref (q 0)), (1, .int p0), (2, .int x), (3, .int (nI i))] → W p l e (headSpec wsX1_standing ({ frames := 2, cells := 0, slots := 0, locals := 42 })).room s m ([.ref (q 0), .int p0] : List Value).toArray below meth c s.heap [] 0 0 (MQ below (vp_Si (fun r => r = k_stL si 400 p0)) ([.ref (q 0), .int p0] : List Value).toArray s 0 0 (fun _ => False)) (F0 m 4 ls []) := by
    intro k
    induction k with
    | zero =>
      intro x i ls hi hr9 hl
      refine lv_iload_n hx hb dX1_standing_4 rfl (lv_at hl 3 rfl) ?_
      refine lv_sipush (v := 400) hx hb dX1_standing_5 (by decide) ?_
      refine lv_icmp_ge (tgt := 56) hx hb dX1_standing_8 (by decide) (fun c_8 => ?_) (fun c_8 => ?_)
      · skip
        have c_8 : 400 ≤ i := (nI_leI (a := 400) (b := i) (by omega) (by omega)).mp c_8
        refine lv_iload_n hx hb dX1_standing_56 rfl (lv_at hl 2 rfl) ?_
        exact W.iret (v := x) hx hb hr (fun t ht _ => ⟨x, rfl, (by rw [hr9, k_stL]), ht⟩) (fun _ h9 => nomatch h9) dX1_standing_57
      · skip
        have c_8 : ¬ (400 ≤ i) := fun h9 => c_8 ((nI_leI (a := 400) (b := i) (by omega) (by omega)).mpr h9)
        exfalso; omega
    | succ k ih =>
      intro x i ls hi hr9 hl
      refine lv_iload_n hx hb dX1_standing_4 rfl (lv_at hl 3 rfl) ?_
      refine lv_sipush (v := 400) hx hb dX1_standing_5 (by decide) ?_
      refine lv_icmp_ge (tgt := 56) hx hb dX1_standing_8 (by decide) (fun c_8 => ?_) (fun c_8 => ?_)
      · skip
        have c_8 : 400 ≤ i := (nI_leI (a := 400) (b := i) (by omega) (by omega)).mp c_8
        exfalso; omega
      · skip
        have c_8 : ¬ (400 ≤ i) := fun h9 => c_8 ((nI_leI (a := 400) (b := i) (by omega) (by omega)).mpr h9)
        refine lv_aload_n hx hb dX1_standing_11 rfl (lv_at hl 0 rfl) ?_
        refine lv_iload_n hx hb dX1_standing_12 rfl (lv_at hl 2 rfl) ?_
        refine k_cRO (D := D) (κ := κ) (qc := (RX1, TX1, 10)) (ci := 1) (q0 := 0) ⟨hx, hb, hml, hown, hts⟩ (c_X1_isReplaced l D κ q so le gr ne si ou bo n om ob x (by omega) (by omega) (by omega)) (cwV 1 hts gX1_standing_X1_isReplaced rfl rfl rfl (by decide +kernel) ⟨Nat.le_of_ble_eq_true rfl, Nat.le_of_ble_eq_true rfl⟩) hK hP rfl rfl (As := [.int x]) (rest := []) rfl rfl hl.1 (Nat.le_of_ble_eq_true rfl) dX1_standing_13 ⟨Nat.le_of_ble_eq_true rfl, Nat.le_of_ble_eq_true rfl⟩ (fun r hr => ?_)
        subst hr
        refine lv_if_eq (tgt := 56) hx hb dX1_standing_16 (by decide) (fun c_16 => ?_) (fun c_16 => ?_)
        · skip
          refine lv_iload_n hx hb dX1_standing_56 rfl (lv_at hl 2 rfl) ?_
          exact W.iret (v := x) hx hb hr (fun t ht _ => ⟨x, rfl, (by rw [hr9, k_stL, if_pos c_16]), ht⟩) (fun _ h9 => nomatch h9) dX1_standing_57
        · skip
          refine lv_aload_n hx hb dX1_standing_19 rfl (lv_at hl 0 rfl) ?_
          refine va_get (D := D) (ci := 1) (v := .ref (q 5)) (C := RX1) (T := TX1) (N := 10) hx hb hts (iwX1_standing_1) hown hK.1 hP 0 rfl rfl 4 (by decide) (hts (.fieldLink RX1 29 "InverterGraphs$Graph" "standIns" "LInverterGraphs$Cells;") (by decide +kernel)) (fun _ h9 => h9) rfl dX1_standing_20 ?_
          refine lv_iload_n hx hb dX1_standing_23 rfl (lv_at hl 2 rfl) ?_
          refine k_cNS ⟨hx, hb, hml, hown, hts⟩ (c_X6_nodeOf l x) ⟨va_cnB 1 hts ggX1_standing_X6_nodeOf rfl rfl rfl hK.2.1 (hts (.initialized RX6) (by decide +kernel)) (by decide +kernel) ⟨Nat.le_of_ble_eq_true rfl, Nat.le_of_ble_eq_true rfl⟩, (hts (.static yX6_nodeOf) (by decide +kernel)), trivial⟩ (As := [.int x]) (rest := [.ref (q 5)]) rfl rfl hl.1 (Nat.le_of_ble_eq_true rfl) dX1_standing_24 ⟨Nat.le_of_ble_eq_true rfl, Nat.le_of_ble_eq_true rfl⟩ (fun r hr => ?_)
          subst hr
          refine k_cRO (D := D) (κ := κ) (qc := (RX0, TX0, 1)) (ci := 0) (q0 := 0) ⟨hx, hb, hml, hown, hts⟩ (c_X0_at l D κ (q 5) (q 12) 400 si (k_nodeOf x) (by omega)) (cwV 1 hts gX1_standing_X0_at rfl rfl rfl (by decide +kernel) ⟨Nat.le_of_ble_eq_true rfl, Nat.le_of_ble_eq_true rfl⟩) hK (hP.sub [5, 12] rfl) rfl rfl (As := [.int (k_nodeOf x)]) (rest := []) rfl rfl hl.1 (Nat.le_of_ble_eq_true rfl) dX1_standing_27 ⟨Nat.le_of_ble_eq_true rfl, Nat.le_of_ble_eq_true rfl⟩ (fun r hr => ?_)
          subst hr
          refine lv_istore (lv' := [(4, .int (k_cat 400 si (k_nodeOf x))), (0, .ref (q 0)), (1, .int p0), (2, .int x), (3, .int (nI i))]) hx hb dX1_standing_30 hl (by decide) rfl (fun ls hl => ?_)
          refine lv_iload_n hx hb dX1_standing_32 rfl (lv_at hl 3 rfl) ?_
          refine k_cNS ⟨hx, hb, hml, hown, hts⟩ (c_X6_isTurned l x) ⟨va_cnB 1 hts ggX1_standing_X6_isTurned rfl rfl rfl hK.2.2.2.2.1 (hts (.initialized RX6) (by decide +kernel)) (by decide +kernel) ⟨Nat.le_of_ble_eq_true rfl, Nat.le_of_ble_eq_true rfl⟩, (hts (.static yX6_isTurned) (by decide +kernel)), trivial⟩ (As := [.int x]) (rest := []) rfl rfl hl.1 (Nat.le_of_ble_eq_true rfl) dX1_standing_33 ⟨Nat.le_of_ble_eq_true rfl, Nat.le_of_ble_eq_true rfl⟩ (fun r hr => ?_)
          subst hr
          refine lv_if_eq (tgt := 47) hx hb dX1_standing_36 (by decide) (fun c_36 => ?_) (fun c_36 => ?_)
          · skip
            refine lv_iload hx hb dX1_standing_47 (lv_at hl 0 rfl) ?_
            refine lv_istore_n (lv' := [(2, .int (k_cat 400 si (k_nodeOf x))), (4, .int (k_cat 400 si (k_nodeOf x))), (0, .ref (q 0)), (1, .int p0), (3, .int (nI i))]) hx hb dX1_standing_49 rfl hl (by decide) rfl (fun ls hl => ?_)
            refine lv_iinc (v := nI (i + 1)) (lv' := [(3, .int (nI (i + 1))), (2, .int (k_cat 400 si (k_nodeOf x))), (4, .int (k_cat 400 si (k_nodeOf x))), (0, .ref (q 0)), (1, .int p0)]) hx hb dX1_standing_50 hl (k := 4) rfl (nI_1 _) (by decide) rfl (fun ls hl => ?_)
            refine lv_goto (tgt := 4) hx hb dX1_standing_53 (by decide) ?_
            exact ih (k_cat 400 si (k_nodeOf x)) (i + 1) ls (by omega) (by rw [hr9, k_stL, if_neg c_16, k_stS, if_pos c_36]) (lv_sub hl [3, 4, 1, 0] rfl)
          · skip
            refine lv_iload hx hb dX1_standing_39 (lv_at hl 0 rfl) ?_
            refine k_cNS ⟨hx, hb, hml, hown, hts⟩ (c_X6_turned l (k_cat 400 si (k_nodeOf x))) ⟨va_cnB 1 hts ggX1_standing_X6_turned rfl rfl rfl hK.2.2.1 (hts (.initialized RX6) (by decide +kernel)) (by decide +kernel) ⟨Nat.le_of_ble_eq_true rfl, Nat.le_of_ble_eq_true rfl⟩, (hts (.static yX6_turned) (by decide +kernel)), trivial⟩ (As := [.int (k_cat 400 si (k_nodeOf x))]) (rest := []) rfl rfl hl.1 (Nat.le_of_ble_eq_true rfl) dX1_standing_41 ⟨Nat.le_of_ble_eq_true rfl, Nat.le_of_ble_eq_true rfl⟩ (fun r hr => ?_)
            subst hr
            refine lv_goto (tgt := 49) hx hb dX1_standing_44 (by decide) ?_
            refine lv_istore_n (lv' := [(2, .int (k_turned (k_cat 400 si (k_nodeOf x)))), (4, .int (k_cat 400 si (k_nodeOf x))), (0, .ref (q 0)), (1, .int p0), (3, .int (nI i))]) hx hb dX1_standing_49 rfl hl (by decide) rfl (fun ls hl => ?_)
            refine lv_iinc (v := nI (i + 1)) (lv' := [(3, .int (nI (i + 1))), (2, .int (k_turned (k_cat 400 si (k_nodeOf x)))), (4, .int (k_cat 400 si (k_nodeOf x))), (0, .ref (q 0)), (1, .int p0)]) hx hb dX1_standing_50 hl (k := 4) rfl (nI_1 _) (by decide) rfl (fun ls hl => ?_)
            refine lv_goto (tgt := 4) hx hb dX1_standing_53 (by decide) ?_
            exact ih (k_turned (k_cat 400 si (k_nodeOf x))) (i + 1) ls (by omega) (by rw [hr9, k_stL, if_neg c_16, k_stS, if_neg c_36]) (lv_sub hl [3, 4, 1, 0] rfl)
  exact lp 400 p0 0 ls (by omega) rfl (lv_sub hl [2, 3, 1, 0] rfl)
theorem iwX1_addNode_1 : ∀ w ∈ wsX10, w ∈ wsX1_addNode := by decide +kernel
set_option maxHeartbeats 4000000 in
set_option maxRecDepth 100000 in
theorem c_X1_addNode (l : Launch) (D : va_G) (κ : Nat → ClassId) (sz : Nat) (q : Nat → Nat) (so le gr ne si ou bo : Nat → Int32) (n om ob : Nat) (p0 : Int32) (hn : n ≤ 400) (hom : om ≤ 40) (hob : ob ≤ om) : k_mui (S := Unit) l yX1_addNode wsX1_addNode 1 22 0 0 D κ [.ref (q 0), .int p0] (wG κ q so le gr ne si ou bo n om ob) sz (fun r _ => r = nI n) (fun u => wG κ q (k_cpt 400 so (nI n) p0) (k_cpt 400 le (nI n) (-1)) (k_cpt 400 gr (nI n) (-1)) (k_cpt 400 ne (nI n) (-1)) (k_cpt 400 si (nI n) (-1)) ou bo (n + 1) om ob) := by
  refine Met.ofW (cc := cX1_addNode) (maxL := 3) (ret := (some .int)) (by decide) rfl ?_
  intro p e s m args below meth c s₁ B hml hv
  obtain ⟨rfl, hsz, hK, hP, hD0⟩ := hv
  have hx := B.exec
  have hb := B.bytes
  have hr := B.returns
  have hts := atoms_spec (ws := wsX1_addNode) B.pre
  have hown : s.vm.findClass RX1 = some m.cls := findClass_of_methodNamed B.named
  have hlocks := B.notSynchronized
  subst hsz
  have hD := hD0.self (sz := s.heap.size)
  generalize hAe : va_A (wG κ q so le gr ne si ou bo n om ob) s.heap.size = A at hD ⊢
  have hA : ∀ q : Nat, s.heap.size ≤ q → A q := fun q h => by rw [← hAe]; exact Or.inr h
  have hS : va_S A s.heap s.heap [] := va_S.rf
  have hP : va_P D vwCl (wG κ q so le gr ne si ou bo n om ob) s.heap := hP
  have hl := lv_entry ([.ref (q 0), .int p0]) (n := 3) (Nat.le_of_ble_eq_true rfl)
  rw [lg_entry_eq]
  generalize (lg_sl ([.ref (q 0), .int p0]) ++ List.replicate (3 - (lg_sl ([.ref (q 0), .int p0])).length) Slot.unset).toArray = ls at hl ⊢
  have hl : lv_has ls 3 [(0, .ref (q 0)), (1, .int p0)] := hl
  refine lv_aload_n hx hb dX1_addNode_0 rfl (lv_at hl 0 rfl) ?_
  refine va_get (D := D) (ci := 1) (v := .int (nI n)) (C := RX1) (T := TX1) (N := 10) hx hb hts (iwX1_addNode_1) hown hK.1 hP 0 rfl rfl 7 (by decide) (hts (.fieldLink RX1 46 "InverterGraphs$Graph" "nodes" "I") (by decide +kernel)) (fun _ h9 => h9) rfl dX1_addNode_1 ?_
  refine lv_istore_n (lv' := [(2, .int (nI n)), (0, .ref (q 0)), (1, .int p0)]) hx hb dX1_addNode_4 rfl hl (by decide) rfl (fun ls hl => ?_)
  refine lv_aload_n hx hb dX1_addNode_5 rfl (lv_at hl 1 rfl) ?_
  refine va_get (D := D) (ci := 1) (v := .ref (q 1)) (C := RX1) (T := TX1) (N := 10) hx hb hts (iwX1_addNode_1) hown hK.1 hP 0 rfl rfl 0 (by decide) (hts (.fieldLink RX1 14 "InverterGraphs$Graph" "sorts" "LInverterGraphs$Cells;") (by decide +kernel)) (fun _ h9 => h9) rfl dX1_addNode_6 ?_
  refine lv_iload_n hx hb dX1_addNode_9 rfl (lv_at hl 0 rfl) ?_
  refine lv_iload_n hx hb dX1_addNode_10 rfl (lv_at hl 2 rfl) ?_
  refine k_cMUv (D := D) (κ := κ) (qc := (RX0, TX0, 1)) (ci := 0) (q0 := 0) (wn := fun _ => wG κ q (k_cpt 400 so (nI n) p0) le gr ne si ou bo n om ob) ⟨hx, hb, hml, hown, hts⟩ (c_X0_put l D κ _ (q 1) (q 8) 400 so (nI n) p0 (by omega)) (cwV 2 hts gX1_addNode_X0_put rfl rfl rfl (by decide +kernel) ⟨Nat.le_of_ble_eq_true rfl, Nat.le_of_ble_eq_true rfl⟩) hK hP hD hS hA [1, 8] (by decide) rfl rfl rfl (fun _ => rfl) (fun _ => rfl) (As := [.int (nI n), .int p0]) (rest := []) rfl rfl hl.1 (Nat.le_of_ble_eq_true rfl) dX1_addNode_11 ⟨Nat.le_of_ble_eq_true rfl, Nat.le_of_ble_eq_true rfl⟩ (fun _ H locs hw9 hP hD hS => ?_)
  refine lv_aload_n hx hb dX1_addNode_14 rfl (lv_at hl 1 rfl) ?_
  refine va_get (D := D) (ci := 1) (v := .ref (q 2)) (C := RX1) (T := TX1) (N := 10) hx hb hts (iwX1_addNode_1) hown hK.1 hP 0 rfl rfl 1 (by decide) (hts (.fieldLink RX1 20 "InverterGraphs$Graph" "lessers" "LInverterGraphs$Cells;") (by decide +kernel)) (fun _ h9 => h9) rfl dX1_addNode_15 ?_
  refine lv_iload_n hx hb dX1_addNode_18 rfl (lv_at hl 0 rfl) ?_
  refine lv_iconst (v := (-1)) hx hb dX1_addNode_19 (by decide) ?_
  refine k_cMUv (D := D) (κ := κ) (qc := (RX0, TX0, 1)) (ci := 0) (q0 := 0) (wn := fun _ => wG κ q (k_cpt 400 so (nI n) p0) (k_cpt 400 le (nI n) (-1)) gr ne si ou bo n om ob) ⟨hx, hb, hml, hown, hts⟩ (c_X0_put l D κ _ (q 2) (q 9) 400 le (nI n) (-1) (by omega)) (cwV 2 hts gX1_addNode_X0_put rfl rfl rfl (by decide +kernel) ⟨Nat.le_of_ble_eq_true rfl, Nat.le_of_ble_eq_true rfl⟩) hK hP hD hS hA [2, 9] (by decide) rfl rfl rfl (fun _ => rfl) (fun _ => rfl) (As := [.int (nI n), .int (-1)]) (rest := []) rfl rfl hl.1 (Nat.le_of_ble_eq_true rfl) dX1_addNode_20 ⟨Nat.le_of_ble_eq_true rfl, Nat.le_of_ble_eq_true rfl⟩ (fun _ H locs hw9 hP hD hS => ?_)
  refine lv_aload_n hx hb dX1_addNode_23 rfl (lv_at hl 1 rfl) ?_
  refine va_get (D := D) (ci := 1) (v := .ref (q 3)) (C := RX1) (T := TX1) (N := 10) hx hb hts (iwX1_addNode_1) hown hK.1 hP 0 rfl rfl 2 (by decide) (hts (.fieldLink RX1 23 "InverterGraphs$Graph" "greaters" "LInverterGraphs$Cells;") (by decide +kernel)) (fun _ h9 => h9) rfl dX1_addNode_24 ?_
  refine lv_iload_n hx hb dX1_addNode_27 rfl (lv_at hl 0 rfl) ?_
  refine lv_iconst (v := (-1)) hx hb dX1_addNode_28 (by decide) ?_
  refine k_cMUv (D := D) (κ := κ) (qc := (RX0, TX0, 1)) (ci := 0) (q0 := 0) (wn := fun _ => wG κ q (k_cpt 400 so (nI n) p0) (k_cpt 400 le (nI n) (-1)) (k_cpt 400 gr (nI n) (-1)) ne si ou bo n om ob) ⟨hx, hb, hml, hown, hts⟩ (c_X0_put l D κ _ (q 3) (q 10) 400 gr (nI n) (-1) (by omega)) (cwV 2 hts gX1_addNode_X0_put rfl rfl rfl (by decide +kernel) ⟨Nat.le_of_ble_eq_true rfl, Nat.le_of_ble_eq_true rfl⟩) hK hP hD hS hA [3, 10] (by decide) rfl rfl rfl (fun _ => rfl) (fun _ => rfl) (As := [.int (nI n), .int (-1)]) (rest := []) rfl rfl hl.1 (Nat.le_of_ble_eq_true rfl) dX1_addNode_29 ⟨Nat.le_of_ble_eq_true rfl, Nat.le_of_ble_eq_true rfl⟩ (fun _ H locs hw9 hP hD hS => ?_)
  refine lv_aload_n hx hb dX1_addNode_32 rfl (lv_at hl 1 rfl) ?_
  refine va_get (D := D) (ci := 1) (v := .ref (q 4)) (C := RX1) (T := TX1) (N := 10) hx hb hts (iwX1_addNode_1) hown hK.1 hP 0 rfl rfl 3 (by decide) (hts (.fieldLink RX1 26 "InverterGraphs$Graph" "nexts" "LInverterGraphs$Cells;") (by decide +kernel)) (fun _ h9 => h9) rfl dX1_addNode_33 ?_
  refine lv_iload_n hx hb dX1_addNode_36 rfl (lv_at hl 0 rfl) ?_
  refine lv_iconst (v := (-1)) hx hb dX1_addNode_37 (by decide) ?_
  refine k_cMUv (D := D) (κ := κ) (qc := (RX0, TX0, 1)) (ci := 0) (q0 := 0) (wn := fun _ => wG κ q (k_cpt 400 so (nI n) p0) (k_cpt 400 le (nI n) (-1)) (k_cpt 400 gr (nI n) (-1)) (k_cpt 400 ne (nI n) (-1)) si ou bo n om ob) ⟨hx, hb, hml, hown, hts⟩ (c_X0_put l D κ _ (q 4) (q 11) 400 ne (nI n) (-1) (by omega)) (cwV 2 hts gX1_addNode_X0_put rfl rfl rfl (by decide +kernel) ⟨Nat.le_of_ble_eq_true rfl, Nat.le_of_ble_eq_true rfl⟩) hK hP hD hS hA [4, 11] (by decide) rfl rfl rfl (fun _ => rfl) (fun _ => rfl) (As := [.int (nI n), .int (-1)]) (rest := []) rfl rfl hl.1 (Nat.le_of_ble_eq_true rfl) dX1_addNode_38 ⟨Nat.le_of_ble_eq_true rfl, Nat.le_of_ble_eq_true rfl⟩ (fun _ H locs hw9 hP hD hS => ?_)
  refine lv_aload_n hx hb dX1_addNode_41 rfl (lv_at hl 1 rfl) ?_
  refine va_get (D := D) (ci := 1) (v := .ref (q 5)) (C := RX1) (T := TX1) (N := 10) hx hb hts (iwX1_addNode_1) hown hK.1 hP 0 rfl rfl 4 (by decide) (hts (.fieldLink RX1 29 "InverterGraphs$Graph" "standIns" "LInverterGraphs$Cells;") (by decide +kernel)) (fun _ h9 => h9) rfl dX1_addNode_42 ?_
  refine lv_iload_n hx hb dX1_addNode_45 rfl (lv_at hl 0 rfl) ?_
  refine lv_iconst (v := (-1)) hx hb dX1_addNode_46 (by decide) ?_
  refine k_cMUv (D := D) (κ := κ) (qc := (RX0, TX0, 1)) (ci := 0) (q0 := 0) (wn := fun _ => wG κ q (k_cpt 400 so (nI n) p0) (k_cpt 400 le (nI n) (-1)) (k_cpt 400 gr (nI n) (-1)) (k_cpt 400 ne (nI n) (-1)) (k_cpt 400 si (nI n) (-1)) ou bo n om ob) ⟨hx, hb, hml, hown, hts⟩ (c_X0_put l D κ _ (q 5) (q 12) 400 si (nI n) (-1) (by omega)) (cwV 2 hts gX1_addNode_X0_put rfl rfl rfl (by decide +kernel) ⟨Nat.le_of_ble_eq_true rfl, Nat.le_of_ble_eq_true rfl⟩) hK hP hD hS hA [5, 12] (by decide) rfl rfl rfl (fun _ => rfl) (fun _ => rfl) (As := [.int (nI n), .int (-1)]) (rest := []) rfl rfl hl.1 (Nat.le_of_ble_eq_true rfl) dX1_addNode_47 ⟨Nat.le_of_ble_eq_true rfl, Nat.le_of_ble_eq_true rfl⟩ (fun _ H locs hw9 hP hD hS => ?_)
  refine lv_aload_n hx hb dX1_addNode_50 rfl (lv_at hl 1 rfl) ?_
  refine lv_dup hx hb dX1_addNode_51 rfl ?_
  refine va_get (D := D) (ci := 1) (v := .int (nI n)) (C := RX1) (T := TX1) (N := 10) hx hb hts (iwX1_addNode_1) hown hK.1 hP 0 rfl rfl 7 (by decide) (hts (.fieldLink RX1 46 "InverterGraphs$Graph" "nodes" "I") (by decide +kernel)) (fun _ h9 => h9) rfl dX1_addNode_52 ?_
  refine lv_iconst (v := 1) hx hb dX1_addNode_55 (by decide) ?_
  refine lv_iadd hx hb dX1_addNode_56 ?_
  refine lv_topi (nm_r (nI_add n 1) ?_)
  refine va_put (D := D) (ci := 1) (v := .int (nI (n + 1))) (ty := .int) (C := RX1) (T := TX1) (N := 10) hx hb hts (iwX1_addNode_1) tyX1 tyX1_ok nmX1 hown hK.1 hP hD hS 0 rfl rfl 7 (by decide) (hts (.fieldLink RX1 46 "InverterGraphs$Graph" "nodes" "I") (by decide +kernel)) (fun _ h9 => h9) rfl (by decide +kernel) rfl rfl (Nat.le_of_ble_eq_true rfl) dX1_addNode_57 (fun H locs hP hD hS => ?_)
  have hP : va_P D vwCl (wG κ q (k_cpt 400 so (nI n) p0) (k_cpt 400 le (nI n) (-1)) (k_cpt 400 gr (nI n) (-1)) (k_cpt 400 ne (nI n) (-1)) (k_cpt 400 si (nI n) (-1)) ou bo (n + 1) om ob) H := hP
  have hD : va_D A (wG κ q (k_cpt 400 so (nI n) p0) (k_cpt 400 le (nI n) (-1)) (k_cpt 400 gr (nI n) (-1)) (k_cpt 400 ne (nI n) (-1)) (k_cpt 400 si (nI n) (-1)) ou bo (n + 1) om ob) := hD
  refine lv_iload_n hx hb dX1_addNode_60 rfl (lv_at hl 0 rfl) ?_
  exact W.iret (v := nI n) hx hb hr (fun t ht hW => ⟨⟨nI n, (), rfl, rfl, by rw [ht]; exact hP, hD⟩, hS.F ht⟩) hS.2.2 dX1_addNode_61
theorem iwX1_giveFanins_1 : ∀ w ∈ wsX10, w ∈ wsX1_giveFanins := by decide +kernel
set_option maxHeartbeats 4000000 in
set_option maxRecDepth 100000 in
theorem c_X1_giveFanins (l : Launch) (D : va_G) (κ : Nat → ClassId) (sz : Nat) (q : Nat → Nat) (so le gr ne si ou bo : Nat → Int32) (n om ob : Nat) (p0 p1 p2 : Int32) (hn : n ≤ 400) (hom : om ≤ 40) (hob : ob ≤ om) : k_muv (S := Unit) l yX1_giveFanins wsX1_giveFanins 1 22 0 0 D κ [.ref (q 0), .int p0, .int p1, .int p2] (wG κ q so le gr ne si ou bo n om ob) sz (fun _ => True) (fun u => wG κ q so (k_cpt 400 le p0 (k_min p1 p2)) (k_cpt 400 gr p0 (k_max p1 p2)) ne si ou bo n om ob) := by
  refine Met.ofW (cc := cX1_giveFanins) (maxL := 4) (ret := none) (by decide) rfl ?_
  intro p e s m args below meth c s₁ B hml hv
  obtain ⟨rfl, hsz, hK, hP, hD0⟩ := hv
  have hx := B.exec
  have hb := B.bytes
  have hr := B.returns
  have hts := atoms_spec (ws := wsX1_giveFanins) B.pre
  have hown : s.vm.findClass RX1 = some m.cls := findClass_of_methodNamed B.named
  have hlocks := B.notSynchronized
  subst hsz
  have hD := hD0.self (sz := s.heap.size)
  generalize hAe : va_A (wG κ q so le gr ne si ou bo n om ob) s.heap.size = A at hD ⊢
  have hA : ∀ q : Nat, s.heap.size ≤ q → A q := fun q h => by rw [← hAe]; exact Or.inr h
  have hS : va_S A s.heap s.heap [] := va_S.rf
  have hP : va_P D vwCl (wG κ q so le gr ne si ou bo n om ob) s.heap := hP
  have hl := lv_entry ([.ref (q 0), .int p0, .int p1, .int p2]) (n := 4) (Nat.le_of_ble_eq_true rfl)
  rw [lg_entry_eq]
  generalize (lg_sl ([.ref (q 0), .int p0, .int p1, .int p2]) ++ List.replicate (4 - (lg_sl ([.ref (q 0), .int p0, .int p1, .int p2])).length) Slot.unset).toArray = ls at hl ⊢
  have hl : lv_has ls 4 [(0, .ref (q 0)), (1, .int p0), (2, .int p1), (3, .int p2)] := hl
  refine lv_aload_n hx hb dX1_giveFanins_0 rfl (lv_at hl 0 rfl) ?_
  refine va_get (D := D) (ci := 1) (v := .ref (q 2)) (C := RX1) (T := TX1) (N := 10) hx hb hts (iwX1_giveFanins_1) hown hK.1 hP 0 rfl rfl 1 (by decide) (hts (.fieldLink RX1 20 "InverterGraphs$Graph" "lessers" "LInverterGraphs$Cells;") (by decide +kernel)) (fun _ h9 => h9) rfl dX1_giveFanins_1 ?_
  refine lv_iload_n hx hb dX1_giveFanins_4 rfl (lv_at hl 1 rfl) ?_
  refine lv_iload_n hx hb dX1_giveFanins_5 rfl (lv_at hl 2 rfl) ?_
  refine lv_iload_n hx hb dX1_giveFanins_6 rfl (lv_at hl 3 rfl) ?_
  refine va_mmin hx hb (by rw [hml]; exact hl.1.symm) hown (hts (.methodLink RX1 63 Lib.Math.min.name) (by decide +kernel)) (hts (.static Lib.Math.min.name) (by decide +kernel)) (hts (.initialized "java/lang/Math") (by decide +kernel)) (hts (.code Lib.Math.min.name Lib.Math.min.code 2 (some .int)) (by decide +kernel)) (Nat.le_of_ble_eq_true rfl) (Nat.le_of_ble_eq_true rfl) (Nat.le_of_ble_eq_true rfl) (Nat.le_of_ble_eq_true rfl) dX1_giveFanins_7 ?_
  refine k_cMUv (D := D) (κ := κ) (qc := (RX0, TX0, 1)) (ci := 0) (q0 := 0) (wn := fun _ => wG κ q so (k_cpt 400 le p0 (k_min p1 p2)) gr ne si ou bo n om ob) ⟨hx, hb, hml, hown, hts⟩ (c_X0_put l D κ _ (q 2) (q 9) 400 le p0 (k_min p1 p2) (by omega)) (cwV 2 hts gX1_giveFanins_X0_put rfl rfl rfl (by decide +kernel) ⟨Nat.le_of_ble_eq_true rfl, Nat.le_of_ble_eq_true rfl⟩) hK hP hD hS hA [2, 9] (by decide) rfl rfl rfl (fun _ => rfl) (fun _ => rfl) (As := [.int p0, .int (k_min p1 p2)]) (rest := []) rfl rfl hl.1 (Nat.le_of_ble_eq_true rfl) dX1_giveFanins_10 ⟨Nat.le_of_ble_eq_true rfl, Nat.le_of_ble_eq_true rfl⟩ (fun _ H locs hw9 hP hD hS => ?_)
  refine lv_aload_n hx hb dX1_giveFanins_13 rfl (lv_at hl 0 rfl) ?_
  refine va_get (D := D) (ci := 1) (v := .ref (q 3)) (C := RX1) (T := TX1) (N := 10) hx hb hts (iwX1_giveFanins_1) hown hK.1 hP 0 rfl rfl 2 (by decide) (hts (.fieldLink RX1 23 "InverterGraphs$Graph" "greaters" "LInverterGraphs$Cells;") (by decide +kernel)) (fun _ h9 => h9) rfl dX1_giveFanins_14 ?_
  refine lv_iload_n hx hb dX1_giveFanins_17 rfl (lv_at hl 1 rfl) ?_
  refine lv_iload_n hx hb dX1_giveFanins_18 rfl (lv_at hl 2 rfl) ?_
  refine lv_iload_n hx hb dX1_giveFanins_19 rfl (lv_at hl 3 rfl) ?_
  refine va_mmax hx hb (by rw [hml]; exact hl.1.symm) hown (hts (.methodLink RX1 69 Lib.Math.max.name) (by decide +kernel)) (hts (.static Lib.Math.max.name) (by decide +kernel)) (hts (.initialized "java/lang/Math") (by decide +kernel)) (hts (.code Lib.Math.max.name Lib.Math.max.code 2 (some .int)) (by decide +kernel)) (Nat.le_of_ble_eq_true rfl) (Nat.le_of_ble_eq_true rfl) (Nat.le_of_ble_eq_true rfl) (Nat.le_of_ble_eq_true rfl) dX1_giveFanins_20 ?_
  refine k_cMUv (D := D) (κ := κ) (qc := (RX0, TX0, 1)) (ci := 0) (q0 := 0) (wn := fun _ => wG κ q so (k_cpt 400 le p0 (k_min p1 p2)) (k_cpt 400 gr p0 (k_max p1 p2)) ne si ou bo n om ob) ⟨hx, hb, hml, hown, hts⟩ (c_X0_put l D κ _ (q 3) (q 10) 400 gr p0 (k_max p1 p2) (by omega)) (cwV 2 hts gX1_giveFanins_X0_put rfl rfl rfl (by decide +kernel) ⟨Nat.le_of_ble_eq_true rfl, Nat.le_of_ble_eq_true rfl⟩) hK hP hD hS hA [3, 10] (by decide) rfl rfl rfl (fun _ => rfl) (fun _ => rfl) (As := [.int p0, .int (k_max p1 p2)]) (rest := []) rfl rfl hl.1 (Nat.le_of_ble_eq_true rfl) dX1_giveFanins_23 ⟨Nat.le_of_ble_eq_true rfl, Nat.le_of_ble_eq_true rfl⟩ (fun _ H locs hw9 hP hD hS => ?_)
  exact W.vret hx hb hr (fun t ht hW => ⟨⟨(), rfl, trivial, by rw [ht]; exact hP, hD⟩, hS.F ht⟩) hS.2.2 dX1_giveFanins_26
theorem iwX1_giveNext_1 : ∀ w ∈ wsX10, w ∈ wsX1_giveNext := by decide +kernel
set_option maxHeartbeats 4000000 in
set_option maxRecDepth 100000 in
theorem c_X1_giveNext (l : Launch) (D : va_G) (κ : Nat → ClassId) (sz : Nat) (q : Nat → Nat) (so le gr ne si ou bo : Nat → Int32) (n om ob : Nat) (p0 p1 : Int32) (hn : n ≤ 400) (hom : om ≤ 40) (hob : ob ≤ om) : k_muv (S := Unit) l yX1_giveNext wsX1_giveNext 1 22 0 0 D κ [.ref (q 0), .int p0, .int p1] (wG κ q so le gr ne si ou bo n om ob) sz (fun _ => True) (fun u => wG κ q so le gr (k_cpt 400 ne p0 p1) si ou bo n om ob) := by
  refine Met.ofW (cc := cX1_giveNext) (maxL := 3) (ret := none) (by decide) rfl ?_
  intro p e s m args below meth c s₁ B hml hv
  obtain ⟨rfl, hsz, hK, hP, hD0⟩ := hv
  have hx := B.exec
  have hb := B.bytes
  have hr := B.returns
  have hts := atoms_spec (ws := wsX1_giveNext) B.pre
  have hown : s.vm.findClass RX1 = some m.cls := findClass_of_methodNamed B.named
  have hlocks := B.notSynchronized
  subst hsz
  have hD := hD0.self (sz := s.heap.size)
  generalize hAe : va_A (wG κ q so le gr ne si ou bo n om ob) s.heap.size = A at hD ⊢
  have hA : ∀ q : Nat, s.heap.size ≤ q → A q := fun q h => by rw [← hAe]; exact Or.inr h
  have hS : va_S A s.heap s.heap [] := va_S.rf
  have hP : va_P D vwCl (wG κ q so le gr ne si ou bo n om ob) s.heap := hP
  have hl := lv_entry ([.ref (q 0), .int p0, .int p1]) (n := 3) (Nat.le_of_ble_eq_true rfl)
  rw [lg_entry_eq]
  generalize (lg_sl ([.ref (q 0), .int p0, .int p1]) ++ List.replicate (3 - (lg_sl ([.ref (q 0), .int p0, .int p1])).length) Slot.unset).toArray = ls at hl ⊢
  have hl : lv_has ls 3 [(0, .ref (q 0)), (1, .int p0), (2, .int p1)] := hl
  refine lv_aload_n hx hb dX1_giveNext_0 rfl (lv_at hl 0 rfl) ?_
  refine va_get (D := D) (ci := 1) (v := .ref (q 4)) (C := RX1) (T := TX1) (N := 10) hx hb hts (iwX1_giveNext_1) hown hK.1 hP 0 rfl rfl 3 (by decide) (hts (.fieldLink RX1 26 "InverterGraphs$Graph" "nexts" "LInverterGraphs$Cells;") (by decide +kernel)) (fun _ h9 => h9) rfl dX1_giveNext_1 ?_
  refine lv_iload_n hx hb dX1_giveNext_4 rfl (lv_at hl 1 rfl) ?_
  refine lv_iload_n hx hb dX1_giveNext_5 rfl (lv_at hl 2 rfl) ?_
  refine k_cMUv (D := D) (κ := κ) (qc := (RX0, TX0, 1)) (ci := 0) (q0 := 0) (wn := fun _ => wG κ q so le gr (k_cpt 400 ne p0 p1) si ou bo n om ob) ⟨hx, hb, hml, hown, hts⟩ (c_X0_put l D κ _ (q 4) (q 11) 400 ne p0 p1 (by omega)) (cwV 2 hts gX1_giveNext_X0_put rfl rfl rfl (by decide +kernel) ⟨Nat.le_of_ble_eq_true rfl, Nat.le_of_ble_eq_true rfl⟩) hK hP hD hS hA [4, 11] (by decide) rfl rfl rfl (fun _ => rfl) (fun _ => rfl) (As := [.int p0, .int p1]) (rest := []) rfl rfl hl.1 (Nat.le_of_ble_eq_true rfl) dX1_giveNext_6 ⟨Nat.le_of_ble_eq_true rfl, Nat.le_of_ble_eq_true rfl⟩ (fun _ H locs hw9 hP hD hS => ?_)
  exact W.vret hx hb hr (fun t ht hW => ⟨⟨(), rfl, trivial, by rw [ht]; exact hP, hD⟩, hS.F ht⟩) hS.2.2 dX1_giveNext_9
theorem iwX1_makeGone_1 : ∀ w ∈ wsX10, w ∈ wsX1_makeGone := by decide +kernel
set_option maxHeartbeats 4000000 in
set_option maxRecDepth 100000 in
theorem c_X1_makeGone (l : Launch) (D : va_G) (κ : Nat → ClassId) (sz : Nat) (q : Nat → Nat) (so le gr ne si ou bo : Nat → Int32) (n om ob : Nat) (p0 p1 : Int32) (hn : n ≤ 400) (hom : om ≤ 40) (hob : ob ≤ om) : k_muv (S := Unit) l yX1_makeGone wsX1_makeGone 1 22 0 0 D κ [.ref (q 0), .int p0, .int p1] (wG κ q so le gr ne si ou bo n om ob) sz (fun _ => True) (fun u => wG κ q (k_cpt 400 so p0 5) (k_cpt 400 le p0 (-1)) (k_cpt 400 gr p0 (-1)) ne (k_cpt 400 si p0 p1) ou bo n om ob) := by
  refine Met.ofW (cc := cX1_makeGone) (maxL := 3) (ret := none) (by decide) rfl ?_
  intro p e s m args below meth c s₁ B hml hv
  obtain ⟨rfl, hsz, hK, hP, hD0⟩ := hv
  have hx := B.exec
  have hb := B.bytes
  have hr := B.returns
  have hts := atoms_spec (ws := wsX1_makeGone) B.pre
  have hown : s.vm.findClass RX1 = some m.cls := findClass_of_methodNamed B.named
  have hlocks := B.notSynchronized
  subst hsz
  have hD := hD0.self (sz := s.heap.size)
  generalize hAe : va_A (wG κ q so le gr ne si ou bo n om ob) s.heap.size = A at hD ⊢
  have hA : ∀ q : Nat, s.heap.size ≤ q → A q := fun q h => by rw [← hAe]; exact Or.inr h
  have hS : va_S A s.heap s.heap [] := va_S.rf
  have hP : va_P D vwCl (wG κ q so le gr ne si ou bo n om ob) s.heap := hP
  have hl := lv_entry ([.ref (q 0), .int p0, .int p1]) (n := 3) (Nat.le_of_ble_eq_true rfl)
  rw [lg_entry_eq]
  generalize (lg_sl ([.ref (q 0), .int p0, .int p1]) ++ List.replicate (3 - (lg_sl ([.ref (q 0), .int p0, .int p1])).length) Slot.unset).toArray = ls at hl ⊢
  have hl : lv_has ls 3 [(0, .ref (q 0)), (1, .int p0), (2, .int p1)] := hl
  refine lv_aload_n hx hb dX1_makeGone_0 rfl (lv_at hl 0 rfl) ?_
  refine va_get (D := D) (ci := 1) (v := .ref (q 1)) (C := RX1) (T := TX1) (N := 10) hx hb hts (iwX1_makeGone_1) hown hK.1 hP 0 rfl rfl 0 (by decide) (hts (.fieldLink RX1 14 "InverterGraphs$Graph" "sorts" "LInverterGraphs$Cells;") (by decide +kernel)) (fun _ h9 => h9) rfl dX1_makeGone_1 ?_
  refine lv_iload_n hx hb dX1_makeGone_4 rfl (lv_at hl 1 rfl) ?_
  refine lv_iconst (v := 5) hx hb dX1_makeGone_5 (by decide) ?_
  refine k_cMUv (D := D) (κ := κ) (qc := (RX0, TX0, 1)) (ci := 0) (q0 := 0) (wn := fun _ => wG κ q (k_cpt 400 so p0 5) le gr ne si ou bo n om ob) ⟨hx, hb, hml, hown, hts⟩ (c_X0_put l D κ _ (q 1) (q 8) 400 so p0 5 (by omega)) (cwV 2 hts gX1_makeGone_X0_put rfl rfl rfl (by decide +kernel) ⟨Nat.le_of_ble_eq_true rfl, Nat.le_of_ble_eq_true rfl⟩) hK hP hD hS hA [1, 8] (by decide) rfl rfl rfl (fun _ => rfl) (fun _ => rfl) (As := [.int p0, .int 5]) (rest := []) rfl rfl hl.1 (Nat.le_of_ble_eq_true rfl) dX1_makeGone_6 ⟨Nat.le_of_ble_eq_true rfl, Nat.le_of_ble_eq_true rfl⟩ (fun _ H locs hw9 hP hD hS => ?_)
  refine lv_aload_n hx hb dX1_makeGone_9 rfl (lv_at hl 0 rfl) ?_
  refine va_get (D := D) (ci := 1) (v := .ref (q 2)) (C := RX1) (T := TX1) (N := 10) hx hb hts (iwX1_makeGone_1) hown hK.1 hP 0 rfl rfl 1 (by decide) (hts (.fieldLink RX1 20 "InverterGraphs$Graph" "lessers" "LInverterGraphs$Cells;") (by decide +kernel)) (fun _ h9 => h9) rfl dX1_makeGone_10 ?_
  refine lv_iload_n hx hb dX1_makeGone_13 rfl (lv_at hl 1 rfl) ?_
  refine lv_iconst (v := (-1)) hx hb dX1_makeGone_14 (by decide) ?_
  refine k_cMUv (D := D) (κ := κ) (qc := (RX0, TX0, 1)) (ci := 0) (q0 := 0) (wn := fun _ => wG κ q (k_cpt 400 so p0 5) (k_cpt 400 le p0 (-1)) gr ne si ou bo n om ob) ⟨hx, hb, hml, hown, hts⟩ (c_X0_put l D κ _ (q 2) (q 9) 400 le p0 (-1) (by omega)) (cwV 2 hts gX1_makeGone_X0_put rfl rfl rfl (by decide +kernel) ⟨Nat.le_of_ble_eq_true rfl, Nat.le_of_ble_eq_true rfl⟩) hK hP hD hS hA [2, 9] (by decide) rfl rfl rfl (fun _ => rfl) (fun _ => rfl) (As := [.int p0, .int (-1)]) (rest := []) rfl rfl hl.1 (Nat.le_of_ble_eq_true rfl) dX1_makeGone_15 ⟨Nat.le_of_ble_eq_true rfl, Nat.le_of_ble_eq_true rfl⟩ (fun _ H locs hw9 hP hD hS => ?_)
  refine lv_aload_n hx hb dX1_makeGone_18 rfl (lv_at hl 0 rfl) ?_
  refine va_get (D := D) (ci := 1) (v := .ref (q 3)) (C := RX1) (T := TX1) (N := 10) hx hb hts (iwX1_makeGone_1) hown hK.1 hP 0 rfl rfl 2 (by decide) (hts (.fieldLink RX1 23 "InverterGraphs$Graph" "greaters" "LInverterGraphs$Cells;") (by decide +kernel)) (fun _ h9 => h9) rfl dX1_makeGone_19 ?_
  refine lv_iload_n hx hb dX1_makeGone_22 rfl (lv_at hl 1 rfl) ?_
  refine lv_iconst (v := (-1)) hx hb dX1_makeGone_23 (by decide) ?_
  refine k_cMUv (D := D) (κ := κ) (qc := (RX0, TX0, 1)) (ci := 0) (q0 := 0) (wn := fun _ => wG κ q (k_cpt 400 so p0 5) (k_cpt 400 le p0 (-1)) (k_cpt 400 gr p0 (-1)) ne si ou bo n om ob) ⟨hx, hb, hml, hown, hts⟩ (c_X0_put l D κ _ (q 3) (q 10) 400 gr p0 (-1) (by omega)) (cwV 2 hts gX1_makeGone_X0_put rfl rfl rfl (by decide +kernel) ⟨Nat.le_of_ble_eq_true rfl, Nat.le_of_ble_eq_true rfl⟩) hK hP hD hS hA [3, 10] (by decide) rfl rfl rfl (fun _ => rfl) (fun _ => rfl) (As := [.int p0, .int (-1)]) (rest := []) rfl rfl hl.1 (Nat.le_of_ble_eq_true rfl) dX1_makeGone_24 ⟨Nat.le_of_ble_eq_true rfl, Nat.le_of_ble_eq_true rfl⟩ (fun _ H locs hw9 hP hD hS => ?_)
  refine lv_aload_n hx hb dX1_makeGone_27 rfl (lv_at hl 0 rfl) ?_
  refine va_get (D := D) (ci := 1) (v := .ref (q 5)) (C := RX1) (T := TX1) (N := 10) hx hb hts (iwX1_makeGone_1) hown hK.1 hP 0 rfl rfl 4 (by decide) (hts (.fieldLink RX1 29 "InverterGraphs$Graph" "standIns" "LInverterGraphs$Cells;") (by decide +kernel)) (fun _ h9 => h9) rfl dX1_makeGone_28 ?_
  refine lv_iload_n hx hb dX1_makeGone_31 rfl (lv_at hl 1 rfl) ?_
  refine lv_iload_n hx hb dX1_makeGone_32 rfl (lv_at hl 2 rfl) ?_
  refine k_cMUv (D := D) (κ := κ) (qc := (RX0, TX0, 1)) (ci := 0) (q0 := 0) (wn := fun _ => wG κ q (k_cpt 400 so p0 5) (k_cpt 400 le p0 (-1)) (k_cpt 400 gr p0 (-1)) ne (k_cpt 400 si p0 p1) ou bo n om ob) ⟨hx, hb, hml, hown, hts⟩ (c_X0_put l D κ _ (q 5) (q 12) 400 si p0 p1 (by omega)) (cwV 2 hts gX1_makeGone_X0_put rfl rfl rfl (by decide +kernel) ⟨Nat.le_of_ble_eq_true rfl, Nat.le_of_ble_eq_true rfl⟩) hK hP hD hS hA [5, 12] (by decide) rfl rfl rfl (fun _ => rfl) (fun _ => rfl) (As := [.int p0, .int p1]) (rest := []) rfl rfl hl.1 (Nat.le_of_ble_eq_true rfl) dX1_makeGone_33 ⟨Nat.le_of_ble_eq_true rfl, Nat.le_of_ble_eq_true rfl⟩ (fun _ H locs hw9 hP hD hS => ?_)
  exact W.vret hx hb hr (fun t ht hW => ⟨⟨(), rfl, trivial, by rw [ht]; exact hP, hD⟩, hS.F ht⟩) hS.2.2 dX1_makeGone_36
theorem iwX1_addOutput_1 : ∀ w ∈ wsX10, w ∈ wsX1_addOutput := by decide +kernel
set_option maxHeartbeats 4000000 in
set_option maxRecDepth 100000 in
theorem c_X1_addOutput (l : Launch) (D : va_G) (κ : Nat → ClassId) (sz : Nat) (q : Nat → Nat) (so le gr ne si ou bo : Nat → Int32) (n om ob : Nat) (p0 : Int32) (hn : n ≤ 400) (hom : om ≤ 40) (hob : ob ≤ om) : k_mui (S := Unit) l yX1_addOutput wsX1_addOutput 1 22 0 0 D κ [.ref (q 0), .int p0] (wG κ q so le gr ne si ou bo n om ob) sz (fun r _ => r = nI om) (fun u => wG κ q so le gr ne si (k_cpt 40 ou (nI om) p0) (k_cpt 40 bo (nI om) 0) n (om + 1) ob) := by
  refine Met.ofW (cc := cX1_addOutput) (maxL := 3) (ret := (some .int)) (by decide) rfl ?_
  intro p e s m args below meth c s₁ B hml hv
  obtain ⟨rfl, hsz, hK, hP, hD0⟩ := hv
  have hx := B.exec
  have hb := B.bytes
  have hr := B.returns
  have hts := atoms_spec (ws := wsX1_addOutput) B.pre
  have hown : s.vm.findClass RX1 = some m.cls := findClass_of_methodNamed B.named
  have hlocks := B.notSynchronized
  subst hsz
  have hD := hD0.self (sz := s.heap.size)
  generalize hAe : va_A (wG κ q so le gr ne si ou bo n om ob) s.heap.size = A at hD ⊢
  have hA : ∀ q : Nat, s.heap.size ≤ q → A q := fun q h => by rw [← hAe]; exact Or.inr h
  have hS : va_S A s.heap s.heap [] := va_S.rf
  have hP : va_P D vwCl (wG κ q so le gr ne si ou bo n om ob) s.heap := hP
  have hl := lv_entry ([.ref (q 0), .int p0]) (n := 3) (Nat.le_of_ble_eq_true rfl)
  rw [lg_entry_eq]
  generalize (lg_sl ([.ref (q 0), .int p0]) ++ List.replicate (3 - (lg_sl ([.ref (q 0), .int p0])).length) Slot.unset).toArray = ls at hl ⊢
  have hl : lv_has ls 3 [(0, .ref (q 0)), (1, .int p0)] := hl
  refine lv_aload_n hx hb dX1_addOutput_0 rfl (lv_at hl 0 rfl) ?_
  refine va_get (D := D) (ci := 1) (v := .int (nI om)) (C := RX1) (T := TX1) (N := 10) hx hb hts (iwX1_addOutput_1) hown hK.1 hP 0 rfl rfl 8 (by decide) (hts (.fieldLink RX1 50 "InverterGraphs$Graph" "outputsMade" "I") (by decide +kernel)) (fun _ h9 => h9) rfl dX1_addOutput_1 ?_
  refine lv_istore_n (lv' := [(2, .int (nI om)), (0, .ref (q 0)), (1, .int p0)]) hx hb dX1_addOutput_4 rfl hl (by decide) rfl (fun ls hl => ?_)
  refine lv_aload_n hx hb dX1_addOutput_5 rfl (lv_at hl 1 rfl) ?_
  refine va_get (D := D) (ci := 1) (v := .ref (q 6)) (C := RX1) (T := TX1) (N := 10) hx hb hts (iwX1_addOutput_1) hown hK.1 hP 0 rfl rfl 5 (by decide) (hts (.fieldLink RX1 32 "InverterGraphs$Graph" "outputs" "LInverterGraphs$Cells;") (by decide +kernel)) (fun _ h9 => h9) rfl dX1_addOutput_6 ?_
  refine lv_iload_n hx hb dX1_addOutput_9 rfl (lv_at hl 0 rfl) ?_
  refine lv_iload_n hx hb dX1_addOutput_10 rfl (lv_at hl 2 rfl) ?_
  refine k_cMUv (D := D) (κ := κ) (qc := (RX0, TX0, 1)) (ci := 0) (q0 := 0) (wn := fun _ => wG κ q so le gr ne si (k_cpt 40 ou (nI om) p0) bo n om ob) ⟨hx, hb, hml, hown, hts⟩ (c_X0_put l D κ _ (q 6) (q 13) 40 ou (nI om) p0 (by omega)) (cwV 2 hts gX1_addOutput_X0_put rfl rfl rfl (by decide +kernel) ⟨Nat.le_of_ble_eq_true rfl, Nat.le_of_ble_eq_true rfl⟩) hK hP hD hS hA [6, 13] (by decide) rfl rfl rfl (fun _ => rfl) (fun _ => rfl) (As := [.int (nI om), .int p0]) (rest := []) rfl rfl hl.1 (Nat.le_of_ble_eq_true rfl) dX1_addOutput_11 ⟨Nat.le_of_ble_eq_true rfl, Nat.le_of_ble_eq_true rfl⟩ (fun _ H locs hw9 hP hD hS => ?_)
  refine lv_aload_n hx hb dX1_addOutput_14 rfl (lv_at hl 1 rfl) ?_
  refine va_get (D := D) (ci := 1) (v := .ref (q 7)) (C := RX1) (T := TX1) (N := 10) hx hb hts (iwX1_addOutput_1) hown hK.1 hP 0 rfl rfl 6 (by decide) (hts (.fieldLink RX1 35 "InverterGraphs$Graph" "boxed" "LInverterGraphs$Cells;") (by decide +kernel)) (fun _ h9 => h9) rfl dX1_addOutput_15 ?_
  refine lv_iload_n hx hb dX1_addOutput_18 rfl (lv_at hl 0 rfl) ?_
  refine lv_iconst (v := 0) hx hb dX1_addOutput_19 (by decide) ?_
  refine k_cMUv (D := D) (κ := κ) (qc := (RX0, TX0, 1)) (ci := 0) (q0 := 0) (wn := fun _ => wG κ q so le gr ne si (k_cpt 40 ou (nI om) p0) (k_cpt 40 bo (nI om) 0) n om ob) ⟨hx, hb, hml, hown, hts⟩ (c_X0_put l D κ _ (q 7) (q 14) 40 bo (nI om) 0 (by omega)) (cwV 2 hts gX1_addOutput_X0_put rfl rfl rfl (by decide +kernel) ⟨Nat.le_of_ble_eq_true rfl, Nat.le_of_ble_eq_true rfl⟩) hK hP hD hS hA [7, 14] (by decide) rfl rfl rfl (fun _ => rfl) (fun _ => rfl) (As := [.int (nI om), .int 0]) (rest := []) rfl rfl hl.1 (Nat.le_of_ble_eq_true rfl) dX1_addOutput_20 ⟨Nat.le_of_ble_eq_true rfl, Nat.le_of_ble_eq_true rfl⟩ (fun _ H locs hw9 hP hD hS => ?_)
  refine lv_aload_n hx hb dX1_addOutput_23 rfl (lv_at hl 1 rfl) ?_
  refine lv_dup hx hb dX1_addOutput_24 rfl ?_
  refine va_get (D := D) (ci := 1) (v := .int (nI om)) (C := RX1) (T := TX1) (N := 10) hx hb hts (iwX1_addOutput_1) hown hK.1 hP 0 rfl rfl 8 (by decide) (hts (.fieldLink RX1 50 "InverterGraphs$Graph" "outputsMade" "I") (by decide +kernel)) (fun _ h9 => h9) rfl dX1_addOutput_25 ?_
  refine lv_iconst (v := 1) hx hb dX1_addOutput_28 (by decide) ?_
  refine lv_iadd hx hb dX1_addOutput_29 ?_
  refine lv_topi (nm_r (nI_add om 1) ?_)
  refine va_put (D := D) (ci := 1) (v := .int (nI (om + 1))) (ty := .int) (C := RX1) (T := TX1) (N := 10) hx hb hts (iwX1_addOutput_1) tyX1 tyX1_ok nmX1 hown hK.1 hP hD hS 0 rfl rfl 8 (by decide) (hts (.fieldLink RX1 50 "InverterGraphs$Graph" "outputsMade" "I") (by decide +kernel)) (fun _ h9 => h9) rfl (by decide +kernel) rfl rfl (Nat.le_of_ble_eq_true rfl) dX1_addOutput_30 (fun H locs hP hD hS => ?_)
  have hP : va_P D vwCl (wG κ q so le gr ne si (k_cpt 40 ou (nI om) p0) (k_cpt 40 bo (nI om) 0) n (om + 1) ob) H := hP
  have hD : va_D A (wG κ q so le gr ne si (k_cpt 40 ou (nI om) p0) (k_cpt 40 bo (nI om) 0) n (om + 1) ob) := hD
  refine lv_iload_n hx hb dX1_addOutput_33 rfl (lv_at hl 0 rfl) ?_
  exact W.iret (v := nI om) hx hb hr (fun t ht hW => ⟨⟨nI om, (), rfl, rfl, by rw [ht]; exact hP, hD⟩, hS.F ht⟩) hS.2.2 dX1_addOutput_34
theorem iwX1_boxLatest_1 : ∀ w ∈ wsX10, w ∈ wsX1_boxLatest := by decide +kernel
set_option maxHeartbeats 4000000 in
set_option maxRecDepth 100000 in
theorem c_X1_boxLatest (l : Launch) (D : va_G) (κ : Nat → ClassId) (sz : Nat) (q : Nat → Nat) (so le gr ne si ou bo : Nat → Int32) (n om ob : Nat) (p0 : Nat) (hn : n ≤ 400) (hom : om ≤ 40) (hob : ob ≤ om) (hp0 : p0 ≤ om - ob) : k_muv (S := Unit) l yX1_boxLatest wsX1_boxLatest 1 22 0 0 D κ [.ref (q 0), .int (nI p0)] (wG κ q so le gr ne si ou bo n om ob) sz (fun _ => True) (fun u => wG κ q so le gr ne si ou (k_bx bo (om - p0) om) n om (if 0 < p0 then om else ob)) := by
  refine Met.ofW (cc := cX1_boxLatest) (maxL := 3) (ret := none) (by decide) rfl ?_
  intro p e s m args below meth c s₁ B hml hv
  obtain ⟨rfl, hsz, hK, hP, hD0⟩ := hv
  have hx := B.exec
  have hb := B.bytes
  have hr := B.returns
  have hts := atoms_spec (ws := wsX1_boxLatest) B.pre
  have hown : s.vm.findClass RX1 = some m.cls := findClass_of_methodNamed B.named
  have hlocks := B.notSynchronized
  subst hsz
  have hD := hD0.self (sz := s.heap.size)
  generalize hAe : va_A (wG κ q so le gr ne si ou bo n om ob) s.heap.size = A at hD ⊢
  have hA : ∀ q : Nat, s.heap.size ≤ q → A q := fun q h => by rw [← hAe]; exact Or.inr h
  have hS : va_S A s.heap s.heap [] := va_S.rf
  have hP : va_P D vwCl (wG κ q so le gr ne si ou bo n om ob) s.heap := hP
  have hl := lv_entry ([.ref (q 0), .int (nI p0)]) (n := 3) (Nat.le_of_ble_eq_true rfl)
  rw [lg_entry_eq]
  generalize (lg_sl ([.ref (q 0), .int (nI p0)]) ++ List.replicate (3 - (lg_sl ([.ref (q 0), .int (nI p0)])).length) Slot.unset).toArray = ls at hl ⊢
  have hl : lv_has ls 3 [(0, .ref (q 0)), (1, .int (nI p0))] := hl
  refine lv_aload_n hx hb dX1_boxLatest_0 rfl (lv_at hl 0 rfl) ?_
  refine va_get (D := D) (ci := 1) (v := .int (nI om)) (C := RX1) (T := TX1) (N := 10) hx hb hts (iwX1_boxLatest_1) hown hK.1 hP 0 rfl rfl 8 (by decide) (hts (.fieldLink RX1 50 "InverterGraphs$Graph" "outputsMade" "I") (by decide +kernel)) (fun _ h9 => h9) rfl dX1_boxLatest_1 ?_
  refine lv_iload_n hx hb dX1_boxLatest_4 rfl (lv_at hl 1 rfl) ?_
  refine lv_isub hx hb dX1_boxLatest_5 ?_
  refine lv_topi (nm_r (pk_sub (a := om) (b := p0) (by omega)) ?_)
  refine lv_istore_n (lv' := [(2, .int (nI (om - p0))), (0, .ref (q 0)), (1, .int (nI p0))]) hx hb dX1_boxLatest_6 rfl hl (by decide) rfl (fun ls hl => ?_)
  have lp : ∀ (k i : Nat) (H : Heap) (locs : List Loc) (ls : Array Slot), (i + k = om) → (om - p0 ≤ i) → va_P D vwCl (wG κ q so le gr ne si ou (k_bx bo (om - p0) i) n om ob) H → va_D A (wG κ q so le gr ne si ou (k_bx bo (om - p0) i) n om ob) → va_S A s.heap H locs → lv_has ls 3 [(0, .ref (q 0)), (1, .int (nI p0)), (2, .int (nI i))] → W p l e (headSpec wsX1_boxLatest ({ frames := 1, cells := 0, slots := 0, locals := 22 })).room s m ([.ref (q 0), .int (nI p0)] : List Value).toArray below meth c H locs 0 0 (MQ below (va_Qv (S := Unit) (fun _ => True) (fun u => k_B D A (wG κ q so le gr ne si ou (k_bx bo (om - p0) om) n om (if 0 < p0 then om else ob))) A) ([.ref (q 0), .int (nI p0)] : List Value).toArray s 0 0 A) (F0 m 7 ls []) := by
    intro k
    induction k with
    | zero =>
      intro i H locs ls hi hj hP hD hS hl
      refine lv_iload_n hx hb dX1_boxLatest_7 rfl (lv_at hl 2 rfl) ?_
      refine lv_aload_n hx hb dX1_boxLatest_8 rfl (lv_at hl 0 rfl) ?_
      refine va_get (D := D) (ci := 1) (v := .int (nI om)) (C := RX1) (T := TX1) (N := 10) hx hb hts (iwX1_boxLatest_1) hown hK.1 hP 0 rfl rfl 8 (by decide) (hts (.fieldLink RX1 50 "InverterGraphs$Graph" "outputsMade" "I") (by decide +kernel)) (fun _ h9 => h9) rfl dX1_boxLatest_9 ?_
      refine lv_icmp_ge (tgt := 30) hx hb dX1_boxLatest_12 (by decide) (fun c_12 => ?_) (fun c_12 => ?_)
      · skip
        have c_12 : om ≤ i := (nI_leI (a := om) (b := i) (by omega) (by omega)).mp c_12
        have e9 : om = i := by omega
        subst e9
        refine lv_iload_n hx hb dX1_boxLatest_30 rfl (lv_at hl 1 rfl) ?_
        refine lv_if_le (tgt := 42) hx hb dX1_boxLatest_31 (by decide) (fun c_31 => ?_) (fun c_31 => ?_)
        · skip
          have c_31 : p0 ≤ 0 := (nI_leI (a := p0) (b := 0) (by omega) (by omega)).mp c_31
          rw [show (if 0 < p0 then om else ob) = ob from if_neg (by omega)]
          exact W.vret hx hb hr (fun t ht hW => ⟨⟨(), rfl, trivial, by rw [ht]; exact hP, hD⟩, hS.F ht⟩) hS.2.2 dX1_boxLatest_42
        · skip
          have c_31 : ¬ (p0 ≤ 0) := fun h9 => c_31 ((nI_leI (a := p0) (b := 0) (by omega) (by omega)).mpr h9)
          refine lv_aload_n hx hb dX1_boxLatest_34 rfl (lv_at hl 0 rfl) ?_
          refine lv_aload_n hx hb dX1_boxLatest_35 rfl (lv_at hl 0 rfl) ?_
          refine va_get (D := D) (ci := 1) (v := .int (nI om)) (C := RX1) (T := TX1) (N := 10) hx hb hts (iwX1_boxLatest_1) hown hK.1 hP 0 rfl rfl 8 (by decide) (hts (.fieldLink RX1 50 "InverterGraphs$Graph" "outputsMade" "I") (by decide +kernel)) (fun _ h9 => h9) rfl dX1_boxLatest_36 ?_
          refine va_put (D := D) (ci := 1) (v := .int (nI om)) (ty := .int) (C := RX1) (T := TX1) (N := 10) hx hb hts (iwX1_boxLatest_1) tyX1 tyX1_ok nmX1 hown hK.1 hP hD hS 0 rfl rfl 9 (by decide) (hts (.fieldLink RX1 53 "InverterGraphs$Graph" "outputsUpToBoxed" "I") (by decide +kernel)) (fun _ h9 => h9) rfl (by decide +kernel) rfl rfl (Nat.le_of_ble_eq_true rfl) dX1_boxLatest_39 (fun H locs hP hD hS => ?_)
          have hP : va_P D vwCl (wG κ q so le gr ne si ou (k_bx bo (om - p0) om) n om om) H := hP
          have hD : va_D A (wG κ q so le gr ne si ou (k_bx bo (om - p0) om) n om om) := hD
          rw [show (if 0 < p0 then om else ob) = om from if_pos (by omega)]
          exact W.vret hx hb hr (fun t ht hW => ⟨⟨(), rfl, trivial, by rw [ht]; exact hP, hD⟩, hS.F ht⟩) hS.2.2 dX1_boxLatest_42
      · skip
        have c_12 : ¬ (om ≤ i) := fun h9 => c_12 ((nI_leI (a := om) (b := i) (by omega) (by omega)).mpr h9)
        exfalso; omega
    | succ k ih =>
      intro i H locs ls hi hj hP hD hS hl
      refine lv_iload_n hx hb dX1_boxLatest_7 rfl (lv_at hl 2 rfl) ?_
      refine lv_aload_n hx hb dX1_boxLatest_8 rfl (lv_at hl 0 rfl) ?_
      refine va_get (D := D) (ci := 1) (v := .int (nI om)) (C := RX1) (T := TX1) (N := 10) hx hb hts (iwX1_boxLatest_1) hown hK.1 hP 0 rfl rfl 8 (by decide) (hts (.fieldLink RX1 50 "InverterGraphs$Graph" "outputsMade" "I") (by decide +kernel)) (fun _ h9 => h9) rfl dX1_boxLatest_9 ?_
      refine lv_icmp_ge (tgt := 30) hx hb dX1_boxLatest_12 (by decide) (fun c_12 => ?_) (fun c_12 => ?_)
      · skip
        have c_12 : om ≤ i := (nI_leI (a := om) (b := i) (by omega) (by omega)).mp c_12
        exfalso; omega
      · skip
        have c_12 : ¬ (om ≤ i) := fun h9 => c_12 ((nI_leI (a := om) (b := i) (by omega) (by omega)).mpr h9)
        refine lv_aload_n hx hb dX1_boxLatest_15 rfl (lv_at hl 0 rfl) ?_
        refine va_get (D := D) (ci := 1) (v := .ref (q 7)) (C := RX1) (T := TX1) (N := 10) hx hb hts (iwX1_boxLatest_1) hown hK.1 hP 0 rfl rfl 6 (by decide) (hts (.fieldLink RX1 35 "InverterGraphs$Graph" "boxed" "LInverterGraphs$Cells;") (by decide +kernel)) (fun _ h9 => h9) rfl dX1_boxLatest_16 ?_
        refine lv_iload_n hx hb dX1_boxLatest_19 rfl (lv_at hl 2 rfl) ?_
        refine lv_iconst (v := 1) hx hb dX1_boxLatest_20 (by decide) ?_
        refine k_cMUv (D := D) (κ := κ) (qc := (RX0, TX0, 1)) (ci := 0) (q0 := 0) (wn := fun _ => wG κ q so le gr ne si ou (k_cpt 40 (k_bx bo (om - p0) i) (nI i) 1) n om ob) ⟨hx, hb, hml, hown, hts⟩ (c_X0_put l D κ _ (q 7) (q 14) 40 (k_bx bo (om - p0) i) (nI i) 1 (by omega)) (cwV 2 hts gX1_boxLatest_X0_put rfl rfl rfl (by decide +kernel) ⟨Nat.le_of_ble_eq_true rfl, Nat.le_of_ble_eq_true rfl⟩) hK hP hD hS hA [7, 14] (by decide) rfl rfl rfl (fun _ => rfl) (fun _ => rfl) (As := [.int (nI i), .int 1]) (rest := []) rfl rfl hl.1 (Nat.le_of_ble_eq_true rfl) dX1_boxLatest_21 ⟨Nat.le_of_ble_eq_true rfl, Nat.le_of_ble_eq_true rfl⟩ (fun _ H locs hw9 hP hD hS => ?_)
        refine lv_iinc (v := nI (i + 1)) (lv' := [(2, .int (nI (i + 1))), (0, .ref (q 0)), (1, .int (nI p0))]) hx hb dX1_boxLatest_24 hl (k := 2) rfl (nI_1 _) (by decide) rfl (fun ls hl => ?_)
        refine lv_goto (tgt := 7) hx hb dX1_boxLatest_27 (by decide) ?_
        exact ih (i + 1) H locs ls (by omega) (by omega) (by rw [← k_bx_s bo hj (by omega)]; exact hP) (by rw [← k_bx_s bo hj (by omega)]; exact hD) hS (lv_sub hl [1, 2, 0] rfl)
  exact lp p0 (om - p0) _ _ ls (by omega) (by omega) (by rw [k_bx_0]; exact hP) (by rw [k_bx_0]; exact hD) hS (lv_sub hl [1, 2, 0] rfl)
theorem iwX1_renew_1 : ∀ w ∈ wsX10, w ∈ wsX1_renew := by decide +kernel
set_option maxHeartbeats 4000000 in
set_option maxRecDepth 100000 in
theorem c_X1_renew (l : Launch) (D : va_G) (κ : Nat → ClassId) (sz : Nat) (q : Nat → Nat) (so le gr ne si ou bo : Nat → Int32) (n om ob : Nat) (p0 : Int32) (hn : n ≤ 400) (hom : om ≤ 40) (hob : ob ≤ om) : k_mui (S := KG) l yX1_renew wsX1_renew 3 68 0 0 D κ [.ref (q 0), .int p0] (wG κ q so le gr ne si ou bo n om ob) sz (fun r u => r = k_reR n p0 (so, le, gr, si) ∧ u = k_reG n p0 (so, le, gr, si)) (fun u => wG κ q u.1 u.2.1 u.2.2.1 ne u.2.2.2 ou bo n om ob) := by
  refine Met.ofW (cc := cX1_renew) (maxL := 5) (ret := (some .boolean)) (by decide) rfl ?_
  intro p e s m args below meth c s₁ B hml hv
  obtain ⟨rfl, hsz, hK, hP, hD0⟩ := hv
  have hx := B.exec
  have hb := B.bytes
  have hr := B.returns
  have hts := atoms_spec (ws := wsX1_renew) B.pre
  have hown : s.vm.findClass RX1 = some m.cls := findClass_of_methodNamed B.named
  have hlocks := B.notSynchronized
  subst hsz
  have hD := hD0.self (sz := s.heap.size)
  generalize hAe : va_A (wG κ q so le gr ne si ou bo n om ob) s.heap.size = A at hD ⊢
  have hA : ∀ q : Nat, s.heap.size ≤ q → A q := fun q h => by rw [← hAe]; exact Or.inr h
  have hS : va_S A s.heap s.heap [] := va_S.rf
  have hP : va_P D vwCl (wG κ q so le gr ne si ou bo n om ob) s.heap := hP
  have hl := lv_entry ([.ref (q 0), .int p0]) (n := 5) (Nat.le_of_ble_eq_true rfl)
  rw [lg_entry_eq]
  generalize (lg_sl ([.ref (q 0), .int p0]) ++ List.replicate (5 - (lg_sl ([.ref (q 0), .int p0])).length) Slot.unset).toArray = ls at hl ⊢
  have hl : lv_has ls 5 [(0, .ref (q 0)), (1, .int p0)] := hl
  refine lv_aload_n hx hb dX1_renew_0 rfl (lv_at hl 0 rfl) ?_
  refine lv_aload_n hx hb dX1_renew_1 rfl (lv_at hl 0 rfl) ?_
  refine va_get (D := D) (ci := 1) (v := .ref (q 2)) (C := RX1) (T := TX1) (N := 10) hx hb hts (iwX1_renew_1) hown hK.1 hP 0 rfl rfl 1 (by decide) (hts (.fieldLink RX1 20 "InverterGraphs$Graph" "lessers" "LInverterGraphs$Cells;") (by decide +kernel)) (fun _ h9 => h9) rfl dX1_renew_2 ?_
  refine lv_iload_n hx hb dX1_renew_5 rfl (lv_at hl 1 rfl) ?_
  refine k_cRO (D := D) (κ := κ) (qc := (RX0, TX0, 1)) (ci := 0) (q0 := 0) ⟨hx, hb, hml, hown, hts⟩ (c_X0_at l D κ (q 2) (q 9) 400 le p0 (by omega)) (cwV 1 hts gX1_renew_X0_at rfl rfl rfl (by decide +kernel) ⟨Nat.le_of_ble_eq_true rfl, Nat.le_of_ble_eq_true rfl⟩) hK (hP.sub [2, 9] rfl) rfl rfl (As := [.int p0]) (rest := [.ref (q 0)]) rfl rfl hl.1 (Nat.le_of_ble_eq_true rfl) dX1_renew_6 ⟨Nat.le_of_ble_eq_true rfl, Nat.le_of_ble_eq_true rfl⟩ (fun r hr => ?_)
  subst hr
  refine k_cRO (D := D) (κ := κ) (qc := (RX1, TX1, 10)) (ci := 1) (q0 := 0) ⟨hx, hb, hml, hown, hts⟩ (c_X1_standing l D κ q so le gr ne si ou bo n om ob (k_cat 400 le p0) (by omega) (by omega) (by omega)) (cwV 1 hts gX1_renew_X1_standing rfl rfl rfl (by decide +kernel) ⟨Nat.le_of_ble_eq_true rfl, Nat.le_of_ble_eq_true rfl⟩) hK hP rfl rfl (As := [.int (k_cat 400 le p0)]) (rest := []) rfl rfl hl.1 (Nat.le_of_ble_eq_true rfl) dX1_renew_9 ⟨Nat.le_of_ble_eq_true rfl, Nat.le_of_ble_eq_true rfl⟩ (fun r hr => ?_)
  subst hr
  refine lv_istore_n (lv' := [(2, .int (k_stL si 400 (k_cat 400 le p0))), (0, .ref (q 0)), (1, .int p0)]) hx hb dX1_renew_12 rfl hl (by decide) rfl (fun ls hl => ?_)
  refine lv_aload_n hx hb dX1_renew_13 rfl (lv_at hl 1 rfl) ?_
  refine lv_aload_n hx hb dX1_renew_14 rfl (lv_at hl 1 rfl) ?_
  refine va_get (D := D) (ci := 1) (v := .ref (q 3)) (C := RX1) (T := TX1) (N := 10) hx hb hts (iwX1_renew_1) hown hK.1 hP 0 rfl rfl 2 (by decide) (hts (.fieldLink RX1 23 "InverterGraphs$Graph" "greaters" "LInverterGraphs$Cells;") (by decide +kernel)) (fun _ h9 => h9) rfl dX1_renew_15 ?_
  refine lv_iload_n hx hb dX1_renew_18 rfl (lv_at hl 2 rfl) ?_
  refine k_cRO (D := D) (κ := κ) (qc := (RX0, TX0, 1)) (ci := 0) (q0 := 0) ⟨hx, hb, hml, hown, hts⟩ (c_X0_at l D κ (q 3) (q 10) 400 gr p0 (by omega)) (cwV 1 hts gX1_renew_X0_at rfl rfl rfl (by decide +kernel) ⟨Nat.le_of_ble_eq_true rfl, Nat.le_of_ble_eq_true rfl⟩) hK (hP.sub [3, 10] rfl) rfl rfl (As := [.int p0]) (rest := [.ref (q 0)]) rfl rfl hl.1 (Nat.le_of_ble_eq_true rfl) dX1_renew_19 ⟨Nat.le_of_ble_eq_true rfl, Nat.le_of_ble_eq_true rfl⟩ (fun r hr => ?_)
  subst hr
  refine k_cRO (D := D) (κ := κ) (qc := (RX1, TX1, 10)) (ci := 1) (q0 := 0) ⟨hx, hb, hml, hown, hts⟩ (c_X1_standing l D κ q so le gr ne si ou bo n om ob (k_cat 400 gr p0) (by omega) (by omega) (by omega)) (cwV 1 hts gX1_renew_X1_standing rfl rfl rfl (by decide +kernel) ⟨Nat.le_of_ble_eq_true rfl, Nat.le_of_ble_eq_true rfl⟩) hK hP rfl rfl (As := [.int (k_cat 400 gr p0)]) (rest := []) rfl rfl hl.1 (Nat.le_of_ble_eq_true rfl) dX1_renew_22 ⟨Nat.le_of_ble_eq_true rfl, Nat.le_of_ble_eq_true rfl⟩ (fun r hr => ?_)
  subst hr
  refine lv_istore_n (lv' := [(3, .int (k_stL si 400 (k_cat 400 gr p0))), (2, .int (k_stL si 400 (k_cat 400 le p0))), (0, .ref (q 0)), (1, .int p0)]) hx hb dX1_renew_25 rfl hl (by decide) rfl (fun ls hl => ?_)
  refine lv_aload_n hx hb dX1_renew_26 rfl (lv_at hl 2 rfl) ?_
  refine lv_iload_n hx hb dX1_renew_27 rfl (lv_at hl 1 rfl) ?_
  refine lv_iload_n hx hb dX1_renew_28 rfl (lv_at hl 0 rfl) ?_
  refine lv_iload_n hx hb dX1_renew_29 rfl (lv_at hl 3 rfl) ?_
  refine k_cRO (D := D) (κ := κ) (qc := (RX1, TX1, 10)) (ci := 1) (q0 := 0) ⟨hx, hb, hml, hown, hts⟩ (c_X1_knownAnd l D κ q so le gr ne si ou bo n om ob (k_stL si 400 (k_cat 400 le p0)) (k_stL si 400 (k_cat 400 gr p0)) p0 (by omega) (by omega) (by omega)) (cwV 3 hts gX1_renew_X1_knownAnd rfl rfl rfl (by decide +kernel) ⟨Nat.le_of_ble_eq_true rfl, Nat.le_of_ble_eq_true rfl⟩) hK hP rfl rfl (As := [.int (k_stL si 400 (k_cat 400 le p0)), .int (k_stL si 400 (k_cat 400 gr p0)), .int p0]) (rest := []) rfl rfl hl.1 (Nat.le_of_ble_eq_true rfl) dX1_renew_30 ⟨Nat.le_of_ble_eq_true rfl, Nat.le_of_ble_eq_true rfl⟩ (fun r hr => ?_)
  subst hr
  refine lv_istore (lv' := [(4, .int (k_known le gr n (k_stL si 400 (k_cat 400 le p0)) (k_stL si 400 (k_cat 400 gr p0)) p0)), (3, .int (k_stL si 400 (k_cat 400 gr p0))), (2, .int (k_stL si 400 (k_cat 400 le p0))), (0, .ref (q 0)), (1, .int p0)]) hx hb dX1_renew_33 hl (by decide) rfl (fun ls hl => ?_)
  refine lv_iload hx hb dX1_renew_35 (lv_at hl 0 rfl) ?_
  refine lv_iconst (v := (-1)) hx hb dX1_renew_37 (by decide) ?_
  have hKk : k_reK n p0 (so, le, gr, si) = k_known le gr n (k_stL si 400 (k_cat 400 le p0)) (k_stL si 400 (k_cat 400 gr p0)) p0 := rfl
  refine lv_icmp_eq (tgt := 50) hx hb dX1_renew_38 (by decide) (fun c_38 => ?_) (fun c_38 => ?_)
  · skip
    refine lv_aload_n hx hb dX1_renew_50 rfl (lv_at hl 3 rfl) ?_
    refine lv_iload_n hx hb dX1_renew_51 rfl (lv_at hl 4 rfl) ?_
    refine lv_iload_n hx hb dX1_renew_52 rfl (lv_at hl 2 rfl) ?_
    refine lv_iload_n hx hb dX1_renew_53 rfl (lv_at hl 1 rfl) ?_
    refine k_cMUv (D := D) (κ := κ) (qc := (RX1, TX1, 10)) (ci := 1) (q0 := 0) (wn := fun _ => wG κ q so (k_cpt 400 le p0 (k_min (k_stL si 400 (k_cat 400 le p0)) (k_stL si 400 (k_cat 400 gr p0)))) (k_cpt 400 gr p0 (k_max (k_stL si 400 (k_cat 400 le p0)) (k_stL si 400 (k_cat 400 gr p0)))) ne si ou bo n om ob) ⟨hx, hb, hml, hown, hts⟩ (c_X1_giveFanins l D κ _ q so le gr ne si ou bo n om ob p0 (k_stL si 400 (k_cat 400 le p0)) (k_stL si 400 (k_cat 400 gr p0)) (by omega) (by omega) (by omega)) (cwV 3 hts gX1_renew_X1_giveFanins rfl rfl rfl (by decide +kernel) ⟨Nat.le_of_ble_eq_true rfl, Nat.le_of_ble_eq_true rfl⟩) hK hP hD hS hA [0, 1, 2, 3, 4, 5, 6, 7, 8, 9, 10, 11, 12, 13, 14] (by decide) rfl rfl rfl (fun _ => rfl) (fun _ => rfl) (As := [.int p0, .int (k_stL si 400 (k_cat 400 le p0)), .int (k_stL si 400 (k_cat 400 gr p0))]) (rest := []) rfl rfl hl.1 (Nat.le_of_ble_eq_true rfl) dX1_renew_54 ⟨Nat.le_of_ble_eq_true rfl, Nat.le_of_ble_eq_true rfl⟩ (fun _ H locs hw9 hP hD hS => ?_)
    refine lv_iconst (v := 1) hx hb dX1_renew_57 (by decide) ?_
    exact W.zret (ty := .boolean) (v := 1) hx hb hr rfl (fun t ht hW => ⟨⟨1, (so, k_cpt 400 le p0 (k_min (k_stL si 400 (k_cat 400 le p0)) (k_stL si 400 (k_cat 400 gr p0))), k_cpt 400 gr p0 (k_max (k_stL si 400 (k_cat 400 le p0)) (k_stL si 400 (k_cat 400 gr p0))), si), rfl, ⟨by unfold k_reR; rw [if_pos (by rw [hKk]; exact c_38)], by unfold k_reG; rw [if_pos (by rw [hKk]; exact c_38)]; rfl⟩, by rw [ht]; exact hP, hD⟩, hS.F ht⟩) hS.2.2 dX1_renew_58
  · skip
    refine lv_aload_n hx hb dX1_renew_41 rfl (lv_at hl 3 rfl) ?_
    refine lv_iload_n hx hb dX1_renew_42 rfl (lv_at hl 4 rfl) ?_
    refine lv_iload hx hb dX1_renew_43 (lv_at hl 0 rfl) ?_
    refine k_cMUv (D := D) (κ := κ) (qc := (RX1, TX1, 10)) (ci := 1) (q0 := 0) (wn := fun _ => wG κ q (k_cpt 400 so p0 5) (k_cpt 400 le p0 (-1)) (k_cpt 400 gr p0 (-1)) ne (k_cpt 400 si p0 (k_known le gr n (k_stL si 400 (k_cat 400 le p0)) (k_stL si 400 (k_cat 400 gr p0)) p0)) ou bo n om ob) ⟨hx, hb, hml, hown, hts⟩ (c_X1_makeGone l D κ _ q so le gr ne si ou bo n om ob p0 (k_known le gr n (k_stL si 400 (k_cat 400 le p0)) (k_stL si 400 (k_cat 400 gr p0)) p0) (by omega) (by omega) (by omega)) (cwV 2 hts gX1_renew_X1_makeGone rfl rfl rfl (by decide +kernel) ⟨Nat.le_of_ble_eq_true rfl, Nat.le_of_ble_eq_true rfl⟩) hK hP hD hS hA [0, 1, 2, 3, 4, 5, 6, 7, 8, 9, 10, 11, 12, 13, 14] (by decide) rfl rfl rfl (fun _ => rfl) (fun _ => rfl) (As := [.int p0, .int (k_known le gr n (k_stL si 400 (k_cat 400 le p0)) (k_stL si 400 (k_cat 400 gr p0)) p0)]) (rest := []) rfl rfl hl.1 (Nat.le_of_ble_eq_true rfl) dX1_renew_45 ⟨Nat.le_of_ble_eq_true rfl, Nat.le_of_ble_eq_true rfl⟩ (fun _ H locs hw9 hP hD hS => ?_)
    refine lv_iconst (v := 0) hx hb dX1_renew_48 (by decide) ?_
    exact W.zret (ty := .boolean) (v := 0) hx hb hr rfl (fun t ht hW => ⟨⟨0, (k_cpt 400 so p0 5, k_cpt 400 le p0 (-1), k_cpt 400 gr p0 (-1), k_cpt 400 si p0 (k_known le gr n (k_stL si 400 (k_cat 400 le p0)) (k_stL si 400 (k_cat 400 gr p0)) p0)), rfl, ⟨by unfold k_reR; rw [if_neg (by rw [hKk]; exact c_38)], by unfold k_reG; rw [if_neg (by rw [hKk]; exact c_38)]; rfl⟩, by rw [ht]; exact hP, hD⟩, hS.F ht⟩) hS.2.2 dX1_renew_49
theorem k_lo_ex (le gr si : Nat → Int32) {k i n : Nat} (h : i + k ≤ n) : k_lo le gr si k i = -1 ∨ ∃ j, j < n ∧ k_lo le gr si k i = nI j := (k_lo_or le gr si k i).imp id (fun ⟨j, _, h2, h3⟩ => ⟨j, by omega, h3⟩)
theorem iwX1_replaceEverywhere_1 : ∀ w ∈ wsX10, w ∈ wsX1_replaceEverywhere := by decide +kernel
set_option maxHeartbeats 4000000 in
set_option maxRecDepth 100000 in
theorem c_X1_replaceEverywhere (l : Launch) (D : va_G) (κ : Nat → ClassId) (sz : Nat) (q : Nat → Nat) (so le gr ne si ou bo : Nat → Int32) (n om ob : Nat) (p0 p1 : Int32) (hn : n ≤ 400) (hom : om ≤ 40) (hob : ob ≤ om) : k_muv (S := KG) l yX1_replaceEverywhere wsX1_replaceEverywhere 4 92 0 0 D κ [.ref (q 0), .int p0, .int p1] (wG κ q so le gr ne si ou bo n om ob) sz (fun u => u = k_reL n 160000 (k_lo (k_gone p0 p1 (so, le, gr, si)).2.1 (k_gone p0 p1 (so, le, gr, si)).2.2.1 (k_gone p0 p1 (so, le, gr, si)).2.2.2 n 0) (k_gone p0 p1 (so, le, gr, si))) (fun u => wG κ q u.1 u.2.1 u.2.2.1 (k_stR 400 u.2.2.2 ne n) u.2.2.2 (k_stR 40 u.2.2.2 ou om) bo n om ob) := by
  refine Met.ofW (cc := cX1_replaceEverywhere) (maxL := 5) (ret := none) (by decide) rfl ?_
  intro p e s m args below meth c s₁ B hml hv
  obtain ⟨rfl, hsz, hK, hP, hD0⟩ := hv
  have hx := B.exec
  have hb := B.bytes
  have hr := B.returns
  have hts := atoms_spec (ws := wsX1_replaceEverywhere) B.pre
  have hown : s.vm.findClass RX1 = some m.cls := findClass_of_methodNamed B.named
  have hlocks := B.notSynchronized
  subst hsz
  have hD := hD0.self (sz := s.heap.size)
  generalize hAe : va_A (wG κ q so le gr ne si ou bo n om ob) s.heap.size = A at hD ⊢
  have hA : ∀ q : Nat, s.heap.size ≤ q → A q := fun q h => by rw [← hAe]; exact Or.inr h
  have hS : va_S A s.heap s.heap [] := va_S.rf
  have hP : va_P D vwCl (wG κ q so le gr ne si ou bo n om ob) s.heap := hP
  have hl := lv_entry ([.ref (q 0), .int p0, .int p1]) (n := 5) (Nat.le_of_ble_eq_true rfl)
  rw [lg_entry_eq]
  generalize (lg_sl ([.ref (q 0), .int p0, .int p1]) ++ List.replicate (5 - (lg_sl ([.ref (q 0), .int p0, .int p1])).length) Slot.unset).toArray = ls at hl ⊢
  have hl : lv_has ls 5 [(0, .ref (q 0)), (1, .int p0), (2, .int p1)] := hl
  refine lv_aload_n hx hb dX1_replaceEverywhere_0 rfl (lv_at hl 0 rfl) ?_
  refine lv_iload_n hx hb dX1_replaceEverywhere_1 rfl (lv_at hl 1 rfl) ?_
  refine lv_iload_n hx hb dX1_replaceEverywhere_2 rfl (lv_at hl 2 rfl) ?_
  refine k_cMUv (D := D) (κ := κ) (qc := (RX1, TX1, 10)) (ci := 1) (q0 := 0) (wn := fun _ => wG κ q (k_cpt 400 so p0 5) (k_cpt 400 le p0 (-1)) (k_cpt 400 gr p0 (-1)) ne (k_cpt 400 si p0 p1) ou bo n om ob) ⟨hx, hb, hml, hown, hts⟩ (c_X1_makeGone l D κ _ q so le gr ne si ou bo n om ob p0 p1 (by omega) (by omega) (by omega)) (cwV 2 hts gX1_replaceEverywhere_X1_makeGone rfl rfl rfl (by decide +kernel) ⟨Nat.le_of_ble_eq_true rfl, Nat.le_of_ble_eq_true rfl⟩) hK hP hD hS hA [0, 1, 2, 3, 4, 5, 6, 7, 8, 9, 10, 11, 12, 13, 14] (by decide) rfl rfl rfl (fun _ => rfl) (fun _ => rfl) (As := [.int p0, .int p1]) (rest := []) rfl rfl hl.1 (Nat.le_of_ble_eq_true rfl) dX1_replaceEverywhere_3 ⟨Nat.le_of_ble_eq_true rfl, Nat.le_of_ble_eq_true rfl⟩ (fun _ H locs hw9 hP hD hS => ?_)
  refine lv_aload_n hx hb dX1_replaceEverywhere_6 rfl (lv_at hl 0 rfl) ?_
  refine lv_iconst (v := 0) hx hb dX1_replaceEverywhere_7 (by decide) ?_
  refine k_cRO (D := D) (κ := κ) (qc := (RX1, TX1, 10)) (ci := 1) (q0 := 0) ⟨hx, hb, hml, hown, hts⟩ (c_X1_leastOutdated l D κ q (k_cpt 400 so p0 5) (k_cpt 400 le p0 (-1)) (k_cpt 400 gr p0 (-1)) ne (k_cpt 400 si p0 p1) ou bo n om ob 0 (by omega) (by omega) (by omega) (by omega)) (cwV 1 hts gX1_replaceEverywhere_X1_leastOutdated rfl rfl rfl (by decide +kernel) ⟨Nat.le_of_ble_eq_true rfl, Nat.le_of_ble_eq_true rfl⟩) hK hP rfl rfl (As := [.int 0]) (rest := []) rfl rfl hl.1 (Nat.le_of_ble_eq_true rfl) dX1_replaceEverywhere_8 ⟨Nat.le_of_ble_eq_true rfl, Nat.le_of_ble_eq_true rfl⟩ (fun r hr => ?_)
  subst hr
  refine lv_istore_n (lv' := [(3, .int (k_lo (k_cpt 400 le p0 (-1)) (k_cpt 400 gr p0 (-1)) (k_cpt 400 si p0 p1) (n - 0) 0)), (0, .ref (q 0)), (1, .int p0), (2, .int p1)]) hx hb dX1_replaceEverywhere_11 rfl hl (by decide) rfl (fun ls hl => ?_)
  refine lv_iconst (v := 0) hx hb dX1_replaceEverywhere_12 (by decide) ?_
  refine lv_istore (lv' := [(4, .int 0), (3, .int (k_lo (k_cpt 400 le p0 (-1)) (k_cpt 400 gr p0 (-1)) (k_cpt 400 si p0 p1) (n - 0) 0)), (0, .ref (q 0)), (1, .int p0), (2, .int p1)]) hx hb dX1_replaceEverywhere_13 hl (by decide) rfl (fun ls hl => ?_)
  have lr : ∀ (k : Nat) (g : KG) (i : Nat) (H : Heap) (locs : List Loc) (ls : Array Slot), (i + k = n) → (g = (k_reL n 160000 (k_lo (k_gone p0 p1 (so, le, gr, si)).2.1 (k_gone p0 p1 (so, le, gr, si)).2.2.1 (k_gone p0 p1 (so, le, gr, si)).2.2.2 n 0) (k_gone p0 p1 (so, le, gr, si)))) → va_P D vwCl (wG κ q g.1 g.2.1 g.2.2.1 (k_stR 400 g.2.2.2 ne i) g.2.2.2 (k_stR 40 g.2.2.2 ou om) bo n om ob) H → va_D A (wG κ q g.1 g.2.1 g.2.2.1 (k_stR 400 g.2.2.2 ne i) g.2.2.2 (k_stR 40 g.2.2.2 ou om) bo n om ob) → va_S A s.heap H locs → lv_has ls 5 [(0, .ref (q 0)), (4, .int (nI i))] → W p l e (headSpec wsX1_replaceEverywhere ({ frames := 4, cells := 0, slots := 0, locals := 92 })).room s m ([.ref (q 0), .int p0, .int p1] : List Value).toArray below meth c H locs 0 0 (MQ below (va_Qv (S := KG) (fun u => u = k_reL n 160000 (k_lo (k_gone p0 p1 (so, le, gr, si)).2.1 (k_gone p0 p1 (so, le, gr, si)).2.2.1 (k_gone p0 p1 (so, le, gr, si)).2.2.2 n 0) (k_gone p0 p1 (so, le, gr, si))) (fun u => k_B D A (wG κ q u.1 u.2.1 u.2.2.1 (k_stR 400 u.2.2.2 ne n) u.2.2.2 (k_stR 40 u.2.2.2 ou om) bo n om ob)) A) ([.ref (q 0), .int p0, .int p1] : List Value).toArray s 0 0 A) (F0 m 96 ls []) := by
    intro k
    induction k with
    | zero =>
      intro g i H locs ls hi hg9 hP hD hS hl
      refine lv_iload hx hb dX1_replaceEverywhere_96 (lv_at hl 1 rfl) ?_
      refine lv_aload_n hx hb dX1_replaceEverywhere_98 rfl (lv_at hl 0 rfl) ?_
      refine va_get (D := D) (ci := 1) (v := .int (nI n)) (C := RX1) (T := TX1) (N := 10) hx hb hts (iwX1_replaceEverywhere_1) hown hK.1 hP 0 rfl rfl 7 (by decide) (hts (.fieldLink RX1 46 "InverterGraphs$Graph" "nodes" "I") (by decide +kernel)) (fun _ h9 => h9) rfl dX1_replaceEverywhere_99 ?_
      refine lv_icmp_ge (tgt := 133) hx hb dX1_replaceEverywhere_102 (by decide) (fun c_102 => ?_) (fun c_102 => ?_)
      · skip
        have c_102 : n ≤ i := (nI_leI (a := n) (b := i) (by omega) (by omega)).mp c_102
        have e9 : n = i := by omega
        subst e9
        exact W.vret hx hb hr (fun t ht hW => ⟨⟨g, rfl, hg9, by rw [ht]; exact hP, hD⟩, hS.F ht⟩) hS.2.2 dX1_replaceEverywhere_133
      · skip
        have c_102 : ¬ (n ≤ i) := fun h9 => c_102 ((nI_leI (a := n) (b := i) (by omega) (by omega)).mpr h9)
        exfalso; omega
    | succ k ih =>
      intro g i H locs ls hi hg9 hP hD hS hl
      refine lv_iload hx hb dX1_replaceEverywhere_96 (lv_at hl 1 rfl) ?_
      refine lv_aload_n hx hb dX1_replaceEverywhere_98 rfl (lv_at hl 0 rfl) ?_
      refine va_get (D := D) (ci := 1) (v := .int (nI n)) (C := RX1) (T := TX1) (N := 10) hx hb hts (iwX1_replaceEverywhere_1) hown hK.1 hP 0 rfl rfl 7 (by decide) (hts (.fieldLink RX1 46 "InverterGraphs$Graph" "nodes" "I") (by decide +kernel)) (fun _ h9 => h9) rfl dX1_replaceEverywhere_99 ?_
      refine lv_icmp_ge (tgt := 133) hx hb dX1_replaceEverywhere_102 (by decide) (fun c_102 => ?_) (fun c_102 => ?_)
      · skip
        have c_102 : n ≤ i := (nI_leI (a := n) (b := i) (by omega) (by omega)).mp c_102
        exfalso; omega
      · skip
        have c_102 : ¬ (n ≤ i) := fun h9 => c_102 ((nI_leI (a := n) (b := i) (by omega) (by omega)).mpr h9)
        refine lv_aload_n hx hb dX1_replaceEverywhere_105 rfl (lv_at hl 0 rfl) ?_
        refine va_get (D := D) (ci := 1) (v := .ref (q 4)) (C := RX1) (T := TX1) (N := 10) hx hb hts (iwX1_replaceEverywhere_1) hown hK.1 hP 0 rfl rfl 3 (by decide) (hts (.fieldLink RX1 26 "InverterGraphs$Graph" "nexts" "LInverterGraphs$Cells;") (by decide +kernel)) (fun _ h9 => h9) rfl dX1_replaceEverywhere_106 ?_
        refine lv_iload hx hb dX1_replaceEverywhere_109 (lv_at hl 1 rfl) ?_
        refine lv_aload_n hx hb dX1_replaceEverywhere_111 rfl (lv_at hl 0 rfl) ?_
        refine lv_aload_n hx hb dX1_replaceEverywhere_112 rfl (lv_at hl 0 rfl) ?_
        refine va_get (D := D) (ci := 1) (v := .ref (q 4)) (C := RX1) (T := TX1) (N := 10) hx hb hts (iwX1_replaceEverywhere_1) hown hK.1 hP 0 rfl rfl 3 (by decide) (hts (.fieldLink RX1 26 "InverterGraphs$Graph" "nexts" "LInverterGraphs$Cells;") (by decide +kernel)) (fun _ h9 => h9) rfl dX1_replaceEverywhere_113 ?_
        refine lv_iload hx hb dX1_replaceEverywhere_116 (lv_at hl 1 rfl) ?_
        refine k_cRO (D := D) (κ := κ) (qc := (RX0, TX0, 1)) (ci := 0) (q0 := 0) ⟨hx, hb, hml, hown, hts⟩ (c_X0_at l D κ (q 4) (q 11) 400 (k_stR 400 g.2.2.2 ne i) (nI i) (by omega)) (cwV 1 hts gX1_replaceEverywhere_X0_at rfl rfl rfl (by decide +kernel) ⟨Nat.le_of_ble_eq_true rfl, Nat.le_of_ble_eq_true rfl⟩) hK (hP.sub [4, 11] rfl) rfl rfl (As := [.int (nI i)]) (rest := [.ref (q 0), .int (nI i), .ref (q 4)]) rfl rfl hl.1 (Nat.le_of_ble_eq_true rfl) dX1_replaceEverywhere_118 ⟨Nat.le_of_ble_eq_true rfl, Nat.le_of_ble_eq_true rfl⟩ (fun r hr => ?_)
        subst hr
        refine k_cRO (D := D) (κ := κ) (qc := (RX1, TX1, 10)) (ci := 1) (q0 := 0) ⟨hx, hb, hml, hown, hts⟩ (c_X1_standing l D κ q g.1 g.2.1 g.2.2.1 (k_stR 400 g.2.2.2 ne i) g.2.2.2 (k_stR 40 g.2.2.2 ou om) bo n om ob (k_cat 400 (k_stR 400 g.2.2.2 ne i) (nI i)) (by omega) (by omega) (by omega)) (cwV 1 hts gX1_replaceEverywhere_X1_standing rfl rfl rfl (by decide +kernel) ⟨Nat.le_of_ble_eq_true rfl, Nat.le_of_ble_eq_true rfl⟩) hK hP rfl rfl (As := [.int (k_cat 400 (k_stR 400 g.2.2.2 ne i) (nI i))]) (rest := [.int (nI i), .ref (q 4)]) rfl rfl hl.1 (Nat.le_of_ble_eq_true rfl) dX1_replaceEverywhere_121 ⟨Nat.le_of_ble_eq_true rfl, Nat.le_of_ble_eq_true rfl⟩ (fun r hr => ?_)
        subst hr
        refine k_cMUv (D := D) (κ := κ) (qc := (RX0, TX0, 1)) (ci := 0) (q0 := 0) (wn := fun _ => wG κ q g.1 g.2.1 g.2.2.1 (k_cpt 400 (k_stR 400 g.2.2.2 ne i) (nI i) (k_stL g.2.2.2 400 (k_cat 400 (k_stR 400 g.2.2.2 ne i) (nI i)))) g.2.2.2 (k_stR 40 g.2.2.2 ou om) bo n om ob) ⟨hx, hb, hml, hown, hts⟩ (c_X0_put l D κ _ (q 4) (q 11) 400 (k_stR 400 g.2.2.2 ne i) (nI i) (k_stL g.2.2.2 400 (k_cat 400 (k_stR 400 g.2.2.2 ne i) (nI i))) (by omega)) (cwV 2 hts gX1_replaceEverywhere_X0_put rfl rfl rfl (by decide +kernel) ⟨Nat.le_of_ble_eq_true rfl, Nat.le_of_ble_eq_true rfl⟩) hK hP hD hS hA [4, 11] (by decide) rfl rfl rfl (fun _ => rfl) (fun _ => rfl) (As := [.int (nI i), .int (k_stL g.2.2.2 400 (k_cat 400 (k_stR 400 g.2.2.2 ne i) (nI i)))]) (rest := []) rfl rfl hl.1 (Nat.le_of_ble_eq_true rfl) dX1_replaceEverywhere_124 ⟨Nat.le_of_ble_eq_true rfl, Nat.le_of_ble_eq_true rfl⟩ (fun _ H locs hw9 hP hD hS => ?_)
        refine lv_iinc (v := nI (i + 1)) (lv' := [(4, .int (nI (i + 1))), (0, .ref (q 0))]) hx hb dX1_replaceEverywhere_127 hl (k := 1) rfl (nI_1 _) (by decide) rfl (fun ls hl => ?_)
        refine lv_goto (tgt := 96) hx hb dX1_replaceEverywhere_130 (by decide) ?_
        exact ih g (i + 1) H locs ls (by omega) hg9 (by rw [← k_stR_s _ ne (show i < 400 by omega) (by omega)]; exact hP) (by rw [← k_stR_s _ ne (show i < 400 by omega) (by omega)]; exact hD) hS (lv_sub hl [1, 0] rfl)
  have lq : ∀ (k : Nat) (g : KG) (i : Nat) (H : Heap) (locs : List Loc) (ls : Array Slot), (i + k = om) → (g = (k_reL n 160000 (k_lo (k_gone p0 p1 (so, le, gr, si)).2.1 (k_gone p0 p1 (so, le, gr, si)).2.2.1 (k_gone p0 p1 (so, le, gr, si)).2.2.2 n 0) (k_gone p0 p1 (so, le, gr, si)))) → va_P D vwCl (wG κ q g.1 g.2.1 g.2.2.1 ne g.2.2.2 (k_stR 40 g.2.2.2 ou i) bo n om ob) H → va_D A (wG κ q g.1 g.2.1 g.2.2.1 ne g.2.2.2 (k_stR 40 g.2.2.2 ou i) bo n om ob) → va_S A s.heap H locs → lv_has ls 5 [(0, .ref (q 0)), (4, .int (nI i))] → W p l e (headSpec wsX1_replaceEverywhere ({ frames := 4, cells := 0, slots := 0, locals := 92 })).room s m ([.ref (q 0), .int p0, .int p1] : List Value).toArray below meth c H locs 0 0 (MQ below (va_Qv (S := KG) (fun u => u = k_reL n 160000 (k_lo (k_gone p0 p1 (so, le, gr, si)).2.1 (k_gone p0 p1 (so, le, gr, si)).2.2.1 (k_gone p0 p1 (so, le, gr, si)).2.2.2 n 0) (k_gone p0 p1 (so, le, gr, si))) (fun u => k_B D A (wG κ q u.1 u.2.1 u.2.2.1 (k_stR 400 u.2.2.2 ne n) u.2.2.2 (k_stR 40 u.2.2.2 ou om) bo n om ob)) A) ([.ref (q 0), .int p0, .int p1] : List Value).toArray s 0 0 A) (F0 m 56 ls []) := by
    intro k
    induction k with
    | zero =>
      intro g i H locs ls hi hg9 hP hD hS hl
      refine lv_iload hx hb dX1_replaceEverywhere_56 (lv_at hl 1 rfl) ?_
      refine lv_aload_n hx hb dX1_replaceEverywhere_58 rfl (lv_at hl 0 rfl) ?_
      refine va_get (D := D) (ci := 1) (v := .int (nI om)) (C := RX1) (T := TX1) (N := 10) hx hb hts (iwX1_replaceEverywhere_1) hown hK.1 hP 0 rfl rfl 8 (by decide) (hts (.fieldLink RX1 50 "InverterGraphs$Graph" "outputsMade" "I") (by decide +kernel)) (fun _ h9 => h9) rfl dX1_replaceEverywhere_59 ?_
      refine lv_icmp_ge (tgt := 93) hx hb dX1_replaceEverywhere_62 (by decide) (fun c_62 => ?_) (fun c_62 => ?_)
      · skip
        have c_62 : om ≤ i := (nI_leI (a := om) (b := i) (by omega) (by omega)).mp c_62
        have e9 : om = i := by omega
        subst e9
        refine lv_iconst (v := 0) hx hb dX1_replaceEverywhere_93 (by decide) ?_
        refine lv_istore (lv' := [(4, .int 0), (0, .ref (q 0))]) hx hb dX1_replaceEverywhere_94 hl (by decide) rfl (fun ls hl => ?_)
        exact lr n g 0 H locs ls (by omega) hg9 (by rw [k_stR_0]; exact hP) (by rw [k_stR_0]; exact hD) hS (lv_sub hl [1, 0] rfl)
      · skip
        have c_62 : ¬ (om ≤ i) := fun h9 => c_62 ((nI_leI (a := om) (b := i) (by omega) (by omega)).mpr h9)
        exfalso; omega
    | succ k ih =>
      intro g i H locs ls hi hg9 hP hD hS hl
      refine lv_iload hx hb dX1_replaceEverywhere_56 (lv_at hl 1 rfl) ?_
      refine lv_aload_n hx hb dX1_replaceEverywhere_58 rfl (lv_at hl 0 rfl) ?_
      refine va_get (D := D) (ci := 1) (v := .int (nI om)) (C := RX1) (T := TX1) (N := 10) hx hb hts (iwX1_replaceEverywhere_1) hown hK.1 hP 0 rfl rfl 8 (by decide) (hts (.fieldLink RX1 50 "InverterGraphs$Graph" "outputsMade" "I") (by decide +kernel)) (fun _ h9 => h9) rfl dX1_replaceEverywhere_59 ?_
      refine lv_icmp_ge (tgt := 93) hx hb dX1_replaceEverywhere_62 (by decide) (fun c_62 => ?_) (fun c_62 => ?_)
      · skip
        have c_62 : om ≤ i := (nI_leI (a := om) (b := i) (by omega) (by omega)).mp c_62
        exfalso; omega
      · skip
        have c_62 : ¬ (om ≤ i) := fun h9 => c_62 ((nI_leI (a := om) (b := i) (by omega) (by omega)).mpr h9)
        refine lv_aload_n hx hb dX1_replaceEverywhere_65 rfl (lv_at hl 0 rfl) ?_
        refine va_get (D := D) (ci := 1) (v := .ref (q 6)) (C := RX1) (T := TX1) (N := 10) hx hb hts (iwX1_replaceEverywhere_1) hown hK.1 hP 0 rfl rfl 5 (by decide) (hts (.fieldLink RX1 32 "InverterGraphs$Graph" "outputs" "LInverterGraphs$Cells;") (by decide +kernel)) (fun _ h9 => h9) rfl dX1_replaceEverywhere_66 ?_
        refine lv_iload hx hb dX1_replaceEverywhere_69 (lv_at hl 1 rfl) ?_
        refine lv_aload_n hx hb dX1_replaceEverywhere_71 rfl (lv_at hl 0 rfl) ?_
        refine lv_aload_n hx hb dX1_replaceEverywhere_72 rfl (lv_at hl 0 rfl) ?_
        refine va_get (D := D) (ci := 1) (v := .ref (q 6)) (C := RX1) (T := TX1) (N := 10) hx hb hts (iwX1_replaceEverywhere_1) hown hK.1 hP 0 rfl rfl 5 (by decide) (hts (.fieldLink RX1 32 "InverterGraphs$Graph" "outputs" "LInverterGraphs$Cells;") (by decide +kernel)) (fun _ h9 => h9) rfl dX1_replaceEverywhere_73 ?_
        refine lv_iload hx hb dX1_replaceEverywhere_76 (lv_at hl 1 rfl) ?_
        refine k_cRO (D := D) (κ := κ) (qc := (RX0, TX0, 1)) (ci := 0) (q0 := 0) ⟨hx, hb, hml, hown, hts⟩ (c_X0_at l D κ (q 6) (q 13) 40 (k_stR 40 g.2.2.2 ou i) (nI i) (by omega)) (cwV 1 hts gX1_replaceEverywhere_X0_at rfl rfl rfl (by decide +kernel) ⟨Nat.le_of_ble_eq_true rfl, Nat.le_of_ble_eq_true rfl⟩) hK (hP.sub [6, 13] rfl) rfl rfl (As := [.int (nI i)]) (rest := [.ref (q 0), .int (nI i), .ref (q 6)]) rfl rfl hl.1 (Nat.le_of_ble_eq_true rfl) dX1_replaceEverywhere_78 ⟨Nat.le_of_ble_eq_true rfl, Nat.le_of_ble_eq_true rfl⟩ (fun r hr => ?_)
        subst hr
        refine k_cRO (D := D) (κ := κ) (qc := (RX1, TX1, 10)) (ci := 1) (q0 := 0) ⟨hx, hb, hml, hown, hts⟩ (c_X1_standing l D κ q g.1 g.2.1 g.2.2.1 ne g.2.2.2 (k_stR 40 g.2.2.2 ou i) bo n om ob (k_cat 40 (k_stR 40 g.2.2.2 ou i) (nI i)) (by omega) (by omega) (by omega)) (cwV 1 hts gX1_replaceEverywhere_X1_standing rfl rfl rfl (by decide +kernel) ⟨Nat.le_of_ble_eq_true rfl, Nat.le_of_ble_eq_true rfl⟩) hK hP rfl rfl (As := [.int (k_cat 40 (k_stR 40 g.2.2.2 ou i) (nI i))]) (rest := [.int (nI i), .ref (q 6)]) rfl rfl hl.1 (Nat.le_of_ble_eq_true rfl) dX1_replaceEverywhere_81 ⟨Nat.le_of_ble_eq_true rfl, Nat.le_of_ble_eq_true rfl⟩ (fun r hr => ?_)
        subst hr
        refine k_cMUv (D := D) (κ := κ) (qc := (RX0, TX0, 1)) (ci := 0) (q0 := 0) (wn := fun _ => wG κ q g.1 g.2.1 g.2.2.1 ne g.2.2.2 (k_cpt 40 (k_stR 40 g.2.2.2 ou i) (nI i) (k_stL g.2.2.2 400 (k_cat 40 (k_stR 40 g.2.2.2 ou i) (nI i)))) bo n om ob) ⟨hx, hb, hml, hown, hts⟩ (c_X0_put l D κ _ (q 6) (q 13) 40 (k_stR 40 g.2.2.2 ou i) (nI i) (k_stL g.2.2.2 400 (k_cat 40 (k_stR 40 g.2.2.2 ou i) (nI i))) (by omega)) (cwV 2 hts gX1_replaceEverywhere_X0_put rfl rfl rfl (by decide +kernel) ⟨Nat.le_of_ble_eq_true rfl, Nat.le_of_ble_eq_true rfl⟩) hK hP hD hS hA [6, 13] (by decide) rfl rfl rfl (fun _ => rfl) (fun _ => rfl) (As := [.int (nI i), .int (k_stL g.2.2.2 400 (k_cat 40 (k_stR 40 g.2.2.2 ou i) (nI i)))]) (rest := []) rfl rfl hl.1 (Nat.le_of_ble_eq_true rfl) dX1_replaceEverywhere_84 ⟨Nat.le_of_ble_eq_true rfl, Nat.le_of_ble_eq_true rfl⟩ (fun _ H locs hw9 hP hD hS => ?_)
        refine lv_iinc (v := nI (i + 1)) (lv' := [(4, .int (nI (i + 1))), (0, .ref (q 0))]) hx hb dX1_replaceEverywhere_87 hl (k := 1) rfl (nI_1 _) (by decide) rfl (fun ls hl => ?_)
        refine lv_goto (tgt := 56) hx hb dX1_replaceEverywhere_90 (by decide) ?_
        exact ih g (i + 1) H locs ls (by omega) hg9 (by rw [← k_stR_s _ ou (show i < 40 by omega) (by omega)]; exact hP) (by rw [← k_stR_s _ ou (show i < 40 by omega) (by omega)]; exact hD) hS (lv_sub hl [1, 0] rfl)
  have lp : ∀ (k : Nat) (x : Int32) (g : KG) (i : Nat) (H : Heap) (locs : List Loc) (ls : Array Slot), (i + k = 160000) → ((k_reL n 160000 (k_lo (k_gone p0 p1 (so, le, gr, si)).2.1 (k_gone p0 p1 (so, le, gr, si)).2.2.1 (k_gone p0 p1 (so, le, gr, si)).2.2.2 n 0) (k_gone p0 p1 (so, le, gr, si))) = k_reL n k x g) → (x = -1 ∨ ∃ j, j < n ∧ x = nI j) → va_P D vwCl (wG κ q g.1 g.2.1 g.2.2.1 ne g.2.2.2 ou bo n om ob) H → va_D A (wG κ q g.1 g.2.1 g.2.2.1 ne g.2.2.2 ou bo n om ob) → va_S A s.heap H locs → lv_has ls 5 [(0, .ref (q 0)), (3, .int x), (4, .int (nI i))] → W p l e (headSpec wsX1_replaceEverywhere ({ frames := 4, cells := 0, slots := 0, locals := 92 })).room s m ([.ref (q 0), .int p0, .int p1] : List Value).toArray below meth c H locs 0 0 (MQ below (va_Qv (S := KG) (fun u => u = k_reL n 160000 (k_lo (k_gone p0 p1 (so, le, gr, si)).2.1 (k_gone p0 p1 (so, le, gr, si)).2.2.1 (k_gone p0 p1 (so, le, gr, si)).2.2.2 n 0) (k_gone p0 p1 (so, le, gr, si))) (fun u => k_B D A (wG κ q u.1 u.2.1 u.2.2.1 (k_stR 400 u.2.2.2 ne n) u.2.2.2 (k_stR 40 u.2.2.2 ou om) bo n om ob)) A) ([.ref (q 0), .int p0, .int p1] : List Value).toArray s 0 0 A) (F0 m 15 ls []) := by
    intro k
    induction k with
    | zero =>
      intro x g i H locs ls hi hr9 hx9 hP hD hS hl
      refine lv_iload hx hb dX1_replaceEverywhere_15 (lv_at hl 2 rfl) ?_
      refine lv_ldc (v := 160000) hx hb hown (hts (.constant RX1 91 (160000)) (by decide +kernel)) dX1_replaceEverywhere_17 ?_
      refine lv_icmp_ge (tgt := 53) hx hb dX1_replaceEverywhere_19 (by decide) (fun c_19 => ?_) (fun c_19 => ?_)
      · skip
        have c_19 : 160000 ≤ i := (nI_leI (a := 160000) (b := i) (by omega) (by omega)).mp c_19
        have hg9 : g = (k_reL n 160000 (k_lo (k_gone p0 p1 (so, le, gr, si)).2.1 (k_gone p0 p1 (so, le, gr, si)).2.2.1 (k_gone p0 p1 (so, le, gr, si)).2.2.2 n 0) (k_gone p0 p1 (so, le, gr, si))) := by rw [hr9, k_reL]
        refine lv_iconst (v := 0) hx hb dX1_replaceEverywhere_53 (by decide) ?_
        refine lv_istore (lv' := [(4, .int 0), (0, .ref (q 0)), (3, .int x)]) hx hb dX1_replaceEverywhere_54 hl (by decide) rfl (fun ls hl => ?_)
        exact lq om g 0 H locs ls (by omega) hg9 (by rw [k_stR_0]; exact hP) (by rw [k_stR_0]; exact hD) hS (lv_sub hl [1, 0] rfl)
      · skip
        have c_19 : ¬ (160000 ≤ i) := fun h9 => c_19 ((nI_leI (a := 160000) (b := i) (by omega) (by omega)).mpr h9)
        exfalso; omega
    | succ k ih =>
      intro x g i H locs ls hi hr9 hx9 hP hD hS hl
      refine lv_iload hx hb dX1_replaceEverywhere_15 (lv_at hl 2 rfl) ?_
      refine lv_ldc (v := 160000) hx hb hown (hts (.constant RX1 91 (160000)) (by decide +kernel)) dX1_replaceEverywhere_17 ?_
      refine lv_icmp_ge (tgt := 53) hx hb dX1_replaceEverywhere_19 (by decide) (fun c_19 => ?_) (fun c_19 => ?_)
      · skip
        have c_19 : 160000 ≤ i := (nI_leI (a := 160000) (b := i) (by omega) (by omega)).mp c_19
        exfalso; omega
      · skip
        have c_19 : ¬ (160000 ≤ i) := fun h9 => c_19 ((nI_leI (a := 160000) (b := i) (by omega) (by omega)).mpr h9)
        refine lv_iload_n hx hb dX1_replaceEverywhere_22 rfl (lv_at hl 1 rfl) ?_
        refine lv_iconst (v := (-1)) hx hb dX1_replaceEverywhere_23 (by decide) ?_
        refine lv_icmp_eq (tgt := 53) hx hb dX1_replaceEverywhere_24 (by decide) (fun c_24 => ?_) (fun c_24 => ?_)
        · skip
          have hg9 : g = (k_reL n 160000 (k_lo (k_gone p0 p1 (so, le, gr, si)).2.1 (k_gone p0 p1 (so, le, gr, si)).2.2.1 (k_gone p0 p1 (so, le, gr, si)).2.2.2 n 0) (k_gone p0 p1 (so, le, gr, si))) := by rw [hr9, k_reL, if_pos c_24]
          refine lv_iconst (v := 0) hx hb dX1_replaceEverywhere_53 (by decide) ?_
          refine lv_istore (lv' := [(4, .int 0), (0, .ref (q 0)), (3, .int x)]) hx hb dX1_replaceEverywhere_54 hl (by decide) rfl (fun ls hl => ?_)
          exact lq om g 0 H locs ls (by omega) hg9 (by rw [k_stR_0]; exact hP) (by rw [k_stR_0]; exact hD) hS (lv_sub hl [1, 0] rfl)
        · skip
          obtain ⟨j, hj, rfl⟩ : ∃ j, j < n ∧ x = nI j := hx9.resolve_left c_24
          refine lv_aload_n hx hb dX1_replaceEverywhere_27 rfl (lv_at hl 0 rfl) ?_
          refine lv_aload_n hx hb dX1_replaceEverywhere_28 rfl (lv_at hl 0 rfl) ?_
          refine lv_iload_n hx hb dX1_replaceEverywhere_29 rfl (lv_at hl 1 rfl) ?_
          refine k_cMUi (D := D) (κ := κ) (qc := (RX1, TX1, 10)) (ci := 1) (q0 := 0) (wn := fun u_30 => wG κ q u_30.1 u_30.2.1 u_30.2.2.1 ne u_30.2.2.2 ou bo n om ob) ⟨hx, hb, hml, hown, hts⟩ (c_X1_renew l D κ _ q g.1 g.2.1 g.2.2.1 ne g.2.2.2 ou bo n om ob (nI j) (by omega) (by omega) (by omega)) (cwV 1 hts gX1_replaceEverywhere_X1_renew rfl rfl rfl (by decide +kernel) ⟨Nat.le_of_ble_eq_true rfl, Nat.le_of_ble_eq_true rfl⟩) hK hP hD hS hA [0, 1, 2, 3, 4, 5, 6, 7, 8, 9, 10, 11, 12, 13, 14] (by decide) rfl rfl rfl (fun _ => rfl) (fun _ => rfl) (As := [.int (nI j)]) (rest := [.ref (q 0)]) rfl rfl hl.1 (Nat.le_of_ble_eq_true rfl) dX1_replaceEverywhere_30 ⟨Nat.le_of_ble_eq_true rfl, Nat.le_of_ble_eq_true rfl⟩ (fun r u_30 H locs hw9 hP hD hS => ?_)
          obtain ⟨hr, hu⟩ := hw9
          subst hr
          refine lv_if_eq (tgt := 42) hx hb dX1_replaceEverywhere_33 (by decide) (fun c_33 => ?_) (fun c_33 => ?_)
          · skip
            refine lv_iconst (v := 0) hx hb dX1_replaceEverywhere_42 (by decide) ?_
            refine k_cRO (D := D) (κ := κ) (qc := (RX1, TX1, 10)) (ci := 1) (q0 := 0) ⟨hx, hb, hml, hown, hts⟩ (c_X1_leastOutdated l D κ q u_30.1 u_30.2.1 u_30.2.2.1 ne u_30.2.2.2 ou bo n om ob 0 (by omega) (by omega) (by omega) (by omega)) (cwV 1 hts gX1_replaceEverywhere_X1_leastOutdated rfl rfl rfl (by decide +kernel) ⟨Nat.le_of_ble_eq_true rfl, Nat.le_of_ble_eq_true rfl⟩) hK hP rfl rfl (As := [.int 0]) (rest := []) rfl rfl hl.1 (Nat.le_of_ble_eq_true rfl) dX1_replaceEverywhere_43 ⟨Nat.le_of_ble_eq_true rfl, Nat.le_of_ble_eq_true rfl⟩ (fun r hr => ?_)
            subst hr
            refine lv_istore_n (lv' := [(3, .int (k_lo u_30.2.1 u_30.2.2.1 u_30.2.2.2 (n - 0) 0)), (0, .ref (q 0)), (4, .int (nI i))]) hx hb dX1_replaceEverywhere_46 rfl hl (by decide) rfl (fun ls hl => ?_)
            refine lv_iinc (v := nI (i + 1)) (lv' := [(4, .int (nI (i + 1))), (3, .int (k_lo u_30.2.1 u_30.2.2.1 u_30.2.2.2 (n - 0) 0)), (0, .ref (q 0))]) hx hb dX1_replaceEverywhere_47 hl (k := 2) rfl (nI_1 _) (by decide) rfl (fun ls hl => ?_)
            refine lv_goto (tgt := 15) hx hb dX1_replaceEverywhere_50 (by decide) ?_
            exact ih (k_lo u_30.2.1 u_30.2.2.1 u_30.2.2.2 (n - 0) 0) u_30 (i + 1) H locs ls (by omega) (by rw [hr9, k_reL, if_neg c_24, if_pos c_33, hu]; rfl) (k_lo_ex _ _ _ (by omega)) hP hD hS (lv_sub hl [2, 1, 0] rfl)
          · skip
            refine lv_iload_n hx hb dX1_replaceEverywhere_36 rfl (lv_at hl 1 rfl) ?_
            refine lv_iconst (v := 1) hx hb dX1_replaceEverywhere_37 (by decide) ?_
            refine lv_iadd hx hb dX1_replaceEverywhere_38 ?_
            refine lv_topi (nm_r (nI_add j 1) ?_)
            refine lv_goto (tgt := 43) hx hb dX1_replaceEverywhere_39 (by decide) ?_
            refine k_cRO (D := D) (κ := κ) (qc := (RX1, TX1, 10)) (ci := 1) (q0 := 0) ⟨hx, hb, hml, hown, hts⟩ (c_X1_leastOutdated l D κ q u_30.1 u_30.2.1 u_30.2.2.1 ne u_30.2.2.2 ou bo n om ob (j + 1) (by omega) (by omega) (by omega) (by omega)) (cwV 1 hts gX1_replaceEverywhere_X1_leastOutdated rfl rfl rfl (by decide +kernel) ⟨Nat.le_of_ble_eq_true rfl, Nat.le_of_ble_eq_true rfl⟩) hK hP rfl rfl (As := [.int (nI (j + 1))]) (rest := []) rfl rfl hl.1 (Nat.le_of_ble_eq_true rfl) dX1_replaceEverywhere_43 ⟨Nat.le_of_ble_eq_true rfl, Nat.le_of_ble_eq_true rfl⟩ (fun r hr => ?_)
            subst hr
            refine lv_istore_n (lv' := [(3, .int (k_lo u_30.2.1 u_30.2.2.1 u_30.2.2.2 (n - (j + 1)) (j + 1))), (0, .ref (q 0)), (4, .int (nI i))]) hx hb dX1_replaceEverywhere_46 rfl hl (by decide) rfl (fun ls hl => ?_)
            refine lv_iinc (v := nI (i + 1)) (lv' := [(4, .int (nI (i + 1))), (3, .int (k_lo u_30.2.1 u_30.2.2.1 u_30.2.2.2 (n - (j + 1)) (j + 1))), (0, .ref (q 0))]) hx hb dX1_replaceEverywhere_47 hl (k := 2) rfl (nI_1 _) (by decide) rfl (fun ls hl => ?_)
            refine lv_goto (tgt := 15) hx hb dX1_replaceEverywhere_50 (by decide) ?_
            exact ih (k_lo u_30.2.1 u_30.2.2.1 u_30.2.2.2 (n - (j + 1)) (j + 1)) u_30 (i + 1) H locs ls (by omega) (by rw [hr9, k_reL, if_neg c_24, if_neg c_33, nI_clamp (by omega), hu]) (k_lo_ex _ _ _ (by omega)) hP hD hS (lv_sub hl [2, 1, 0] rfl)
  exact lp 160000 (k_lo (k_cpt 400 le p0 (-1)) (k_cpt 400 gr p0 (-1)) (k_cpt 400 si p0 p1) (n - 0) 0) (k_gone p0 p1 (so, le, gr, si)) 0 H locs ls (by omega) rfl (k_lo_ex _ _ _ (by omega)) hP hD hS (lv_sub hl [2, 1, 0] rfl)
