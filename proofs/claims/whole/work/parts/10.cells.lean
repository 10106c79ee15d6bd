/-! CELLS, and the small functions of numbers -/
def k_nodeOf (x : Int32) : Int32 := x >>> (1 &&& 31)
def k_litOf (x : Int32) : Int32 := x <<< (1 &&& 31)
def k_isTurned (x : Int32) : Int32 := if x &&& 1 = 1 then 1 else 0
def k_turned (x : Int32) : Int32 := x ^^^ 1
def wI (κ : Nat → ClassId) (a n : Nat) (f : Nat → Int32) : va_W := [(a, .inl (κ 0, n, .inl f))]
def wJ (κ : Nat → ClassId) (a n : Nat) (f : Nat → Int64) : va_W := [(a, .inl (κ 1, n, .inr (.inl f)))]
def k_fillF (f : Nat → Int32) (x : Int32) (i : Nat) : Nat → Int32 := fun j => if j < i then x else f j
def k_fillJ (f : Nat → Int64) (x : Int64) (i : Nat) : Nat → Int64 := fun j => if j < i then x else f j
theorem k_fillF_0 (f : Nat → Int32) (x : Int32) : k_fillF f x 0 = f := by funext j; simp [k_fillF]
theorem k_fillF_s (f : Nat → Int32) (x : Int32) (i : Nat) : upd (k_fillF f x i) i x = k_fillF f x (i + 1) := by
  funext j
  by_cases h : j = i
  · subst h; rw [pk_us]; simp [k_fillF]
  · rw [pk_un h]; simp only [k_fillF]; by_cases h2 : j < i
    · rw [if_pos h2, if_pos (by omega)]
    · rw [if_neg h2, if_neg (by omega)]
theorem k_fillJ_0 (f : Nat → Int64) (x : Int64) : k_fillJ f x 0 = f := by funext j; simp [k_fillJ]
theorem k_fillJ_s (f : Nat → Int64) (x : Int64) (i : Nat) : vp_updL (k_fillJ f x i) i x = k_fillJ f x (i + 1) := by
  funext j
  by_cases h : j = i
  · subst h; rw [pk_uLs]; simp [k_fillJ]
  · rw [pk_uLn h]; simp only [k_fillJ]; by_cases h2 : j < i
    · rw [if_pos h2, if_pos (by omega)]
    · rw [if_neg h2, if_neg (by omega)]
/-- the first n places copied -/
def k_cp (n : Nat) (f1 f : Nat → Int32) : Nat → Int32 := fun j => if j < n then f1 j else f j
theorem k_cp_of (n : Nat) (f1 f : Nat → Int32) : va_cpy f1 f 0 0 n = k_cp n f1 f := by
  funext j
  by_cases h : j < n
  · rw [pk_cpy_in (by omega) (by omega)]; simp [k_cp, h]
  · rw [pk_cpy_out (by omega)]; simp [k_cp, h]
set_option maxHeartbeats 4000000 in
set_option maxRecDepth 100000 in
theorem c_X6_nodeOf (l : Launch) (p0 : Int32) : k_sti l yX6_nodeOf wsX6_nodeOf 0 0 [.int p0] (fun r => r = k_nodeOf p0) := by
  refine Met.ofW (cc := cX6_nodeOf) (maxL := 1) (ret := (some .int)) (by decide) rfl ?_
  intro p e s m args below meth c s₁ B hml hv
  obtain ⟨rfl, -⟩ := hv
  have hx := B.exec
  have hb := B.bytes
  have hr := B.returns
  have hts := atoms_spec (ws := wsX6_nodeOf) B.pre
  have hown : s.vm.findClass RX6 = some m.cls := findClass_of_methodNamed B.named
  have hlocks := B.notSynchronized
  have hl := lv_entry ([.int p0]) (n := 1) (Nat.le_of_ble_eq_true rfl)
  rw [lg_entry_eq]
  generalize (lg_sl ([.int p0]) ++ List.replicate (1 - (lg_sl ([.int p0])).length) Slot.unset).toArray = ls at hl ⊢
  have hl : lv_has ls 1 [(0, .int p0)] := hl
  refine lv_iload_n hx hb dX6_nodeOf_0 rfl (lv_at hl 0 rfl) ?_
  refine lv_iconst (v := 1) hx hb dX6_nodeOf_1 (by decide) ?_
  refine lv_ishr hx hb dX6_nodeOf_2 ?_
  exact W.iret (v := p0 >>> (1 &&& 31)) hx hb hr (fun t ht _ => ⟨p0 >>> (1 &&& 31), rfl, rfl, ht⟩) (fun _ h9 => nomatch h9) dX6_nodeOf_3
set_option maxHeartbeats 4000000 in
set_option maxRecDepth 100000 in
theorem c_X6_literalOf (l : Launch) (p0 : Int32) : k_sti l yX6_literalOf wsX6_literalOf 0 0 [.int p0] (fun r => r = k_litOf p0) := by
  refine Met.ofW (cc := cX6_literalOf) (maxL := 1) (ret := (some .int)) (by decide) rfl ?_
  intro p e s m args below meth c s₁ B hml hv
  obtain ⟨rfl, -⟩ := hv
  have hx := B.exec
  have hb := B.bytes
  have hr := B.returns
  have hts := atoms_spec (ws := wsX6_literalOf) B.pre
  have hown : s.vm.findClass RX6 = some m.cls := findClass_of_methodNamed B.named
  have hlocks := B.notSynchronized
  have hl := lv_entry ([.int p0]) (n := 1) (Nat.le_of_ble_eq_true rfl)
  rw [lg_entry_eq]
  generalize (lg_sl ([.int p0]) ++ List.replicate (1 - (lg_sl ([.int p0])).length) Slot.unset).toArray = ls at hl ⊢
  have hl : lv_has ls 1 [(0, .int p0)] := hl
  refine lv_iload_n hx hb dX6_literalOf_0 rfl (lv_at hl 0 rfl) ?_
  refine lv_iconst (v := 1) hx hb dX6_literalOf_1 (by decide) ?_
  refine lv_ishl hx hb dX6_literalOf_2 ?_
  exact W.iret (v := p0 <<< (1 &&& 31)) hx hb hr (fun t ht _ => ⟨p0 <<< (1 &&& 31), rfl, rfl, ht⟩) (fun _ h9 => nomatch h9) dX6_literalOf_3
set_option maxHeartbeats 4000000 in
set_option maxRecDepth 100000 in
theorem c_X6_turned (l : Launch) (p0 : Int32) : k_sti l yX6_turned wsX6_turned 0 0 [.int p0] (fun r => r = k_turned p0) := by
  refine Met.ofW (cc := cX6_turned) (maxL := 1) (ret := (some .int)) (by decide) rfl ?_
  intro p e s m args below meth c s₁ B hml hv
  obtain ⟨rfl, -⟩ := hv
  have hx := B.exec
  have hb := B.bytes
  have hr := B.returns
  have hts := atoms_spec (ws := wsX6_turned) B.pre
  have hown : s.vm.findClass RX6 = some m.cls := findClass_of_methodNamed B.named
  have hlocks := B.notSynchronized
  have hl := lv_entry ([.int p0]) (n := 1) (Nat.le_of_ble_eq_true rfl)
  rw [lg_entry_eq]
  generalize (lg_sl ([.int p0]) ++ List.replicate (1 - (lg_sl ([.int p0])).length) Slot.unset).toArray = ls at hl ⊢
  have hl : lv_has ls 1 [(0, .int p0)] := hl
  refine lv_iload_n hx hb dX6_turned_0 rfl (lv_at hl 0 rfl) ?_
  refine lv_iconst (v := 1) hx hb dX6_turned_1 (by decide) ?_
  refine lv_ixor hx hb dX6_turned_2 ?_
  exact W.iret (v := p0 ^^^ 1) hx hb hr (fun t ht _ => ⟨p0 ^^^ 1, rfl, rfl, ht⟩) (fun _ h9 => nomatch h9) dX6_turned_3
set_option maxHeartbeats 4000000 in
set_option maxRecDepth 100000 in
theorem c_X6_isTurned (l : Launch) (p0 : Int32) : k_sti l yX6_isTurned wsX6_isTurned 0 0 [.int p0] (fun r => r = k_isTurned p0) := by
  refine Met.ofW (cc := cX6_isTurned) (maxL := 1) (ret := (some .boolean)) (by decide) rfl ?_
  intro p e s m args below meth c s₁ B hml hv
  obtain ⟨rfl, -⟩ := hv
  have hx := B.exec
  have hb := B.bytes
  have hr := B.returns
  have hts := atoms_spec (ws := wsX6_isTurned) B.pre
  have hown : s.vm.findClass RX6 = some m.cls := findClass_of_methodNamed B.named
  have hlocks := B.notSynchronized
  have hl := lv_entry ([.int p0]) (n := 1) (Nat.le_of_ble_eq_true rfl)
  rw [lg_entry_eq]
  generalize (lg_sl ([.int p0]) ++ List.replicate (1 - (lg_sl ([.int p0])).length) Slot.unset).toArray = ls at hl ⊢
  have hl : lv_has ls 1 [(0, .int p0)] := hl
  refine lv_iload_n hx hb dX6_isTurned_0 rfl (lv_at hl 0 rfl) ?_
  refine lv_iconst (v := 1) hx hb dX6_isTurned_1 (by decide) ?_
  refine lv_iand hx hb dX6_isTurned_2 ?_
  refine lv_iconst (v := 1) hx hb dX6_isTurned_3 (by decide) ?_
  refine lv_icmp_ne (tgt := 11) hx hb dX6_isTurned_4 (by decide) (fun c_4 => ?_) (fun c_4 => ?_)
  · skip
    refine lv_iconst (v := 0) hx hb dX6_isTurned_11 (by decide) ?_
    exact W.zret (ty := .boolean) (v := 0) hx hb hr rfl (fun t ht _ => ⟨0, rfl, (by unfold k_isTurned; rw [if_neg c_4]), ht⟩) (fun _ h9 => nomatch h9) dX6_isTurned_12
  · skip
    refine lv_iconst (v := 1) hx hb dX6_isTurned_7 (by decide) ?_
    refine lv_goto (tgt := 12) hx hb dX6_isTurned_8 (by decide) ?_
    exact W.zret (ty := .boolean) (v := 1) hx hb hr rfl (fun t ht _ => ⟨1, rfl, (by unfold k_isTurned; rw [if_pos c_4]), ht⟩) (fun _ h9 => nomatch h9) dX6_isTurned_12
theorem iwX0_at_0 : ∀ w ∈ wsX00, w ∈ wsX0_at := by decide +kernel
set_option maxHeartbeats 4000000 in
set_option maxRecDepth 100000 in
theorem c_X0_at (l : Launch) (D : va_G) (κ : Nat → ClassId) (c0 a n : Nat) (f : Nat → Int32) (p0 : Int32) (hn : n < 2 ^ 31) : k_roi l yX0_at wsX0_at 0 0 D κ [.ref c0, .int p0] (wC κ c0 a n f) (fun r => r = k_cat n f p0) := by
  refine Met.ofW (cc := cX0_at) (maxL := 2) (ret := (some .int)) (by decide) rfl ?_
  intro p e s m args below meth c s₁ B hml hv
  obtain ⟨rfl, hK, hP⟩ := hv
  have hx := B.exec
  have hb := B.bytes
  have hr := B.returns
  have hts := atoms_spec (ws := wsX0_at) B.pre
  have hown : s.vm.findClass RX0 = some m.cls := findClass_of_methodNamed B.named
  have hlocks := B.notSynchronized
  have hP : va_P D vwCl (wC κ c0 a n f) s.heap := hP
  have hl := lv_entry ([.ref c0, .int p0]) (n := 2) (Nat.le_of_ble_eq_true rfl)
  rw [lg_entry_eq]
  generalize (lg_sl ([.ref c0, .int p0]) ++ List.replicate (2 - (lg_sl ([.ref c0, .int p0])).length) Slot.unset).toArray = ls at hl ⊢
  have hl : lv_has ls 2 [(0, .ref c0), (1, .int p0)] := hl
  refine lv_iload_n hx hb dX0_at_0 rfl (lv_at hl 1 rfl) ?_
  refine lv_if_lt (tgt := 22) hx hb dX0_at_1 (by decide) (fun c_1 => ?_) (fun c_1 => ?_)
  · skip
    refine lv_iconst (v := (-1)) hx hb dX0_at_22 (by decide) ?_
    exact W.iret (v := (-1)) hx hb hr (fun t ht _ => ⟨(-1), rfl, (by unfold k_cat; rw [if_pos c_1]), ht⟩) (fun _ h9 => nomatch h9) dX0_at_23
  · skip
    refine lv_iload_n hx hb dX0_at_4 rfl (lv_at hl 1 rfl) ?_
    refine lv_aload_n hx hb dX0_at_5 rfl (lv_at hl 0 rfl) ?_
    refine va_get (D := D) (ci := 0) (v := .ref a) (C := RX0) (T := TX0) (N := 1) hx hb hts (iwX0_at_0) hown hK.1 hP 0 rfl rfl 0 (by decide) (hts (.fieldLink RX0 9 "InverterGraphs$Cells" "cells" "[I") (by decide +kernel)) (fun _ h9 => h9) rfl dX0_at_6 ?_
    refine va_alen (D := D) hx hb hK.1 hP 1 0 rfl rfl (v := nI n) rfl dX0_at_9 ?_
    refine lv_icmp_ge (tgt := 22) hx hb dX0_at_10 (by decide) (fun c_10 => ?_) (fun c_10 => ?_)
    · skip
      refine lv_iconst (v := (-1)) hx hb dX0_at_22 (by decide) ?_
      exact W.iret (v := (-1)) hx hb hr (fun t ht _ => ⟨(-1), rfl, (by unfold k_cat; rw [if_neg c_1, if_pos c_10]), ht⟩) (fun _ h9 => nomatch h9) dX0_at_23
    · skip
      refine lv_aload_n hx hb dX0_at_13 rfl (lv_at hl 0 rfl) ?_
      refine va_get (D := D) (ci := 0) (v := .ref a) (C := RX0) (T := TX0) (N := 1) hx hb hts (iwX0_at_0) hown hK.1 hP 0 rfl rfl 0 (by decide) (hts (.fieldLink RX0 9 "InverterGraphs$Cells" "cells" "[I") (by decide +kernel)) (fun _ h9 => h9) rfl dX0_at_14 ?_
      refine lv_iload_n hx hb dX0_at_17 rfl (lv_at hl 1 rfl) ?_
      refine va_iald (D := D) hx hb hK.1 hP 1 0 rfl rfl (k_inb hn c_1 c_10) dX0_at_18 ?_
      refine lv_goto (tgt := 23) hx hb dX0_at_19 (by decide) ?_
      exact W.iret (v := f (Int32.toNatClampNeg p0)) hx hb hr (fun t ht _ => ⟨f (Int32.toNatClampNeg p0), rfl, (by unfold k_cat; rw [if_neg c_1, if_neg c_10]), ht⟩) (fun _ h9 => nomatch h9) dX0_at_23
theorem iwX0_put_0 : ∀ w ∈ wsX00, w ∈ wsX0_put := by decide +kernel
set_option maxHeartbeats 4000000 in
set_option maxRecDepth 100000 in
theorem c_X0_put (l : Launch) (D : va_G) (κ : Nat → ClassId) (sz : Nat) (c0 a n : Nat) (f : Nat → Int32) (p0 p1 : Int32) (hn : n < 2 ^ 31) : k_muv (S := Unit) l yX0_put wsX0_put 0 0 0 0 D κ [.ref c0, .int p0, .int p1] (wC κ c0 a n f) sz (fun _ => True) (fun u => wC κ c0 a n (k_cpt n f p0 p1)) := by
  refine Met.ofW (cc := cX0_put) (maxL := 3) (ret := none) (by decide) rfl ?_
  intro p e s m args below meth c s₁ B hml hv
  obtain ⟨rfl, hsz, hK, hP, hD0⟩ := hv
  have hx := B.exec
  have hb := B.bytes
  have hr := B.returns
  have hts := atoms_spec (ws := wsX0_put) B.pre
  have hown : s.vm.findClass RX0 = some m.cls := findClass_of_methodNamed B.named
  have hlocks := B.notSynchronized
  subst hsz
  have hD := hD0.self (sz := s.heap.size)
  generalize hAe : va_A (wC κ c0 a n f) s.heap.size = A at hD ⊢
  have hA : ∀ q : Nat, s.heap.size ≤ q → A q := fun q h => by rw [← hAe]; exact Or.inr h
  have hS : va_S A s.heap s.heap [] := va_S.rf
  have hP : va_P D vwCl (wC κ c0 a n f) s.heap := hP
  have hl := lv_entry ([.ref c0, .int p0, .int p1]) (n := 3) (Nat.le_of_ble_eq_true rfl)
  rw [lg_entry_eq]
  generalize (lg_sl ([.ref c0, .int p0, .int p1]) ++ List.replicate (3 - (lg_sl ([.ref c0, .int p0, .int p1])).length) Slot.unset).toArray = ls at hl ⊢
  have hl : lv_has ls 3 [(0, .ref c0), (1, .int p0), (2, .int p1)] := hl
  refine lv_iload_n hx hb dX0_put_0 rfl (lv_at hl 1 rfl) ?_
  refine lv_if_lt (tgt := 20) hx hb dX0_put_1 (by decide) (fun c_1 => ?_) (fun c_1 => ?_)
  · skip
    rw [show k_cpt n f p0 p1 = f from by unfold k_cpt; rw [if_pos c_1]]
    exact W.vret hx hb hr (fun t ht hW => ⟨⟨(), rfl, trivial, by rw [ht]; exact hP, hD⟩, hS.F ht⟩) hS.2.2 dX0_put_20
  · skip
    refine lv_iload_n hx hb dX0_put_4 rfl (lv_at hl 1 rfl) ?_
    refine lv_aload_n hx hb dX0_put_5 rfl (lv_at hl 0 rfl) ?_
    refine va_get (D := D) (ci := 0) (v := .ref a) (C := RX0) (T := TX0) (N := 1) hx hb hts (iwX0_put_0) hown hK.1 hP 0 rfl rfl 0 (by decide) (hts (.fieldLink RX0 9 "InverterGraphs$Cells" "cells" "[I") (by decide +kernel)) (fun _ h9 => h9) rfl dX0_put_6 ?_
    refine va_alen (D := D) hx hb hK.1 hP 1 0 rfl rfl (v := nI n) rfl dX0_put_9 ?_
    refine lv_icmp_ge (tgt := 20) hx hb dX0_put_10 (by decide) (fun c_10 => ?_) (fun c_10 => ?_)
    · skip
      rw [show k_cpt n f p0 p1 = f from by unfold k_cpt; rw [if_neg c_1, if_pos c_10]]
      exact W.vret hx hb hr (fun t ht hW => ⟨⟨(), rfl, trivial, by rw [ht]; exact hP, hD⟩, hS.F ht⟩) hS.2.2 dX0_put_20
    · skip
      refine lv_aload_n hx hb dX0_put_13 rfl (lv_at hl 0 rfl) ?_
      refine va_get (D := D) (ci := 0) (v := .ref a) (C := RX0) (T := TX0) (N := 1) hx hb hts (iwX0_put_0) hown hK.1 hP 0 rfl rfl 0 (by decide) (hts (.fieldLink RX0 9 "InverterGraphs$Cells" "cells" "[I") (by decide +kernel)) (fun _ h9 => h9) rfl dX0_put_14 ?_
      refine lv_iload_n hx hb dX0_put_17 rfl (lv_at hl 1 rfl) ?_
      refine lv_iload_n hx hb dX0_put_18 rfl (lv_at hl 2 rfl) ?_
      refine va_iast (D := D) hx hb hK.1 hP hD hS 1 0 rfl rfl (k_inb hn c_1 c_10) dX0_put_19 (fun H locs hP hD hS => ?_)
      have hP : va_P D vwCl (wC κ c0 a n (upd f (Int32.toNatClampNeg p0) p1)) H := hP
      have hD : va_D A (wC κ c0 a n (upd f (Int32.toNatClampNeg p0) p1)) := hD
      rw [show k_cpt n f p0 p1 = upd f (Int32.toNatClampNeg p0) p1 from by unfold k_cpt; rw [if_neg c_1, if_neg c_10]]
      exact W.vret hx hb hr (fun t ht hW => ⟨⟨(), rfl, trivial, by rw [ht]; exact hP, hD⟩, hS.F ht⟩) hS.2.2 dX0_put_20
set_option maxHeartbeats 4000000 in
set_option maxRecDepth 100000 in
theorem c_J7_fill_53178 (l : Launch) (D : va_G) (κ : Nat → ClassId) (sz : Nat) (a n : Nat) (f : Nat → Int32) (p1 : Int32) (hn : n < 2 ^ 31) : k_muv (S := Unit) l yJ7_fill_53178 wsJ7_fill_53178 0 0 0 0 D κ [.ref a, .int p1] (wI κ a n f) sz (fun (_ : Unit) => True) (fun u => wI κ a n (k_fillF f p1 n)) := by
  refine Met.ofW (cc := cJ7_fill_53178) (maxL := 4) (ret := none) (by decide) rfl ?_
  intro p e s m args below meth c s₁ B hml hv
  obtain ⟨rfl, hsz, hK, hP, hD0⟩ := hv
  have hx := B.exec
  have hb := B.bytes
  have hr := B.returns
  have hts := atoms_spec (ws := wsJ7_fill_53178) B.pre
  skip
  have hlocks := B.notSynchronized
  subst hsz
  have hD := hD0.self (sz := s.heap.size)
  generalize hAe : va_A (wI κ a n f) s.heap.size = A at hD ⊢
  have hA : ∀ q : Nat, s.heap.size ≤ q → A q := fun q h => by rw [← hAe]; exact Or.inr h
  have hS : va_S A s.heap s.heap [] := va_S.rf
  have hP : va_P D vwCl (wI κ a n f) s.heap := hP
  have hl := lv_entry ([.ref a, .int p1]) (n := 4) (Nat.le_of_ble_eq_true rfl)
  rw [lg_entry_eq]
  generalize (lg_sl ([.ref a, .int p1]) ++ List.replicate (4 - (lg_sl ([.ref a, .int p1])).length) Slot.unset).toArray = ls at hl ⊢
  have hl : lv_has ls 4 [(0, .ref a), (1, .int p1)] := hl
  refine lv_iconst (v := 0) hx hb dJ7_fill_53178_0 (by decide) ?_
  refine lv_istore_n (lv' := [(2, .int 0), (0, .ref a), (1, .int p1)]) hx hb dJ7_fill_53178_1 rfl hl (by decide) rfl (fun ls hl => ?_)
  refine lv_aload_n hx hb dJ7_fill_53178_2 rfl (lv_at hl 1 rfl) ?_
  refine va_alen (D := D) hx hb hK.1 hP 0 0 rfl rfl (v := nI n) rfl dJ7_fill_53178_3 ?_
  refine lv_istore_n (lv' := [(3, .int (nI n)), (2, .int 0), (0, .ref a), (1, .int p1)]) hx hb dJ7_fill_53178_4 rfl hl (by decide) rfl (fun ls hl => ?_)
  have loop : ∀ (k i : Nat) (H : Heap) (locs : List Loc) (ls : Array Slot), i + k = n → va_P D vwCl (wI κ a n (k_fillF f p1 i)) H → va_D A (wI κ a n (k_fillF f p1 i)) → va_S A s.heap H locs → lv_has ls 4 [(0, .ref a), (1, .int p1), (2, .int (nI i)), (3, .int (nI n))] → W p l e (headSpec wsJ7_fill_53178 ({ frames := 0, cells := 0, slots := 0, locals := 0 })).room s m ([.ref a, .int p1] : List Value).toArray below meth c H locs 0 0 (MQ below (va_Qv (fun (_ : Unit) => True) (fun _ => k_B D A (wI κ a n (k_fillF f p1 n))) A) ([.ref a, .int p1] : List Value).toArray s 0 0 A) (F0 m 5 ls []) := by
    intro k
    induction k with
    | zero =>
      intro i H locs ls hi hP hD hS hl
      refine lv_iload_n hx hb dJ7_fill_53178_5 rfl (lv_at hl 2 rfl) ?_
      refine lv_iload_n hx hb dJ7_fill_53178_6 rfl (lv_at hl 3 rfl) ?_
      refine lv_icmp_ge (tgt := 20) hx hb dJ7_fill_53178_7 (by decide) (fun c_7 => ?_) (fun c_7 => ?_)
      · skip
        have c_7 : n ≤ i := (nI_leI (a := n) (b := i) (by omega) (by omega)).mp c_7
        have e9 : n = i := by omega
        subst e9
        exact W.vret hx hb hr (fun t ht hW => ⟨⟨(), rfl, trivial, by rw [ht]; exact hP, hD⟩, hS.F ht⟩) hS.2.2 dJ7_fill_53178_20
      · skip
        have c_7 : ¬ (n ≤ i) := fun h9 => c_7 ((nI_leI (a := n) (b := i) (by omega) (by omega)).mpr h9)
        exfalso; omega
    | succ k ih =>
      intro i H locs ls hi hP hD hS hl
      refine lv_iload_n hx hb dJ7_fill_53178_5 rfl (lv_at hl 2 rfl) ?_
      refine lv_iload_n hx hb dJ7_fill_53178_6 rfl (lv_at hl 3 rfl) ?_
      refine lv_icmp_ge (tgt := 20) hx hb dJ7_fill_53178_7 (by decide) (fun c_7 => ?_) (fun c_7 => ?_)
      · skip
        have c_7 : n ≤ i := (nI_leI (a := n) (b := i) (by omega) (by omega)).mp c_7
        exfalso; omega
      · skip
        have c_7 : ¬ (n ≤ i) := fun h9 => c_7 ((nI_leI (a := n) (b := i) (by omega) (by omega)).mpr h9)
        refine lv_aload_n hx hb dJ7_fill_53178_10 rfl (lv_at hl 0 rfl) ?_
        refine lv_iload_n hx hb dJ7_fill_53178_11 rfl (lv_at hl 2 rfl) ?_
        refine lv_iload_n hx hb dJ7_fill_53178_12 rfl (lv_at hl 1 rfl) ?_
        refine k_iast (D := D) (j := i) hx hb hK.1 hP hD hS 0 0 rfl rfl (by omega) (by omega) dJ7_fill_53178_13 (fun H locs hP hD hS => ?_)
        have hP : va_P D vwCl (wI κ a n (upd (k_fillF f p1 i) i p1)) H := hP
        have hD : va_D A (wI κ a n (upd (k_fillF f p1 i) i p1)) := hD
        refine lv_iinc (v := nI (i + 1)) (lv' := [(2, .int (nI (i + 1))), (0, .ref a), (1, .int p1), (3, .int (nI n))]) hx hb dJ7_fill_53178_14 hl (k := 2) rfl (nI_1 _) (by decide) rfl (fun ls hl => ?_)
        refine lv_goto (tgt := 5) hx hb dJ7_fill_53178_17 (by decide) ?_
        exact ih (i + 1) H locs ls (by omega) (by rw [← k_fillF_s]; exact hP) (by rw [← k_fillF_s]; exact hD) hS (lv_sub hl [1, 2, 0, 3] rfl)
  refine loop n 0 _ _ ls (by omega) (by rw [k_fillF_0]; exact hP) (by rw [k_fillF_0]; exact hD) hS (lv_sub hl [2, 3, 1, 0] rfl)
set_option maxHeartbeats 4000000 in
set_option maxRecDepth 100000 in
theorem c_J7_fill_d0a16 (l : Launch) (D : va_G) (κ : Nat → ClassId) (sz : Nat) (a n : Nat) (f : Nat → Int64) (p1 : Int64) (hn : n < 2 ^ 31) : k_muv (S := Unit) l yJ7_fill_d0a16 wsJ7_fill_d0a16 0 0 0 0 D κ [.ref a, .long p1] (wJ κ a n f) sz (fun (_ : Unit) => True) (fun u => wJ κ a n (k_fillJ f p1 n)) := by
  refine Met.ofW (cc := cJ7_fill_d0a16) (maxL := 5) (ret := none) (by decide) rfl ?_
  intro p e s m args below meth c s₁ B hml hv
  obtain ⟨rfl, hsz, hK, hP, hD0⟩ := hv
  have hx := B.exec
  have hb := B.bytes
  have hr := B.returns
  have hts := atoms_spec (ws := wsJ7_fill_d0a16) B.pre
  skip
  have hlocks := B.notSynchronized
  subst hsz
  have hD := hD0.self (sz := s.heap.size)
  generalize hAe : va_A (wJ κ a n f) s.heap.size = A at hD ⊢
  have hA : ∀ q : Nat, s.heap.size ≤ q → A q := fun q h => by rw [← hAe]; exact Or.inr h
  have hS : va_S A s.heap s.heap [] := va_S.rf
  have hP : va_P D vwCl (wJ κ a n f) s.heap := hP
  have hl := lv_entry ([.ref a, .long p1]) (n := 5) (Nat.le_of_ble_eq_true rfl)
  rw [lg_entry_eq]
  generalize (lg_sl ([.ref a, .long p1]) ++ List.replicate (5 - (lg_sl ([.ref a, .long p1])).length) Slot.unset).toArray = ls at hl ⊢
  have hl : lv_has ls 5 [(0, .ref a), (1, .long p1)] := hl
  refine lv_iconst (v := 0) hx hb dJ7_fill_d0a16_0 (by decide) ?_
  refine lv_istore_n (lv' := [(3, .int 0), (0, .ref a), (1, .long p1)]) hx hb dJ7_fill_d0a16_1 rfl hl (by decide) rfl (fun ls hl => ?_)
  refine lv_aload_n hx hb dJ7_fill_d0a16_2 rfl (lv_at hl 1 rfl) ?_
  refine va_alen (D := D) hx hb hK.1 hP 0 1 rfl rfl (v := nI n) rfl dJ7_fill_d0a16_3 ?_
  refine lv_istore (lv' := [(4, .int (nI n)), (3, .int 0), (0, .ref a), (1, .long p1)]) hx hb dJ7_fill_d0a16_4 hl (by decide) rfl (fun ls hl => ?_)
  have loop : ∀ (k i : Nat) (H : Heap) (locs : List Loc) (ls : Array Slot), i + k = n → va_P D vwCl (wJ κ a n (k_fillJ f p1 i)) H → va_D A (wJ κ a n (k_fillJ f p1 i)) → va_S A s.heap H locs → lv_has ls 5 [(0, .ref a), (1, .long p1), (3, .int (nI i)), (4, .int (nI n))] → W p l e (headSpec wsJ7_fill_d0a16 ({ frames := 0, cells := 0, slots := 0, locals := 0 })).room s m ([.ref a, .long p1] : List Value).toArray below meth c H locs 0 0 (MQ below (va_Qv (fun (_ : Unit) => True) (fun _ => k_B D A (wJ κ a n (k_fillJ f p1 n))) A) ([.ref a, .long p1] : List Value).toArray s 0 0 A) (F0 m 6 ls []) := by
    intro k
    induction k with
    | zero =>
      intro i H locs ls hi hP hD hS hl
      refine lv_iload_n hx hb dJ7_fill_d0a16_6 rfl (lv_at hl 2 rfl) ?_
      refine lv_iload hx hb dJ7_fill_d0a16_7 (lv_at hl 3 rfl) ?_
      refine lv_icmp_ge (tgt := 22) hx hb dJ7_fill_d0a16_9 (by decide) (fun c_9 => ?_) (fun c_9 => ?_)
      · skip
        have c_9 : n ≤ i := (nI_leI (a := n) (b := i) (by omega) (by omega)).mp c_9
        have e9 : n = i := by omega
        subst e9
        exact W.vret hx hb hr (fun t ht hW => ⟨⟨(), rfl, trivial, by rw [ht]; exact hP, hD⟩, hS.F ht⟩) hS.2.2 dJ7_fill_d0a16_22
      · skip
        have c_9 : ¬ (n ≤ i) := fun h9 => c_9 ((nI_leI (a := n) (b := i) (by omega) (by omega)).mpr h9)
        exfalso; omega
    | succ k ih =>
      intro i H locs ls hi hP hD hS hl
      refine lv_iload_n hx hb dJ7_fill_d0a16_6 rfl (lv_at hl 2 rfl) ?_
      refine lv_iload hx hb dJ7_fill_d0a16_7 (lv_at hl 3 rfl) ?_
      refine lv_icmp_ge (tgt := 22) hx hb dJ7_fill_d0a16_9 (by decide) (fun c_9 => ?_) (fun c_9 => ?_)
      · skip
        have c_9 : n ≤ i := (nI_leI (a := n) (b := i) (by omega) (by omega)).mp c_9
        exfalso; omega
      · skip
        have c_9 : ¬ (n ≤ i) := fun h9 => c_9 ((nI_leI (a := n) (b := i) (by omega) (by omega)).mpr h9)
        refine lv_aload_n hx hb dJ7_fill_d0a16_12 rfl (lv_at hl 0 rfl) ?_
        refine lv_iload_n hx hb dJ7_fill_d0a16_13 rfl (lv_at hl 2 rfl) ?_
        refine lv_lload_n hx hb dJ7_fill_d0a16_14 rfl (lv_at hl 1 rfl) ?_
        refine k_last (D := D) (j := i) hx hb hK.1 hP hD hS 0 1 rfl rfl (by omega) (by omega) dJ7_fill_d0a16_15 (fun H locs hP hD hS => ?_)
        have hP : va_P D vwCl (wJ κ a n (vp_updL (k_fillJ f p1 i) i p1)) H := hP
        have hD : va_D A (wJ κ a n (vp_updL (k_fillJ f p1 i) i p1)) := hD
        refine lv_iinc (v := nI (i + 1)) (lv' := [(3, .int (nI (i + 1))), (0, .ref a), (1, .long p1), (4, .int (nI n))]) hx hb dJ7_fill_d0a16_16 hl (k := 2) rfl (nI_1 _) (by decide) rfl (fun ls hl => ?_)
        refine lv_goto (tgt := 6) hx hb dJ7_fill_d0a16_19 (by decide) ?_
        exact ih (i + 1) H locs ls (by omega) (by rw [← k_fillJ_s]; exact hP) (by rw [← k_fillJ_s]; exact hD) hS (lv_sub hl [1, 2, 0, 3] rfl)
  refine loop n 0 _ _ ls (by omega) (by rw [k_fillJ_0]; exact hP) (by rw [k_fillJ_0]; exact hD) hS (lv_sub hl [2, 3, 1, 0] rfl)
theorem iwX0_fill_0 : ∀ w ∈ wsX00, w ∈ wsX0_fill := by decide +kernel
set_option maxHeartbeats 4000000 in
set_option maxRecDepth 100000 in
theorem c_X0_fill (l : Launch) (D : va_G) (κ : Nat → ClassId) (sz : Nat) (c0 a n : Nat) (f : Nat → Int32) (p0 : Int32) (hn : n < 2 ^ 31) : k_muv (S := Unit) l yX0_fill wsX0_fill 1 23 0 0 D κ [.ref c0, .int p0] (wC κ c0 a n f) sz (fun (_ : Unit) => True) (fun u => wC κ c0 a n (k_fillF f p0 n)) := by
  refine Met.ofW (cc := cX0_fill) (maxL := 2) (ret := none) (by decide) rfl ?_
  intro p e s m args below meth c s₁ B hml hv
  obtain ⟨rfl, hsz, hK, hP, hD0⟩ := hv
  have hx := B.exec
  have hb := B.bytes
  have hr := B.returns
  have hts := atoms_spec (ws := wsX0_fill) B.pre
  have hown : s.vm.findClass RX0 = some m.cls := findClass_of_methodNamed B.named
  have hlocks := B.notSynchronized
  subst hsz
  have hD := hD0.self (sz := s.heap.size)
  generalize hAe : va_A (wC κ c0 a n f) s.heap.size = A at hD ⊢
  have hA : ∀ q : Nat, s.heap.size ≤ q → A q := fun q h => by rw [← hAe]; exact Or.inr h
  have hS : va_S A s.heap s.heap [] := va_S.rf
  have hP : va_P D vwCl (wC κ c0 a n f) s.heap := hP
  have hl := lv_entry ([.ref c0, .int p0]) (n := 2) (Nat.le_of_ble_eq_true rfl)
  rw [lg_entry_eq]
  generalize (lg_sl ([.ref c0, .int p0]) ++ List.replicate (2 - (lg_sl ([.ref c0, .int p0])).length) Slot.unset).toArray = ls at hl ⊢
  have hl : lv_has ls 2 [(0, .ref c0), (1, .int p0)] := hl
  refine lv_aload_n hx hb dX0_fill_0 rfl (lv_at hl 0 rfl) ?_
  refine va_get (D := D) (ci := 0) (v := .ref a) (C := RX0) (T := TX0) (N := 1) hx hb hts (iwX0_fill_0) hown hK.1 hP 0 rfl rfl 0 (by decide) (hts (.fieldLink RX0 9 "InverterGraphs$Cells" "cells" "[I") (by decide +kernel)) (fun _ h9 => h9) rfl dX0_fill_1 ?_
  refine lv_iload_n hx hb dX0_fill_4 rfl (lv_at hl 1 rfl) ?_
  refine k_cMSv (D := D) (κ := κ) (wn := fun _ => wC κ c0 a n (k_fillF f p0 n)) ⟨hx, hb, hml, hown, hts⟩ (c_J7_fill_53178 l D κ _ a n f p0 (by omega)) (va_cwS 2 hts gX0_fill_J7_fill_53178 rfl rfl rfl (by decide +kernel) ⟨Nat.le_of_ble_eq_true rfl, Nat.le_of_ble_eq_true rfl⟩) hK hP hD hS hA [1] (by decide) rfl (fun _ => rfl) (fun _ => rfl) (As := [.ref a, .int p0]) (rest := []) rfl rfl hl.1 (Nat.le_of_ble_eq_true rfl) dX0_fill_5 ⟨Nat.le_of_ble_eq_true rfl, Nat.le_of_ble_eq_true rfl⟩ (fun u H locs hw9 hP hD hS => ?_)
  exact W.vret hx hb hr (fun t ht hW => ⟨⟨(), rfl, trivial, by rw [ht]; exact hP, hD⟩, hS.F ht⟩) hS.2.2 dX0_fill_8
theorem iwX0_copyFrom_0 : ∀ w ∈ wsX00, w ∈ wsX0_copyFrom := by decide +kernel
set_option maxHeartbeats 4000000 in
set_option maxRecDepth 100000 in
theorem c_X0_copyFrom (l : Launch) (D : va_G) (κ : Nat → ClassId) (sz : Nat) (c0 a c1 a1 n : Nat) (f f1 : Nat → Int32) (hn : n < 2 ^ 31) : k_muv (S := Unit) l yX0_copyFrom wsX0_copyFrom 1 40 0 0 D κ [.ref c0, .ref c1] ((wC κ c0 a n f) ++ (wC κ c1 a1 n f1)) sz (fun (_ : Unit) => True) (fun u => wC κ c0 a n (k_cp n f1 f) ++ wC κ c1 a1 n f1) := by
  refine Met.ofW (cc := cX0_copyFrom) (maxL := 2) (ret := none) (by decide) rfl ?_
  intro p e s m args below meth c s₁ B hml hv
  obtain ⟨rfl, hsz, hK, hP, hD0⟩ := hv
  have hx := B.exec
  have hb := B.bytes
  have hr := B.returns
  have hts := atoms_spec (ws := wsX0_copyFrom) B.pre
  have hown : s.vm.findClass RX0 = some m.cls := findClass_of_methodNamed B.named
  have hlocks := B.notSynchronized
  subst hsz
  have hD := hD0.self (sz := s.heap.size)
  generalize hAe : va_A ((wC κ c0 a n f) ++ (wC κ c1 a1 n f1)) s.heap.size = A at hD ⊢
  have hA : ∀ q : Nat, s.heap.size ≤ q → A q := fun q h => by rw [← hAe]; exact Or.inr h
  have hS : va_S A s.heap s.heap [] := va_S.rf
  have hP : va_P D vwCl ((wC κ c0 a n f) ++ (wC κ c1 a1 n f1)) s.heap := hP
  have hl := lv_entry ([.ref c0, .ref c1]) (n := 2) (Nat.le_of_ble_eq_true rfl)
  rw [lg_entry_eq]
  generalize (lg_sl ([.ref c0, .ref c1]) ++ List.replicate (2 - (lg_sl ([.ref c0, .ref c1])).length) Slot.unset).toArray = ls at hl ⊢
  have hl : lv_has ls 2 [(0, .ref c0), (1, .ref c1)] := hl
  refine lv_aload_n hx hb dX0_copyFrom_0 rfl (lv_at hl 1 rfl) ?_
  refine va_get (D := D) (ci := 0) (v := .ref a1) (C := RX0) (T := TX0) (N := 1) hx hb hts (iwX0_copyFrom_0) hown hK.1 hP 2 rfl rfl 0 (by decide) (hts (.fieldLink RX0 9 "InverterGraphs$Cells" "cells" "[I") (by decide +kernel)) (fun _ h9 => h9) rfl dX0_copyFrom_1 ?_
  refine lv_iconst (v := 0) hx hb dX0_copyFrom_4 (by decide) ?_
  refine lv_aload_n hx hb dX0_copyFrom_5 rfl (lv_at hl 0 rfl) ?_
  refine va_get (D := D) (ci := 0) (v := .ref a) (C := RX0) (T := TX0) (N := 1) hx hb hts (iwX0_copyFrom_0) hown hK.1 hP 0 rfl rfl 0 (by decide) (hts (.fieldLink RX0 9 "InverterGraphs$Cells" "cells" "[I") (by decide +kernel)) (fun _ h9 => h9) rfl dX0_copyFrom_6 ?_
  refine lv_iconst (v := 0) hx hb dX0_copyFrom_9 (by decide) ?_
  refine lv_aload_n hx hb dX0_copyFrom_10 rfl (lv_at hl 0 rfl) ?_
  refine va_get (D := D) (ci := 0) (v := .ref a) (C := RX0) (T := TX0) (N := 1) hx hb hts (iwX0_copyFrom_0) hown hK.1 hP 0 rfl rfl 0 (by decide) (hts (.fieldLink RX0 9 "InverterGraphs$Cells" "cells" "[I") (by decide +kernel)) (fun _ h9 => h9) rfl dX0_copyFrom_11 ?_
  refine va_alen (D := D) hx hb hK.1 hP 1 0 rfl rfl (v := nI n) rfl dX0_copyFrom_14 ?_
  refine lv_aload_n hx hb dX0_copyFrom_15 rfl (lv_at hl 1 rfl) ?_
  refine va_get (D := D) (ci := 0) (v := .ref a1) (C := RX0) (T := TX0) (N := 1) hx hb hts (iwX0_copyFrom_0) hown hK.1 hP 2 rfl rfl 0 (by decide) (hts (.fieldLink RX0 9 "InverterGraphs$Cells" "cells" "[I") (by decide +kernel)) (fun _ h9 => h9) rfl dX0_copyFrom_16 ?_
  refine va_alen (D := D) hx hb hK.1 hP 3 0 rfl rfl (v := nI n) rfl dX0_copyFrom_19 ?_
  have hmn : k_min (nI n) (nI n) = nI n := by unfold k_min; split <;> rfl
  have hnn : ¬ (k_min (nI n) (nI n)) < 0 := by rw [hmn]; exact nI_pos (by omega)
  refine va_mmin hx hb (by rw [hml]; exact hl.1.symm) hown (hts (.methodLink RX0 21 Lib.Math.min.name) (by decide +kernel)) (hts (.static Lib.Math.min.name) (by decide +kernel)) (hts (.initialized "java/lang/Math") (by decide +kernel)) (hts (.code Lib.Math.min.name Lib.Math.min.code 2 (some .int)) (by decide +kernel)) (Nat.le_of_ble_eq_true rfl) (Nat.le_of_ble_eq_true rfl) (Nat.le_of_ble_eq_true rfl) (Nat.le_of_ble_eq_true rfl) dX0_copyFrom_20 ?_
  refine lv_topi (nm_r (hmn) ?_)
  refine va_copyi (D := D) hx hb (by rw [hml]; exact hl.1.symm) hown (hts (.methodLink RX0 27 arraycopyName) (by decide +kernel)) (hts (.native arraycopyName) (by decide +kernel)) (hts (.static arraycopyName) (by decide +kernel)) (hts (.initialized "java/lang/System") (by decide +kernel)) hK.1 hP hD hS 3 1 0 0 rfl rfl rfl rfl rfl (by decide) (by decide) (nI_pos (by omega)) (by rw [nI_clamp (by omega)]; show 0 + n ≤ n; omega) (by rw [nI_clamp (by omega)]; show 0 + n ≤ n; omega) (fun _ _ => rfl) (Nat.le_of_ble_eq_true rfl) (Nat.le_of_ble_eq_true rfl) dX0_copyFrom_23 (fun H locs hP hD hS => ?_)
  have hP : va_P D vwCl ((wC κ c0 a n (va_cpy f1 f (Int32.toNatClampNeg 0) (Int32.toNatClampNeg 0) (Int32.toNatClampNeg (nI n)))) ++ (wC κ c1 a1 n f1)) H := hP
  have hD : va_D A ((wC κ c0 a n (va_cpy f1 f (Int32.toNatClampNeg 0) (Int32.toNatClampNeg 0) (Int32.toNatClampNeg (nI n)))) ++ (wC κ c1 a1 n f1)) := hD
  rw [nI_clamp (by omega)] at hP hD
  have hP : va_P D vwCl (wC κ c0 a n (va_cpy f1 f 0 0 n) ++ wC κ c1 a1 n f1) H := hP
  have hD : va_D A (wC κ c0 a n (va_cpy f1 f 0 0 n) ++ wC κ c1 a1 n f1) := hD
  rw [k_cp_of] at hP hD
  exact W.vret hx hb hr (fun t ht hW => ⟨⟨(), rfl, trivial, by rw [ht]; exact hP, hD⟩, hS.F ht⟩) hS.2.2 dX0_copyFrom_26
