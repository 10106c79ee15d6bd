/-! CONSTRUCTORS -/
def wH (κ : Nat → ClassId) (q : Nat → Nat) (f : Nat → Option Nat) (pl kp : Nat) : va_W := [(q 0, .inr (2, [.ref (q 1), .int (nI pl), .int (nI kp)])), (q 1, .inl (κ 3, 30, .inr (.inr (.inr (.inr f)))))]
def wO (q g h r l e : Nat) : va_W := [(q, .inr (6, [.ref g, .ref h, .ref r, .ref l, .ref e]))]
theorem iwX0_init_0 : ∀ w ∈ wsX00, w ∈ wsX0_init := by decide +kernel
set_option maxHeartbeats 4000000 in
set_option maxRecDepth 100000 in
theorem c_X0_init (l : Launch) (D : va_G) (κ : Nat → ClassId) (sz : Nat) (c0 n : Nat) (p0 : Int32) (hp : p0 = nI n) (hn : n ≤ 400) : k_muv (S := Nat) l yX0_init wsX0_init 1 12 1 400 D κ [.ref c0, .int p0] (wB c0 0 [.null]) sz (fun _ => True) (fun u => wC κ c0 u n (fun _ => 0)) := by
  refine Met.ofW (cc := cX0_init) (maxL := 2) (ret := none) (by decide) rfl ?_
  intro p e s m args below meth c s₁ B hml hv
  obtain ⟨rfl, hsz, hK, hP, hD0⟩ := hv
  have hx := B.exec
  have hb := B.bytes
  have hr := B.returns
  have hts := atoms_spec (ws := wsX0_init) B.pre
  have hown : s.vm.findClass RX0 = some m.cls := findClass_of_methodNamed B.named
  have hlocks := B.notSynchronized
  have hin : meth.name = "<init>" := (name_of_methodNamed B.named B.method).1
  subst hsz
  have hD := hD0.self (sz := s.heap.size)
  generalize hAe : va_A (wB c0 0 [.null]) s.heap.size = A at hD ⊢
  have hA : ∀ q : Nat, s.heap.size ≤ q → A q := fun q h => by rw [← hAe]; exact Or.inr h
  have hS : va_S A s.heap s.heap [] := va_S.rf
  have hP : va_P D vwCl (wB c0 0 [.null]) s.heap := hP
  have hl := lv_entry ([.ref c0, .int p0]) (n := 2) (Nat.le_of_ble_eq_true rfl)
  rw [lg_entry_eq]
  generalize (lg_sl ([.ref c0, .int p0]) ++ List.replicate (2 - (lg_sl ([.ref c0, .int p0])).length) Slot.unset).toArray = ls at hl ⊢
  have hl : lv_has ls 2 [(0, .ref c0), (1, .int p0)] := hl
  subst hp
  have hP : va_P D vwCl (List.flatten [wB c0 0 [.null]]) s.heap := hP
  have hD : va_D A (List.flatten [wB c0 0 [.null]]) := hD
  refine lv_aload_n hx hb dX0_init_0 rfl (lv_at hl 0 rfl) ?_
  refine W.objInit hx hb hown (hts (.methodLink RX0 3 objectInit) (by decide +kernel)) (hts (.instanceMethod objectInit) (by decide +kernel)) (hts (.code objectInit ⟨#[0xb1]⟩ 1 none) (by decide +kernel)) rfl (by rw [hml]; exact hl.1) rfl dX0_init_1 (Nat.le_of_ble_eq_true rfl) (Nat.le_of_ble_eq_true rfl) ?_
  refine W.eq (g2 := F0 m 4 ls []) rfl ?_
  refine lv_aload_n hx hb dX0_init_4 rfl (lv_at hl 0 rfl) ?_
  refine lv_iload_n hx hb dX0_init_5 rfl (lv_at hl 1 rfl) ?_
  refine lv_if_ge (tgt := 13) hx hb dX0_init_6 (by decide) (fun c_6 => ?_) (fun c_6 => ?_)
  · skip
    have c_6 : 0 ≤ n := (nI_leI (a := 0) (b := n) (by omega) (by omega)).mp c_6
    refine lv_iload_n hx hb dX0_init_13 rfl (lv_at hl 1 rfl) ?_
    refine k_newi (D := D) (κ := κ) (k := n) hx hb (hts (.arrayClass .int) (by decide +kernel)) hK hP hD hS hA (by omega) (Nat.le_of_ble_eq_true rfl) (show 0 + n ≤ 400 by omega) dX0_init_14 (fun q_14 H hP hD hS => ?_)
    have hP : va_P D vwCl (List.flatten [wB c0 0 [.null], wI κ q_14 n (fun _ => 0)]) H := hP
    have hD : va_D A (List.flatten [wB c0 0 [.null], wI κ q_14 n (fun _ => 0)]) := hD
    refine W.widen (k := 1) (n := 400) (by omega) (by omega) ?_
    refine va_putF (D := D) (ci := 0) (v := .ref q_14) (ty := (tyX0 0)) (C := RX0) (T := TX0) (N := 1) hx hb hts (iwX0_init_0) tyX0 tyX0_ok nmX0 hown hK.1 hP hD hS 0 rfl rfl 0 (by decide) (hts (.fieldLink RX0 9 "InverterGraphs$Cells" "cells" "[I") (by decide +kernel)) (fun _ h9 => h9) rfl hin rfl (by decide +kernel) rfl rfl (Nat.le_of_ble_eq_true rfl) dX0_init_16 (fun H locs hP hD hS => ?_)
    have hP : va_P D vwCl (List.flatten [wB c0 0 [.ref q_14], wI κ q_14 n (fun _ => 0)]) H := hP
    have hD : va_D A (List.flatten [wB c0 0 [.ref q_14], wI κ q_14 n (fun _ => 0)]) := hD
    exact W.vret hx hb hr (fun t ht hW => ⟨⟨q_14, rfl, trivial, by rw [ht]; exact hP, hD⟩, hS.F ht⟩) hS.2.2 dX0_init_19
  · skip
    have c_6 : ¬ (0 ≤ n) := fun h9 => c_6 ((nI_leI (a := 0) (b := n) (by omega) (by omega)).mpr h9)
    exfalso; omega
theorem iwX3_init_0 : ∀ w ∈ wsX00, w ∈ wsX3_init := by decide +kernel
theorem iwX3_init_3 : ∀ w ∈ wsX30, w ∈ wsX3_init := by decide +kernel
set_option maxHeartbeats 4000000 in
set_option maxRecDepth 100000 in
theorem c_X3_init (l : Launch) (D : va_G) (κ : Nat → ClassId) (sz : Nat) (c0 : Nat) : k_muv (S := (Nat → Nat)) l yX3_init wsX3_init 2 33 2 401 D κ [.ref c0] (wB c0 3 [.null]) sz (fun u => u 0 = c0) (fun u => wL κ u (fun _ => 0)) := by
  refine Met.ofW (cc := cX3_init) (maxL := 1) (ret := none) (by decide) rfl ?_
  intro p e s m args below meth c s₁ B hml hv
  obtain ⟨rfl, hsz, hK, hP, hD0⟩ := hv
  have hx := B.exec
  have hb := B.bytes
  have hr := B.returns
  have hts := atoms_spec (ws := wsX3_init) B.pre
  have hown : s.vm.findClass RX3 = some m.cls := findClass_of_methodNamed B.named
  have hlocks := B.notSynchronized
  have hin : meth.name = "<init>" := (name_of_methodNamed B.named B.method).1
  subst hsz
  have hD := hD0.self (sz := s.heap.size)
  generalize hAe : va_A (wB c0 3 [.null]) s.heap.size = A at hD ⊢
  have hA : ∀ q : Nat, s.heap.size ≤ q → A q := fun q h => by rw [← hAe]; exact Or.inr h
  have hS : va_S A s.heap s.heap [] := va_S.rf
  have hP : va_P D vwCl (wB c0 3 [.null]) s.heap := hP
  have hl := lv_entry ([.ref c0]) (n := 1) (Nat.le_of_ble_eq_true rfl)
  rw [lg_entry_eq]
  generalize (lg_sl ([.ref c0]) ++ List.replicate (1 - (lg_sl ([.ref c0])).length) Slot.unset).toArray = ls at hl ⊢
  have hl : lv_has ls 1 [(0, .ref c0)] := hl
  have hP : va_P D vwCl (List.flatten [wB c0 3 [.null]]) s.heap := hP
  have hD : va_D A (List.flatten [wB c0 3 [.null]]) := hD
  refine lv_aload_n hx hb dX3_init_0 rfl (lv_at hl 0 rfl) ?_
  refine W.objInit hx hb hown (hts (.methodLink RX3 3 objectInit) (by decide +kernel)) (hts (.instanceMethod objectInit) (by decide +kernel)) (hts (.code objectInit ⟨#[0xb1]⟩ 1 none) (by decide +kernel)) rfl (by rw [hml]; exact hl.1) rfl dX3_init_1 (Nat.le_of_ble_eq_true rfl) (Nat.le_of_ble_eq_true rfl) ?_
  refine W.eq (g2 := F0 m 4 ls []) rfl ?_
  refine lv_aload_n hx hb dX3_init_4 rfl (lv_at hl 0 rfl) ?_
  refine k_new (D := D) (κ := κ) (C := RX0) (T := TX0) (N := 1) (ci := 0) (fs := [.null]) hx hb hts (iwX3_init_0) tyX0 tyX0_ok hown (hts (.classLink RX3 9 RX0) (by decide +kernel)) (hts (.instantiable RX0 1) (by decide +kernel)) (hts (.initialized RX0) (by decide +kernel)) hK hP hD hS hA rfl (fun j hj => by rcases (show j = 0 by omega) with rfl <;> rfl) (Nat.le_of_ble_eq_true rfl) (Nat.le_of_ble_eq_true rfl) dX3_init_5 (fun q_5 H hP hD hS => ?_)
  have hP : va_P D vwCl (List.flatten [wB c0 3 [.null], wB q_5 0 [.null]]) H := hP
  have hD : va_D A (List.flatten [wB c0 3 [.null], wB q_5 0 [.null]]) := hD
  refine lv_dup hx hb dX3_init_8 rfl ?_
  refine lv_sipush (v := 400) hx hb dX3_init_9 (by decide) ?_
  refine k_cIv (D := D) (κ := κ) (W0 := [wB c0 3 [.null], wB q_5 0 [.null]]) (Wl := [wB c0 3 [.null]]) (wc := wB q_5 0 [.null]) (w' := fun u_12 => wC κ q_5 u_12 400 (fun _ => 0)) (Wn := fun u_12 => [wB c0 3 [.null], wC κ q_5 u_12 400 (fun _ => 0)]) ⟨hx, hb, hml, hown, hts⟩ (c_X0_init l D κ _ q_5 400 400 (by decide) (by omega)) (cwI 1 hts gX3_init_X0_init rfl rfl rfl (hts (.initialized RX0) (by decide +kernel)) (hts (.methodLink RX3 11 yX0_init) (by decide +kernel)) (hts (.instanceMethod yX0_init) (by decide +kernel)) rfl (by decide +kernel) ⟨Nat.le_of_ble_eq_true rfl, Nat.le_of_ble_eq_true rfl⟩) hK hP hD hS hA rfl (fun _ => rfl) (As := [.int 400]) (rest := [.ref q_5, .ref c0]) rfl rfl hl.1 (Nat.le_of_ble_eq_true rfl) dX3_init_12 ⟨Nat.le_of_ble_eq_true rfl, Nat.le_of_ble_eq_true rfl⟩ (fun u_12 H locs hw_12 hP_12 hD_12 hS => ?_)
  have hP : va_P D vwCl (List.flatten [wB c0 3 [.null], wC κ q_5 u_12 400 (fun _ => 0)]) H := hP_12
  have hD : va_D A (List.flatten [wB c0 3 [.null], wC κ q_5 u_12 400 (fun _ => 0)]) := hD_12
  refine va_putF (D := D) (ci := 3) (v := .ref q_5) (ty := (tyX3 0)) (C := RX3) (T := TX3) (N := 1) hx hb hts (iwX3_init_3) tyX3 tyX3_ok nmX3 hown hK.1 hP hD hS 0 rfl rfl 0 (by decide) (hts (.fieldLink RX3 14 "InverterGraphs$Levels" "levels" "LInverterGraphs$Cells;") (by decide +kernel)) (fun _ h9 => h9) rfl hin rfl (by decide +kernel) rfl rfl (Nat.le_of_ble_eq_true rfl) dX3_init_15 (fun H locs hP hD hS => ?_)
  have hP : va_P D vwCl (List.flatten [wB c0 3 [.ref q_5], wC κ q_5 u_12 400 (fun _ => 0)]) H := hP
  have hD : va_D A (List.flatten [wB c0 3 [.ref q_5], wC κ q_5 u_12 400 (fun _ => 0)]) := hD
  obtain ⟨qq_18, e_0, e_1, e_2⟩ : ∃ qq_18 : Nat → Nat, qq_18 0 = c0 ∧ qq_18 1 = q_5 ∧ qq_18 2 = u_12 := ⟨k_ql [c0, q_5, u_12], rfl, rfl, rfl⟩
  subst e_0
  subst e_1
  subst e_2
  have hP : va_P D vwCl (wL κ qq_18 (fun _ => 0)) H := hP
  have hD : va_D A (wL κ qq_18 (fun _ => 0)) := hD
  exact W.vret hx hb hr (fun t ht hW => ⟨⟨qq_18, rfl, rfl, by rw [ht]; exact hP, hD⟩, hS.F ht⟩) hS.2.2 dX3_init_18
theorem iwX4_init_0 : ∀ w ∈ wsX00, w ∈ wsX4_init := by decide +kernel
theorem iwX4_init_4 : ∀ w ∈ wsX40, w ∈ wsX4_init := by decide +kernel
set_option maxHeartbeats 4000000 in
set_option maxRecDepth 100000 in
theorem c_X4_init (l : Launch) (D : va_G) (κ : Nat → ClassId) (sz : Nat) (c0 : Nat) : k_muv (S := (Nat → Nat)) l yX4_init wsX4_init 2 33 4 802 D κ [.ref c0] (wB c0 4 [.null, .null, .int 0]) sz (fun u => u 0 = c0) (fun u => wE κ u ((fun _ => 0), (fun _ => 0), 0)) := by
  refine Met.ofW (cc := cX4_init) (maxL := 1) (ret := none) (by decide) rfl ?_
  intro p e s m args below meth c s₁ B hml hv
  obtain ⟨rfl, hsz, hK, hP, hD0⟩ := hv
  have hx := B.exec
  have hb := B.bytes
  have hr := B.returns
  have hts := atoms_spec (ws := wsX4_init) B.pre
  have hown : s.vm.findClass RX4 = some m.cls := findClass_of_methodNamed B.named
  have hlocks := B.notSynchronized
  have hin : meth.name = "<init>" := (name_of_methodNamed B.named B.method).1
  subst hsz
  have hD := hD0.self (sz := s.heap.size)
  generalize hAe : va_A (wB c0 4 [.null, .null, .int 0]) s.heap.size = A at hD ⊢
  have hA : ∀ q : Nat, s.heap.size ≤ q → A q := fun q h => by rw [← hAe]; exact Or.inr h
  have hS : va_S A s.heap s.heap [] := va_S.rf
  have hP : va_P D vwCl (wB c0 4 [.null, .null, .int 0]) s.heap := hP
  have hl := lv_entry ([.ref c0]) (n := 1) (Nat.le_of_ble_eq_true rfl)
  rw [lg_entry_eq]
  generalize (lg_sl ([.ref c0]) ++ List.replicate (1 - (lg_sl ([.ref c0])).length) Slot.unset).toArray = ls at hl ⊢
  have hl : lv_has ls 1 [(0, .ref c0)] := hl
  have hP : va_P D vwCl (List.flatten [wB c0 4 [.null, .null, .int 0]]) s.heap := hP
  have hD : va_D A (List.flatten [wB c0 4 [.null, .null, .int 0]]) := hD
  refine lv_aload_n hx hb dX4_init_0 rfl (lv_at hl 0 rfl) ?_
  refine W.objInit hx hb hown (hts (.methodLink RX4 3 objectInit) (by decide +kernel)) (hts (.instanceMethod objectInit) (by decide +kernel)) (hts (.code objectInit ⟨#[0xb1]⟩ 1 none) (by decide +kernel)) rfl (by rw [hml]; exact hl.1) rfl dX4_init_1 (Nat.le_of_ble_eq_true rfl) (Nat.le_of_ble_eq_true rfl) ?_
  refine W.eq (g2 := F0 m 4 ls []) rfl ?_
  refine lv_aload_n hx hb dX4_init_4 rfl (lv_at hl 0 rfl) ?_
  refine k_new (D := D) (κ := κ) (C := RX0) (T := TX0) (N := 1) (ci := 0) (fs := [.null]) hx hb hts (iwX4_init_0) tyX0 tyX0_ok hown (hts (.classLink RX4 9 RX0) (by decide +kernel)) (hts (.instantiable RX0 1) (by decide +kernel)) (hts (.initialized RX0) (by decide +kernel)) hK hP hD hS hA rfl (fun j hj => by rcases (show j = 0 by omega) with rfl <;> rfl) (Nat.le_of_ble_eq_true rfl) (Nat.le_of_ble_eq_true rfl) dX4_init_5 (fun q_5 H hP hD hS => ?_)
  have hP : va_P D vwCl (List.flatten [wB c0 4 [.null, .null, .int 0], wB q_5 0 [.null]]) H := hP
  have hD : va_D A (List.flatten [wB c0 4 [.null, .null, .int 0], wB q_5 0 [.null]]) := hD
  refine lv_dup hx hb dX4_init_8 rfl ?_
  refine lv_sipush (v := 400) hx hb dX4_init_9 (by decide) ?_
  refine k_cIv (D := D) (κ := κ) (W0 := [wB c0 4 [.null, .null, .int 0], wB q_5 0 [.null]]) (Wl := [wB c0 4 [.null, .null, .int 0]]) (wc := wB q_5 0 [.null]) (w' := fun u_12 => wC κ q_5 u_12 400 (fun _ => 0)) (Wn := fun u_12 => [wB c0 4 [.null, .null, .int 0], wC κ q_5 u_12 400 (fun _ => 0)]) ⟨hx, hb, hml, hown, hts⟩ (c_X0_init l D κ _ q_5 400 400 (by decide) (by omega)) (cwI 1 hts gX4_init_X0_init rfl rfl rfl (hts (.initialized RX0) (by decide +kernel)) (hts (.methodLink RX4 11 yX0_init) (by decide +kernel)) (hts (.instanceMethod yX0_init) (by decide +kernel)) rfl (by decide +kernel) ⟨Nat.le_of_ble_eq_true rfl, Nat.le_of_ble_eq_true rfl⟩) hK hP hD hS hA rfl (fun _ => rfl) (As := [.int 400]) (rest := [.ref q_5, .ref c0]) rfl rfl hl.1 (Nat.le_of_ble_eq_true rfl) dX4_init_12 ⟨Nat.le_of_ble_eq_true rfl, Nat.le_of_ble_eq_true rfl⟩ (fun u_12 H locs hw_12 hP_12 hD_12 hS => ?_)
  have hP : va_P D vwCl (List.flatten [wB c0 4 [.null, .null, .int 0], wC κ q_5 u_12 400 (fun _ => 0)]) H := hP_12
  have hD : va_D A (List.flatten [wB c0 4 [.null, .null, .int 0], wC κ q_5 u_12 400 (fun _ => 0)]) := hD_12
  refine va_putF (D := D) (ci := 4) (v := .ref q_5) (ty := (tyX4 0)) (C := RX4) (T := TX4) (N := 3) hx hb hts (iwX4_init_4) tyX4 tyX4_ok nmX4 hown hK.1 hP hD hS 0 rfl rfl 0 (by decide) (hts (.fieldLink RX4 14 "InverterGraphs$Reach" "marks" "LInverterGraphs$Cells;") (by decide +kernel)) (fun _ h9 => h9) rfl hin rfl (by decide +kernel) rfl rfl (Nat.le_of_ble_eq_true rfl) dX4_init_15 (fun H locs hP hD hS => ?_)
  have hP : va_P D vwCl (List.flatten [wB c0 4 [.ref q_5, .null, .int 0], wC κ q_5 u_12 400 (fun _ => 0)]) H := hP
  have hD : va_D A (List.flatten [wB c0 4 [.ref q_5, .null, .int 0], wC κ q_5 u_12 400 (fun _ => 0)]) := hD
  refine lv_aload_n hx hb dX4_init_18 rfl (lv_at hl 0 rfl) ?_
  refine k_new (D := D) (κ := κ) (C := RX0) (T := TX0) (N := 1) (ci := 0) (fs := [.null]) hx hb hts (iwX4_init_0) tyX0 tyX0_ok hown (hts (.classLink RX4 9 RX0) (by decide +kernel)) (hts (.instantiable RX0 1) (by decide +kernel)) (hts (.initialized RX0) (by decide +kernel)) hK hP hD hS hA rfl (fun j hj => by rcases (show j = 0 by omega) with rfl <;> rfl) (Nat.le_of_ble_eq_true rfl) (Nat.le_of_ble_eq_true rfl) dX4_init_19 (fun q_19 H hP hD hS => ?_)
  have hP : va_P D vwCl (List.flatten [wB c0 4 [.ref q_5, .null, .int 0], wC κ q_5 u_12 400 (fun _ => 0), wB q_19 0 [.null]]) H := hP
  have hD : va_D A (List.flatten [wB c0 4 [.ref q_5, .null, .int 0], wC κ q_5 u_12 400 (fun _ => 0), wB q_19 0 [.null]]) := hD
  refine lv_dup hx hb dX4_init_22 rfl ?_
  refine lv_sipush (v := 400) hx hb dX4_init_23 (by decide) ?_
  refine k_cIv (D := D) (κ := κ) (W0 := [wB c0 4 [.ref q_5, .null, .int 0], wC κ q_5 u_12 400 (fun _ => 0), wB q_19 0 [.null]]) (Wl := [wB c0 4 [.ref q_5, .null, .int 0], wC κ q_5 u_12 400 (fun _ => 0)]) (wc := wB q_19 0 [.null]) (w' := fun u_26 => wC κ q_19 u_26 400 (fun _ => 0)) (Wn := fun u_26 => [wB c0 4 [.ref q_5, .null, .int 0], wC κ q_5 u_12 400 (fun _ => 0), wC κ q_19 u_26 400 (fun _ => 0)]) ⟨hx, hb, hml, hown, hts⟩ (c_X0_init l D κ _ q_19 400 400 (by decide) (by omega)) (cwI 1 hts gX4_init_X0_init rfl rfl rfl (hts (.initialized RX0) (by decide +kernel)) (hts (.methodLink RX4 11 yX0_init) (by decide +kernel)) (hts (.instanceMethod yX0_init) (by decide +kernel)) rfl (by decide +kernel) ⟨Nat.le_of_ble_eq_true rfl, Nat.le_of_ble_eq_true rfl⟩) hK hP hD hS hA rfl (fun _ => rfl) (As := [.int 400]) (rest := [.ref q_19, .ref c0]) rfl rfl hl.1 (Nat.le_of_ble_eq_true rfl) dX4_init_26 ⟨Nat.le_of_ble_eq_true rfl, Nat.le_of_ble_eq_true rfl⟩ (fun u_26 H locs hw_26 hP_26 hD_26 hS => ?_)
  have hP : va_P D vwCl (List.flatten [wB c0 4 [.ref q_5, .null, .int 0], wC κ q_5 u_12 400 (fun _ => 0), wC κ q_19 u_26 400 (fun _ => 0)]) H := hP_26
  have hD : va_D A (List.flatten [wB c0 4 [.ref q_5, .null, .int 0], wC κ q_5 u_12 400 (fun _ => 0), wC κ q_19 u_26 400 (fun _ => 0)]) := hD_26
  refine va_putF (D := D) (ci := 4) (v := .ref q_19) (ty := (tyX4 1)) (C := RX4) (T := TX4) (N := 3) hx hb hts (iwX4_init_4) tyX4 tyX4_ok nmX4 hown hK.1 hP hD hS 0 rfl rfl 1 (by decide) (hts (.fieldLink RX4 20 "InverterGraphs$Reach" "waiting" "LInverterGraphs$Cells;") (by decide +kernel)) (fun _ h9 => h9) rfl hin rfl (by decide +kernel) rfl rfl (Nat.le_of_ble_eq_true rfl) dX4_init_29 (fun H locs hP hD hS => ?_)
  have hP : va_P D vwCl (List.flatten [wB c0 4 [.ref q_5, .ref q_19, .int 0], wC κ q_5 u_12 400 (fun _ => 0), wC κ q_19 u_26 400 (fun _ => 0)]) H := hP
  have hD : va_D A (List.flatten [wB c0 4 [.ref q_5, .ref q_19, .int 0], wC κ q_5 u_12 400 (fun _ => 0), wC κ q_19 u_26 400 (fun _ => 0)]) := hD
  obtain ⟨qq_32, e_0, e_1, e_2, e_3, e_4⟩ : ∃ qq_32 : Nat → Nat, qq_32 0 = c0 ∧ qq_32 1 = q_5 ∧ qq_32 2 = q_19 ∧ qq_32 3 = u_12 ∧ qq_32 4 = u_26 := ⟨k_ql [c0, q_5, q_19, u_12, u_26], rfl, rfl, rfl, rfl, rfl⟩
  subst e_0
  subst e_1
  subst e_2
  subst e_3
  subst e_4
  have hP : va_P D vwCl (wE κ qq_32 ((fun _ => 0), (fun _ => 0), 0)) H := hP.sub [0, 1, 3, 2, 4] rfl
  have hD : va_D A (wE κ qq_32 ((fun _ => 0), (fun _ => 0), 0)) := hD.sub [0, 1, 3, 2, 4] (by decide) rfl
  exact W.vret hx hb hr (fun t ht hW => ⟨⟨qq_32, rfl, rfl, by rw [ht]; exact hP, hD⟩, hS.F ht⟩) hS.2.2 dX4_init_32
theorem iwX5_init_5 : ∀ w ∈ wsX50, w ∈ wsX5_init := by decide +kernel
set_option maxHeartbeats 4000000 in
set_option maxRecDepth 100000 in
theorem c_X5_init (l : Launch) (D : va_G) (κ : Nat → ClassId) (sz : Nat) (c0 : Nat) : k_muv (S := (Nat → Nat)) l yX5_init wsX5_init 1 12 1 400 D κ [.ref c0] (wB c0 5 [.null, .int 0]) sz (fun u => u 0 = c0) (fun u => wR κ u (fun _ => 0) 0) := by
  refine Met.ofW (cc := cX5_init) (maxL := 1) (ret := none) (by decide) rfl ?_
  intro p e s m args below meth c s₁ B hml hv
  obtain ⟨rfl, hsz, hK, hP, hD0⟩ := hv
  have hx := B.exec
  have hb := B.bytes
  have hr := B.returns
  have hts := atoms_spec (ws := wsX5_init) B.pre
  have hown : s.vm.findClass RX5 = some m.cls := findClass_of_methodNamed B.named
  have hlocks := B.notSynchronized
  have hin : meth.name = "<init>" := (name_of_methodNamed B.named B.method).1
  subst hsz
  have hD := hD0.self (sz := s.heap.size)
  generalize hAe : va_A (wB c0 5 [.null, .int 0]) s.heap.size = A at hD ⊢
  have hA : ∀ q : Nat, s.heap.size ≤ q → A q := fun q h => by rw [← hAe]; exact Or.inr h
  have hS : va_S A s.heap s.heap [] := va_S.rf
  have hP : va_P D vwCl (wB c0 5 [.null, .int 0]) s.heap := hP
  have hl := lv_entry ([.ref c0]) (n := 1) (Nat.le_of_ble_eq_true rfl)
  rw [lg_entry_eq]
  generalize (lg_sl ([.ref c0]) ++ List.replicate (1 - (lg_sl ([.ref c0])).length) Slot.unset).toArray = ls at hl ⊢
  have hl : lv_has ls 1 [(0, .ref c0)] := hl
  have hP : va_P D vwCl (List.flatten [wB c0 5 [.null, .int 0]]) s.heap := hP
  have hD : va_D A (List.flatten [wB c0 5 [.null, .int 0]]) := hD
  refine lv_aload_n hx hb dX5_init_0 rfl (lv_at hl 0 rfl) ?_
  refine W.objInit hx hb hown (hts (.methodLink RX5 3 objectInit) (by decide +kernel)) (hts (.instanceMethod objectInit) (by decide +kernel)) (hts (.code objectInit ⟨#[0xb1]⟩ 1 none) (by decide +kernel)) rfl (by rw [hml]; exact hl.1) rfl dX5_init_1 (Nat.le_of_ble_eq_true rfl) (Nat.le_of_ble_eq_true rfl) ?_
  refine W.eq (g2 := F0 m 4 ls []) rfl ?_
  refine lv_aload_n hx hb dX5_init_4 rfl (lv_at hl 0 rfl) ?_
  refine lv_sipush (v := 400) hx hb dX5_init_5 (by decide) ?_
  refine lv_topi (nm_r (show (400 : Int32) = nI 400 by decide) ?_)
  refine k_newl (D := D) (κ := κ) (k := 400) hx hb (hts (.arrayClass .long) (by decide +kernel)) hK hP hD hS hA (by omega) (Nat.le_of_ble_eq_true rfl) (Nat.le_of_ble_eq_true rfl) dX5_init_8 (fun q_8 H hP hD hS => ?_)
  have hP : va_P D vwCl (List.flatten [wB c0 5 [.null, .int 0], wJ κ q_8 400 (fun _ => 0)]) H := hP
  have hD : va_D A (List.flatten [wB c0 5 [.null, .int 0], wJ κ q_8 400 (fun _ => 0)]) := hD
  refine va_putF (D := D) (ci := 5) (v := .ref q_8) (ty := (tyX5 0)) (C := RX5) (T := TX5) (N := 2) hx hb hts (iwX5_init_5) tyX5 tyX5_ok nmX5 hown hK.1 hP hD hS 0 rfl rfl 0 (by decide) (hts (.fieldLink RX5 9 "InverterGraphs$Rows" "rows" "[J") (by decide +kernel)) (fun _ h9 => h9) rfl hin rfl (by decide +kernel) rfl rfl (Nat.le_of_ble_eq_true rfl) dX5_init_10 (fun H locs hP hD hS => ?_)
  have hP : va_P D vwCl (List.flatten [wB c0 5 [.ref q_8, .int 0], wJ κ q_8 400 (fun _ => 0)]) H := hP
  have hD : va_D A (List.flatten [wB c0 5 [.ref q_8, .int 0], wJ κ q_8 400 (fun _ => 0)]) := hD
  obtain ⟨qq_13, e_0, e_1⟩ : ∃ qq_13 : Nat → Nat, qq_13 0 = c0 ∧ qq_13 1 = q_8 := ⟨k_ql [c0, q_8], rfl, rfl⟩
  subst e_0
  subst e_1
  have hP : va_P D vwCl (wR κ qq_13 (fun _ => 0) 0) H := hP
  have hD : va_D A (wR κ qq_13 (fun _ => 0) 0) := hD
  exact W.vret hx hb hr (fun t ht hW => ⟨⟨qq_13, rfl, rfl, by rw [ht]; exact hP, hD⟩, hS.F ht⟩) hS.2.2 dX5_init_13
theorem iwX2_init_2 : ∀ w ∈ wsX20, w ∈ wsX2_init := by decide +kernel
set_option maxHeartbeats 4000000 in
set_option maxRecDepth 100000 in
theorem c_X2_init (l : Launch) (D : va_G) (κ : Nat → ClassId) (sz : Nat) (c0 : Nat) : k_muvO (S := (Nat → Nat)) l yX2_init wsX2_init 1 12 1 30 D κ [.ref c0] (wB c0 2 [.null, .int 0, .int 0]) sz (fun u => u 0 = c0) (fun u => wH κ u (fun _ => none) 0 0) := by
  refine Met.ofW (cc := cX2_init) (maxL := 1) (ret := none) (by decide) rfl ?_
  intro p e s m args below meth c s₁ B hml hv
  obtain ⟨rfl, ⟨hsz, hK, hP, hD0⟩, hAO⟩ := hv
  have hx := B.exec
  have hb := B.bytes
  have hr := B.returns
  have hts := atoms_spec (ws := wsX2_init) B.pre
  have hown : s.vm.findClass RX2 = some m.cls := findClass_of_methodNamed B.named
  have hlocks := B.notSynchronized
  have hin : meth.name = "<init>" := (name_of_methodNamed B.named B.method).1
  subst hsz
  have hD := hD0.self (sz := s.heap.size)
  generalize hAe : va_A (wB c0 2 [.null, .int 0, .int 0]) s.heap.size = A at hD ⊢
  have hA : ∀ q : Nat, s.heap.size ≤ q → A q := fun q h => by rw [← hAe]; exact Or.inr h
  have hS : va_S A s.heap s.heap [] := va_S.rf
  have hP : va_P D vwCl (wB c0 2 [.null, .int 0, .int 0]) s.heap := hP
  have hl := lv_entry ([.ref c0]) (n := 1) (Nat.le_of_ble_eq_true rfl)
  rw [lg_entry_eq]
  generalize (lg_sl ([.ref c0]) ++ List.replicate (1 - (lg_sl ([.ref c0])).length) Slot.unset).toArray = ls at hl ⊢
  have hl : lv_has ls 1 [(0, .ref c0)] := hl
  have hP : va_P D vwCl (List.flatten [wB c0 2 [.null, .int 0, .int 0]]) s.heap := hP
  have hD : va_D A (List.flatten [wB c0 2 [.null, .int 0, .int 0]]) := hD
  refine lv_aload_n hx hb dX2_init_0 rfl (lv_at hl 0 rfl) ?_
  refine W.objInit hx hb hown (hts (.methodLink RX2 3 objectInit) (by decide +kernel)) (hts (.instanceMethod objectInit) (by decide +kernel)) (hts (.code objectInit ⟨#[0xb1]⟩ 1 none) (by decide +kernel)) rfl (by rw [hml]; exact hl.1) rfl dX2_init_1 (Nat.le_of_ble_eq_true rfl) (Nat.le_of_ble_eq_true rfl) ?_
  refine W.eq (g2 := F0 m 4 ls []) rfl ?_
  refine lv_aload_n hx hb dX2_init_4 rfl (lv_at hl 0 rfl) ?_
  refine lv_bipush (v := 30) hx hb dX2_init_5 (by decide) ?_
  refine k_newq (D := D) (κ := κ) hx hb hown (hts (.classLink RX2 9 "InverterGraphs$Graph") (by decide +kernel)) hAO hK hP hD hS hA (Nat.le_of_ble_eq_true rfl) (Nat.le_of_ble_eq_true rfl) dX2_init_7 (fun q_7 H hP hD hS => ?_)
  have hP : va_P D vwCl (List.flatten [wB c0 2 [.null, .int 0, .int 0], wQ κ q_7 (fun _ => none)]) H := hP
  have hD : va_D A (List.flatten [wB c0 2 [.null, .int 0, .int 0], wQ κ q_7 (fun _ => none)]) := hD
  refine va_putF (D := D) (ci := 2) (v := .ref q_7) (ty := (tyX2 0)) (C := RX2) (T := TX2) (N := 3) hx hb hts (iwX2_init_2) tyX2 tyX2_ok nmX2 hown hK.1 hP hD hS 0 rfl rfl 0 (by decide) (hts (.fieldLink RX2 11 "InverterGraphs$History" "ring" "[LInverterGraphs$Graph;") (by decide +kernel)) (fun _ h9 => h9) rfl hin rfl (by decide +kernel) rfl rfl (Nat.le_of_ble_eq_true rfl) dX2_init_10 (fun H locs hP hD hS => ?_)
  have hP : va_P D vwCl (List.flatten [wB c0 2 [.ref q_7, .int 0, .int 0], wQ κ q_7 (fun _ => none)]) H := hP
  have hD : va_D A (List.flatten [wB c0 2 [.ref q_7, .int 0, .int 0], wQ κ q_7 (fun _ => none)]) := hD
  obtain ⟨qq_13, e_0, e_1⟩ : ∃ qq_13 : Nat → Nat, qq_13 0 = c0 ∧ qq_13 1 = q_7 := ⟨k_ql [c0, q_7], rfl, rfl⟩
  subst e_0
  subst e_1
  have hP : va_P D vwCl (wH κ qq_13 (fun _ => none) 0 0) H := hP
  have hD : va_D A (wH κ qq_13 (fun _ => none) 0 0) := hD
  exact W.vret hx hb hr (fun t ht hW => ⟨⟨qq_13, rfl, rfl, by rw [ht]; exact hP, hD⟩, hS.F ht⟩) hS.2.2 dX2_init_13
theorem iwX1_init_0 : ∀ w ∈ wsX00, w ∈ wsX1_init := by decide +kernel
theorem iwX1_init_1 : ∀ w ∈ wsX10, w ∈ wsX1_init := by decide +kernel
set_option maxHeartbeats 4000000 in
set_option maxRecDepth 100000 in
theorem c_X1_init (l : Launch) (D : va_G) (κ : Nat → ClassId) (sz : Nat) (c0 : Nat) : k_muv (S := (Nat → Nat)) l yX1_init wsX1_init 2 44 14 2807 D κ [.ref c0] (wB c0 1 [.null, .null, .null, .null, .null, .null, .null, .int 0, .int 0, .int 0]) sz (fun u => u 0 = c0) (fun u => wG κ u (k_cpt 400 (fun _ => 0) (nI 0) 0) (k_cpt 400 (fun _ => 0) (nI 0) (-1)) (k_cpt 400 (fun _ => 0) (nI 0) (-1)) (k_cpt 400 (fun _ => 0) (nI 0) (-1)) (k_cpt 400 (fun _ => 0) (nI 0) (-1)) (fun _ => 0) (fun _ => 0) 1 0 0) := by
  refine Met.ofW (cc := cX1_init) (maxL := 1) (ret := none) (by decide) rfl ?_
  intro p e s m args below meth c s₁ B hml hv
  obtain ⟨rfl, hsz, hK, hP, hD0⟩ := hv
  have hx := B.exec
  have hb := B.bytes
  have hr := B.returns
  have hts := atoms_spec (ws := wsX1_init) B.pre
  have hown : s.vm.findClass RX1 = some m.cls := findClass_of_methodNamed B.named
  have hlocks := B.notSynchronized
  have hin : meth.name = "<init>" := (name_of_methodNamed B.named B.method).1
  subst hsz
  have hD := hD0.self (sz := s.heap.size)
  generalize hAe : va_A (wB c0 1 [.null, .null, .null, .null, .null, .null, .null, .int 0, .int 0, .int 0]) s.heap.size = A at hD ⊢
  have hA : ∀ q : Nat, s.heap.size ≤ q → A q := fun q h => by rw [← hAe]; exact Or.inr h
  have hS : va_S A s.heap s.heap [] := va_S.rf
  have hP : va_P D vwCl (wB c0 1 [.null, .null, .null, .null, .null, .null, .null, .int 0, .int 0, .int 0]) s.heap := hP
  have hl := lv_entry ([.ref c0]) (n := 1) (Nat.le_of_ble_eq_true rfl)
  rw [lg_entry_eq]
  generalize (lg_sl ([.ref c0]) ++ List.replicate (1 - (lg_sl ([.ref c0])).length) Slot.unset).toArray = ls at hl ⊢
  have hl : lv_has ls 1 [(0, .ref c0)] := hl
  have hP : va_P D vwCl (List.flatten [wB c0 1 [.null, .null, .null, .null, .null, .null, .null, .int 0, .int 0, .int 0]]) s.heap := hP
  have hD : va_D A (List.flatten [wB c0 1 [.null, .null, .null, .null, .null, .null, .null, .int 0, .int 0, .int 0]]) := hD
  refine lv_aload_n hx hb dX1_init_0 rfl (lv_at hl 0 rfl) ?_
  refine W.objInit hx hb hown (hts (.methodLink RX1 3 objectInit) (by decide +kernel)) (hts (.instanceMethod objectInit) (by decide +kernel)) (hts (.code objectInit ⟨#[0xb1]⟩ 1 none) (by decide +kernel)) rfl (by rw [hml]; exact hl.1) rfl dX1_init_1 (Nat.le_of_ble_eq_true rfl) (Nat.le_of_ble_eq_true rfl) ?_
  refine W.eq (g2 := F0 m 4 ls []) rfl ?_
  refine lv_aload_n hx hb dX1_init_4 rfl (lv_at hl 0 rfl) ?_
  refine k_new (D := D) (κ := κ) (C := RX0) (T := TX0) (N := 1) (ci := 0) (fs := [.null]) hx hb hts (iwX1_init_0) tyX0 tyX0_ok hown (hts (.classLink RX1 9 RX0) (by decide +kernel)) (hts (.instantiable RX0 1) (by decide +kernel)) (hts (.initialized RX0) (by decide +kernel)) hK hP hD hS hA rfl (fun j hj => by rcases (show j = 0 by omega) with rfl <;> rfl) (Nat.le_of_ble_eq_true rfl) (Nat.le_of_ble_eq_true rfl) dX1_init_5 (fun q_5 H hP hD hS => ?_)
  have hP : va_P D vwCl (List.flatten [wB c0 1 [.null, .null, .null, .null, .null, .null, .null, .int 0, .int 0, .int 0], wB q_5 0 [.null]]) H := hP
  have hD : va_D A (List.flatten [wB c0 1 [.null, .null, .null, .null, .null, .null, .null, .int 0, .int 0, .int 0], wB q_5 0 [.null]]) := hD
  refine lv_dup hx hb dX1_init_8 rfl ?_
  refine lv_sipush (v := 400) hx hb dX1_init_9 (by decide) ?_
  refine k_cIv (D := D) (κ := κ) (W0 := [wB c0 1 [.null, .null, .null, .null, .null, .null, .null, .int 0, .int 0, .int 0], wB q_5 0 [.null]]) (Wl := [wB c0 1 [.null, .null, .null, .null, .null, .null, .null, .int 0, .int 0, .int 0]]) (wc := wB q_5 0 [.null]) (w' := fun u_12 => wC κ q_5 u_12 400 (fun _ => 0)) (Wn := fun u_12 => [wB c0 1 [.null, .null, .null, .null, .null, .null, .null, .int 0, .int 0, .int 0], wC κ q_5 u_12 400 (fun _ => 0)]) ⟨hx, hb, hml, hown, hts⟩ (c_X0_init l D κ _ q_5 400 400 (by decide) (by omega)) (cwI 1 hts gX1_init_X0_init rfl rfl rfl (hts (.initialized RX0) (by decide +kernel)) (hts (.methodLink RX1 11 yX0_init) (by decide +kernel)) (hts (.instanceMethod yX0_init) (by decide +kernel)) rfl (by decide +kernel) ⟨Nat.le_of_ble_eq_true rfl, Nat.le_of_ble_eq_true rfl⟩) hK hP hD hS hA rfl (fun _ => rfl) (As := [.int 400]) (rest := [.ref q_5, .ref c0]) rfl rfl hl.1 (Nat.le_of_ble_eq_true rfl) dX1_init_12 ⟨Nat.le_of_ble_eq_true rfl, Nat.le_of_ble_eq_true rfl⟩ (fun u_12 H locs hw_12 hP_12 hD_12 hS => ?_)
  have hP : va_P D vwCl (List.flatten [wB c0 1 [.null, .null, .null, .null, .null, .null, .null, .int 0, .int 0, .int 0], wC κ q_5 u_12 400 (fun _ => 0)]) H := hP_12
  have hD : va_D A (List.flatten [wB c0 1 [.null, .null, .null, .null, .null, .null, .null, .int 0, .int 0, .int 0], wC κ q_5 u_12 400 (fun _ => 0)]) := hD_12
  refine va_putF (D := D) (ci := 1) (v := .ref q_5) (ty := (tyX1 0)) (C := RX1) (T := TX1) (N := 10) hx hb hts (iwX1_init_1) tyX1 tyX1_ok nmX1 hown hK.1 hP hD hS 0 rfl rfl 0 (by decide) (hts (.fieldLink RX1 14 "InverterGraphs$Graph" "sorts" "LInverterGraphs$Cells;") (by decide +kernel)) (fun _ h9 => h9) rfl hin rfl (by decide +kernel) rfl rfl (Nat.le_of_ble_eq_true rfl) dX1_init_15 (fun H locs hP hD hS => ?_)
  have hP : va_P D vwCl (List.flatten [wB c0 1 [.ref q_5, .null, .null, .null, .null, .null, .null, .int 0, .int 0, .int 0], wC κ q_5 u_12 400 (fun _ => 0)]) H := hP
  have hD : va_D A (List.flatten [wB c0 1 [.ref q_5, .null, .null, .null, .null, .null, .null, .int 0, .int 0, .int 0], wC κ q_5 u_12 400 (fun _ => 0)]) := hD
  refine lv_aload_n hx hb dX1_init_18 rfl (lv_at hl 0 rfl) ?_
  refine k_new (D := D) (κ := κ) (C := RX0) (T := TX0) (N := 1) (ci := 0) (fs := [.null]) hx hb hts (iwX1_init_0) tyX0 tyX0_ok hown (hts (.classLink RX1 9 RX0) (by decide +kernel)) (hts (.instantiable RX0 1) (by decide +kernel)) (hts (.initialized RX0) (by decide +kernel)) hK hP hD hS hA rfl (fun j hj => by rcases (show j = 0 by omega) with rfl <;> rfl) (Nat.le_of_ble_eq_true rfl) (Nat.le_of_ble_eq_true rfl) dX1_init_19 (fun q_19 H hP hD hS => ?_)
  have hP : va_P D vwCl (List.flatten [wB c0 1 [.ref q_5, .null, .null, .null, .null, .null, .null, .int 0, .int 0, .int 0], wC κ q_5 u_12 400 (fun _ => 0), wB q_19 0 [.null]]) H := hP
  have hD : va_D A (List.flatten [wB c0 1 [.ref q_5, .null, .null, .null, .null, .null, .null, .int 0, .int 0, .int 0], wC κ q_5 u_12 400 (fun _ => 0), wB q_19 0 [.null]]) := hD
  refine lv_dup hx hb dX1_init_22 rfl ?_
  refine lv_sipush (v := 400) hx hb dX1_init_23 (by decide) ?_
  refine k_cIv (D := D) (κ := κ) (W0 := [wB c0 1 [.ref q_5, .null, .null, .null, .null, .null, .null, .int 0, .int 0, .int 0], wC κ q_5 u_12 400 (fun _ => 0), wB q_19 0 [.null]]) (Wl := [wB c0 1 [.ref q_5, .null, .null, .null, .null, .null, .null, .int 0, .int 0, .int 0], wC κ q_5 u_12 400 (fun _ => 0)]) (wc := wB q_19 0 [.null]) (w' := fun u_26 => wC κ q_19 u_26 400 (fun _ => 0)) (Wn := fun u_26 => [wB c0 1 [.ref q_5, .null, .null, .null, .null, .null, .null, .int 0, .int 0, .int 0], wC κ q_5 u_12 400 (fun _ => 0), wC κ q_19 u_26 400 (fun _ => 0)]) ⟨hx, hb, hml, hown, hts⟩ (c_X0_init l D κ _ q_19 400 400 (by decide) (by omega)) (cwI 1 hts gX1_init_X0_init rfl rfl rfl (hts (.initialized RX0) (by decide +kernel)) (hts (.methodLink RX1 11 yX0_init) (by decide +kernel)) (hts (.instanceMethod yX0_init) (by decide +kernel)) rfl (by decide +kernel) ⟨Nat.le_of_ble_eq_true rfl, Nat.le_of_ble_eq_true rfl⟩) hK hP hD hS hA rfl (fun _ => rfl) (As := [.int 400]) (rest := [.ref q_19, .ref c0]) rfl rfl hl.1 (Nat.le_of_ble_eq_true rfl) dX1_init_26 ⟨Nat.le_of_ble_eq_true rfl, Nat.le_of_ble_eq_true rfl⟩ (fun u_26 H locs hw_26 hP_26 hD_26 hS => ?_)
  have hP : va_P D vwCl (List.flatten [wB c0 1 [.ref q_5, .null, .null, .null, .null, .null, .null, .int 0, .int 0, .int 0], wC κ q_5 u_12 400 (fun _ => 0), wC κ q_19 u_26 400 (fun _ => 0)]) H := hP_26
  have hD : va_D A (List.flatten [wB c0 1 [.ref q_5, .null, .null, .null, .null, .null, .null, .int 0, .int 0, .int 0], wC κ q_5 u_12 400 (fun _ => 0), wC κ q_19 u_26 400 (fun _ => 0)]) := hD_26
  refine va_putF (D := D) (ci := 1) (v := .ref q_19) (ty := (tyX1 1)) (C := RX1) (T := TX1) (N := 10) hx hb hts (iwX1_init_1) tyX1 tyX1_ok nmX1 hown hK.1 hP hD hS 0 rfl rfl 1 (by decide) (hts (.fieldLink RX1 20 "InverterGraphs$Graph" "lessers" "LInverterGraphs$Cells;") (by decide +kernel)) (fun _ h9 => h9) rfl hin rfl (by decide +kernel) rfl rfl (Nat.le_of_ble_eq_true rfl) dX1_init_29 (fun H locs hP hD hS => ?_)
  have hP : va_P D vwCl (List.flatten [wB c0 1 [.ref q_5, .ref q_19, .null, .null, .null, .null, .null, .int 0, .int 0, .int 0], wC κ q_5 u_12 400 (fun _ => 0), wC κ q_19 u_26 400 (fun _ => 0)]) H := hP
  have hD : va_D A (List.flatten [wB c0 1 [.ref q_5, .ref q_19, .null, .null, .null, .null, .null, .int 0, .int 0, .int 0], wC κ q_5 u_12 400 (fun _ => 0), wC κ q_19 u_26 400 (fun _ => 0)]) := hD
  refine lv_aload_n hx hb dX1_init_32 rfl (lv_at hl 0 rfl) ?_
  refine k_new (D := D) (κ := κ) (C := RX0) (T := TX0) (N := 1) (ci := 0) (fs := [.null]) hx hb hts (iwX1_init_0) tyX0 tyX0_ok hown (hts (.classLink RX1 9 RX0) (by decide +kernel)) (hts (.instantiable RX0 1) (by decide +kernel)) (hts (.initialized RX0) (by decide +kernel)) hK hP hD hS hA rfl (fun j hj => by rcases (show j = 0 by omega) with rfl <;> rfl) (Nat.le_of_ble_eq_true rfl) (Nat.le_of_ble_eq_true rfl) dX1_init_33 (fun q_33 H hP hD hS => ?_)
  have hP : va_P D vwCl (List.flatten [wB c0 1 [.ref q_5, .ref q_19, .null, .null, .null, .null, .null, .int 0, .int 0, .int 0], wC κ q_5 u_12 400 (fun _ => 0), wC κ q_19 u_26 400 (fun _ => 0), wB q_33 0 [.null]]) H := hP
  have hD : va_D A (List.flatten [wB c0 1 [.ref q_5, .ref q_19, .null, .null, .null, .null, .null, .int 0, .int 0, .int 0], wC κ q_5 u_12 400 (fun _ => 0), wC κ q_19 u_26 400 (fun _ => 0), wB q_33 0 [.null]]) := hD
  refine lv_dup hx hb dX1_init_36 rfl ?_
  refine lv_sipush (v := 400) hx hb dX1_init_37 (by decide) ?_
  refine k_cIv (D := D) (κ := κ) (W0 := [wB c0 1 [.ref q_5, .ref q_19, .null, .null, .null, .null, .null, .int 0, .int 0, .int 0], wC κ q_5 u_12 400 (fun _ => 0), wC κ q_19 u_26 400 (fun _ => 0), wB q_33 0 [.null]]) (Wl := [wB c0 1 [.ref q_5, .ref q_19, .null, .null, .null, .null, .null, .int 0, .int 0, .int 0], wC κ q_5 u_12 400 (fun _ => 0), wC κ q_19 u_26 400 (fun _ => 0)]) (wc := wB q_33 0 [.null]) (w' := fun u_40 => wC κ q_33 u_40 400 (fun _ => 0)) (Wn := fun u_40 => [wB c0 1 [.ref q_5, .ref q_19, .null, .null, .null, .null, .null, .int 0, .int 0, .int 0], wC κ q_5 u_12 400 (fun _ => 0), wC κ q_19 u_26 400 (fun _ => 0), wC κ q_33 u_40 400 (fun _ => 0)]) ⟨hx, hb, hml, hown, hts⟩ (c_X0_init l D κ _ q_33 400 400 (by decide) (by omega)) (cwI 1 hts gX1_init_X0_init rfl rfl rfl (hts (.initialized RX0) (by decide +kernel)) (hts (.methodLink RX1 11 yX0_init) (by decide +kernel)) (hts (.instanceMethod yX0_init) (by decide +kernel)) rfl (by decide +kernel) ⟨Nat.le_of_ble_eq_true rfl, Nat.le_of_ble_eq_true rfl⟩) hK hP hD hS hA rfl (fun _ => rfl) (As := [.int 400]) (rest := [.ref q_33, .ref c0]) rfl rfl hl.1 (Nat.le_of_ble_eq_true rfl) dX1_init_40 ⟨Nat.le_of_ble_eq_true rfl, Nat.le_of_ble_eq_true rfl⟩ (fun u_40 H locs hw_40 hP_40 hD_40 hS => ?_)
  have hP : va_P D vwCl (List.flatten [wB c0 1 [.ref q_5, .ref q_19, .null, .null, .null, .null, .null, .int 0, .int 0, .int 0], wC κ q_5 u_12 400 (fun _ => 0), wC κ q_19 u_26 400 (fun _ => 0), wC κ q_33 u_40 400 (fun _ => 0)]) H := hP_40
  have hD : va_D A (List.flatten [wB c0 1 [.ref q_5, .ref q_19, .null, .null, .null, .null, .null, .int 0, .int 0, .int 0], wC κ q_5 u_12 400 (fun _ => 0), wC κ q_19 u_26 400 (fun _ => 0), wC κ q_33 u_40 400 (fun _ => 0)]) := hD_40
  refine va_putF (D := D) (ci := 1) (v := .ref q_33) (ty := (tyX1 2)) (C := RX1) (T := TX1) (N := 10) hx hb hts (iwX1_init_1) tyX1 tyX1_ok nmX1 hown hK.1 hP hD hS 0 rfl rfl 2 (by decide) (hts (.fieldLink RX1 23 "InverterGraphs$Graph" "greaters" "LInverterGraphs$Cells;") (by decide +kernel)) (fun _ h9 => h9) rfl hin rfl (by decide +kernel) rfl rfl (Nat.le_of_ble_eq_true rfl) dX1_init_43 (fun H locs hP hD hS => ?_)
  have hP : va_P D vwCl (List.flatten [wB c0 1 [.ref q_5, .ref q_19, .ref q_33, .null, .null, .null, .null, .int 0, .int 0, .int 0], wC κ q_5 u_12 400 (fun _ => 0), wC κ q_19 u_26 400 (fun _ => 0), wC κ q_33 u_40 400 (fun _ => 0)]) H := hP
  have hD : va_D A (List.flatten [wB c0 1 [.ref q_5, .ref q_19, .ref q_33, .null, .null, .null, .null, .int 0, .int 0, .int 0], wC κ q_5 u_12 400 (fun _ => 0), wC κ q_19 u_26 400 (fun _ => 0), wC κ q_33 u_40 400 (fun _ => 0)]) := hD
  refine lv_aload_n hx hb dX1_init_46 rfl (lv_at hl 0 rfl) ?_
  refine k_new (D := D) (κ := κ) (C := RX0) (T := TX0) (N := 1) (ci := 0) (fs := [.null]) hx hb hts (iwX1_init_0) tyX0 tyX0_ok hown (hts (.classLink RX1 9 RX0) (by decide +kernel)) (hts (.instantiable RX0 1) (by decide +kernel)) (hts (.initialized RX0) (by decide +kernel)) hK hP hD hS hA rfl (fun j hj => by rcases (show j = 0 by omega) with rfl <;> rfl) (Nat.le_of_ble_eq_true rfl) (Nat.le_of_ble_eq_true rfl) dX1_init_47 (fun q_47 H hP hD hS => ?_)
  have hP : va_P D vwCl (List.flatten [wB c0 1 [.ref q_5, .ref q_19, .ref q_33, .null, .null, .null, .null, .int 0, .int 0, .int 0], wC κ q_5 u_12 400 (fun _ => 0), wC κ q_19 u_26 400 (fun _ => 0), wC κ q_33 u_40 400 (fun _ => 0), wB q_47 0 [.null]]) H := hP
  have hD : va_D A (List.flatten [wB c0 1 [.ref q_5, .ref q_19, .ref q_33, .null, .null, .null, .null, .int 0, .int 0, .int 0], wC κ q_5 u_12 400 (fun _ => 0), wC κ q_19 u_26 400 (fun _ => 0), wC κ q_33 u_40 400 (fun _ => 0), wB q_47 0 [.null]]) := hD
  refine lv_dup hx hb dX1_init_50 rfl ?_
  refine lv_sipush (v := 400) hx hb dX1_init_51 (by decide) ?_
  refine k_cIv (D := D) (κ := κ) (W0 := [wB c0 1 [.ref q_5, .ref q_19, .ref q_33, .null, .null, .null, .null, .int 0, .int 0, .int 0], wC κ q_5 u_12 400 (fun _ => 0), wC κ q_19 u_26 400 (fun _ => 0), wC κ q_33 u_40 400 (fun _ => 0), wB q_47 0 [.null]]) (Wl := [wB c0 1 [.ref q_5, .ref q_19, .ref q_33, .null, .null, .null, .null, .int 0, .int 0, .int 0], wC κ q_5 u_12 400 (fun _ => 0), wC κ q_19 u_26 400 (fun _ => 0), wC κ q_33 u_40 400 (fun _ => 0)]) (wc := wB q_47 0 [.null]) (w' := fun u_54 => wC κ q_47 u_54 400 (fun _ => 0)) (Wn := fun u_54 => [wB c0 1 [.ref q_5, .ref q_19, .ref q_33, .null, .null, .null, .null, .int 0, .int 0, .int 0], wC κ q_5 u_12 400 (fun _ => 0), wC κ q_19 u_26 400 (fun _ => 0), wC κ q_33 u_40 400 (fun _ => 0), wC κ q_47 u_54 400 (fun _ => 0)]) ⟨hx, hb, hml, hown, hts⟩ (c_X0_init l D κ _ q_47 400 400 (by decide) (by omega)) (cwI 1 hts gX1_init_X0_init rfl rfl rfl (hts (.initialized RX0) (by decide +kernel)) (hts (.methodLink RX1 11 yX0_init) (by decide +kernel)) (hts (.instanceMethod yX0_init) (by decide +kernel)) rfl (by decide +kernel) ⟨Nat.le_of_ble_eq_true rfl, Nat.le_of_ble_eq_true rfl⟩) hK hP hD hS hA rfl (fun _ => rfl) (As := [.int 400]) (rest := [.ref q_47, .ref c0]) rfl rfl hl.1 (Nat.le_of_ble_eq_true rfl) dX1_init_54 ⟨Nat.le_of_ble_eq_true rfl, Nat.le_of_ble_eq_true rfl⟩ (fun u_54 H locs hw_54 hP_54 hD_54 hS => ?_)
  have hP : va_P D vwCl (List.flatten [wB c0 1 [.ref q_5, .ref q_19, .ref q_33, .null, .null, .null, .null, .int 0, .int 0, .int 0], wC κ q_5 u_12 400 (fun _ => 0), wC κ q_19 u_26 400 (fun _ => 0), wC κ q_33 u_40 400 (fun _ => 0), wC κ q_47 u_54 400 (fun _ => 0)]) H := hP_54
  have hD : va_D A (List.flatten [wB c0 1 [.ref q_5, .ref q_19, .ref q_33, .null, .null, .null, .null, .int 0, .int 0, .int 0], wC κ q_5 u_12 400 (fun _ => 0), wC κ q_19 u_26 400 (fun _ => 0), wC κ q_33 u_40 400 (fun _ => 0), wC κ q_47 u_54 400 (fun _ => 0)]) := hD_54
  refine va_putF (D := D) (ci := 1) (v := .ref q_47) (ty := (tyX1 3)) (C := RX1) (T := TX1) (N := 10) hx hb hts (iwX1_init_1) tyX1 tyX1_ok nmX1 hown hK.1 hP hD hS 0 rfl rfl 3 (by decide) (hts (.fieldLink RX1 26 "InverterGraphs$Graph" "nexts" "LInverterGraphs$Cells;") (by decide +kernel)) (fun _ h9 => h9) rfl hin rfl (by decide +kernel) rfl rfl (Nat.le_of_ble_eq_true rfl) dX1_init_57 (fun H locs hP hD hS => ?_)
  have hP : va_P D vwCl (List.flatten [wB c0 1 [.ref q_5, .ref q_19, .ref q_33, .ref q_47, .null, .null, .null, .int 0, .int 0, .int 0], wC κ q_5 u_12 400 (fun _ => 0), wC κ q_19 u_26 400 (fun _ => 0), wC κ q_33 u_40 400 (fun _ => 0), wC κ q_47 u_54 400 (fun _ => 0)]) H := hP
  have hD : va_D A (List.flatten [wB c0 1 [.ref q_5, .ref q_19, .ref q_33, .ref q_47, .null, .null, .null, .int 0, .int 0, .int 0], wC κ q_5 u_12 400 (fun _ => 0), wC κ q_19 u_26 400 (fun _ => 0), wC κ q_33 u_40 400 (fun _ => 0), wC κ q_47 u_54 400 (fun _ => 0)]) := hD
  refine lv_aload_n hx hb dX1_init_60 rfl (lv_at hl 0 rfl) ?_
  refine k_new (D := D) (κ := κ) (C := RX0) (T := TX0) (N := 1) (ci := 0) (fs := [.null]) hx hb hts (iwX1_init_0) tyX0 tyX0_ok hown (hts (.classLink RX1 9 RX0) (by decide +kernel)) (hts (.instantiable RX0 1) (by decide +kernel)) (hts (.initialized RX0) (by decide +kernel)) hK hP hD hS hA rfl (fun j hj => by rcases (show j = 0 by omega) with rfl <;> rfl) (Nat.le_of_ble_eq_true rfl) (Nat.le_of_ble_eq_true rfl) dX1_init_61 (fun q_61 H hP hD hS => ?_)
  have hP : va_P D vwCl (List.flatten [wB c0 1 [.ref q_5, .ref q_19, .ref q_33, .ref q_47, .null, .null, .null, .int 0, .int 0, .int 0], wC κ q_5 u_12 400 (fun _ => 0), wC κ q_19 u_26 400 (fun _ => 0), wC κ q_33 u_40 400 (fun _ => 0), wC κ q_47 u_54 400 (fun _ => 0), wB q_61 0 [.null]]) H := hP
  have hD : va_D A (List.flatten [wB c0 1 [.ref q_5, .ref q_19, .ref q_33, .ref q_47, .null, .null, .null, .int 0, .int 0, .int 0], wC κ q_5 u_12 400 (fun _ => 0), wC κ q_19 u_26 400 (fun _ => 0), wC κ q_33 u_40 400 (fun _ => 0), wC κ q_47 u_54 400 (fun _ => 0), wB q_61 0 [.null]]) := hD
  refine lv_dup hx hb dX1_init_64 rfl ?_
  refine lv_sipush (v := 400) hx hb dX1_init_65 (by decide) ?_
  refine k_cIv (D := D) (κ := κ) (W0 := [wB c0 1 [.ref q_5, .ref q_19, .ref q_33, .ref q_47, .null, .null, .null, .int 0, .int 0, .int 0], wC κ q_5 u_12 400 (fun _ => 0), wC κ q_19 u_26 400 (fun _ => 0), wC κ q_33 u_40 400 (fun _ => 0), wC κ q_47 u_54 400 (fun _ => 0), wB q_61 0 [.null]]) (Wl := [wB c0 1 [.ref q_5, .ref q_19, .ref q_33, .ref q_47, .null, .null, .null, .int 0, .int 0, .int 0], wC κ q_5 u_12 400 (fun _ => 0), wC κ q_19 u_26 400 (fun _ => 0), wC κ q_33 u_40 400 (fun _ => 0), wC κ q_47 u_54 400 (fun _ => 0)]) (wc := wB q_61 0 [.null]) (w' := fun u_68 => wC κ q_61 u_68 400 (fun _ => 0)) (Wn := fun u_68 => [wB c0 1 [.ref q_5, .ref q_19, .ref q_33, .ref q_47, .null, .null, .null, .int 0, .int 0, .int 0], wC κ q_5 u_12 400 (fun _ => 0), wC κ q_19 u_26 400 (fun _ => 0), wC κ q_33 u_40 400 (fun _ => 0), wC κ q_47 u_54 400 (fun _ => 0), wC κ q_61 u_68 400 (fun _ => 0)]) ⟨hx, hb, hml, hown, hts⟩ (c_X0_init l D κ _ q_61 400 400 (by decide) (by omega)) (cwI 1 hts gX1_init_X0_init rfl rfl rfl (hts (.initialized RX0) (by decide +kernel)) (hts (.methodLink RX1 11 yX0_init) (by decide +kernel)) (hts (.instanceMethod yX0_init) (by decide +kernel)) rfl (by decide +kernel) ⟨Nat.le_of_ble_eq_true rfl, Nat.le_of_ble_eq_true rfl⟩) hK hP hD hS hA rfl (fun _ => rfl) (As := [.int 400]) (rest := [.ref q_61, .ref c0]) rfl rfl hl.1 (Nat.le_of_ble_eq_true rfl) dX1_init_68 ⟨Nat.le_of_ble_eq_true rfl, Nat.le_of_ble_eq_true rfl⟩ (fun u_68 H locs hw_68 hP_68 hD_68 hS => ?_)
  have hP : va_P D vwCl (List.flatten [wB c0 1 [.ref q_5, .ref q_19, .ref q_33, .ref q_47, .null, .null, .null, .int 0, .int 0, .int 0], wC κ q_5 u_12 400 (fun _ => 0), wC κ q_19 u_26 400 (fun _ => 0), wC κ q_33 u_40 400 (fun _ => 0), wC κ q_47 u_54 400 (fun _ => 0), wC κ q_61 u_68 400 (fun _ => 0)]) H := hP_68
  have hD : va_D A (List.flatten [wB c0 1 [.ref q_5, .ref q_19, .ref q_33, .ref q_47, .null, .null, .null, .int 0, .int 0, .int 0], wC κ q_5 u_12 400 (fun _ => 0), wC κ q_19 u_26 400 (fun _ => 0), wC κ q_33 u_40 400 (fun _ => 0), wC κ q_47 u_54 400 (fun _ => 0), wC κ q_61 u_68 400 (fun _ => 0)]) := hD_68
  refine va_putF (D := D) (ci := 1) (v := .ref q_61) (ty := (tyX1 4)) (C := RX1) (T := TX1) (N := 10) hx hb hts (iwX1_init_1) tyX1 tyX1_ok nmX1 hown hK.1 hP hD hS 0 rfl rfl 4 (by decide) (hts (.fieldLink RX1 29 "InverterGraphs$Graph" "standIns" "LInverterGraphs$Cells;") (by decide +kernel)) (fun _ h9 => h9) rfl hin rfl (by decide +kernel) rfl rfl (Nat.le_of_ble_eq_true rfl) dX1_init_71 (fun H locs hP hD hS => ?_)
  have hP : va_P D vwCl (List.flatten [wB c0 1 [.ref q_5, .ref q_19, .ref q_33, .ref q_47, .ref q_61, .null, .null, .int 0, .int 0, .int 0], wC κ q_5 u_12 400 (fun _ => 0), wC κ q_19 u_26 400 (fun _ => 0), wC κ q_33 u_40 400 (fun _ => 0), wC κ q_47 u_54 400 (fun _ => 0), wC κ q_61 u_68 400 (fun _ => 0)]) H := hP
  have hD : va_D A (List.flatten [wB c0 1 [.ref q_5, .ref q_19, .ref q_33, .ref q_47, .ref q_61, .null, .null, .int 0, .int 0, .int 0], wC κ q_5 u_12 400 (fun _ => 0), wC κ q_19 u_26 400 (fun _ => 0), wC κ q_33 u_40 400 (fun _ => 0), wC κ q_47 u_54 400 (fun _ => 0), wC κ q_61 u_68 400 (fun _ => 0)]) := hD
  refine lv_aload_n hx hb dX1_init_74 rfl (lv_at hl 0 rfl) ?_
  refine k_new (D := D) (κ := κ) (C := RX0) (T := TX0) (N := 1) (ci := 0) (fs := [.null]) hx hb hts (iwX1_init_0) tyX0 tyX0_ok hown (hts (.classLink RX1 9 RX0) (by decide +kernel)) (hts (.instantiable RX0 1) (by decide +kernel)) (hts (.initialized RX0) (by decide +kernel)) hK hP hD hS hA rfl (fun j hj => by rcases (show j = 0 by omega) with rfl <;> rfl) (Nat.le_of_ble_eq_true rfl) (Nat.le_of_ble_eq_true rfl) dX1_init_75 (fun q_75 H hP hD hS => ?_)
  have hP : va_P D vwCl (List.flatten [wB c0 1 [.ref q_5, .ref q_19, .ref q_33, .ref q_47, .ref q_61, .null, .null, .int 0, .int 0, .int 0], wC κ q_5 u_12 400 (fun _ => 0), wC κ q_19 u_26 400 (fun _ => 0), wC κ q_33 u_40 400 (fun _ => 0), wC κ q_47 u_54 400 (fun _ => 0), wC κ q_61 u_68 400 (fun _ => 0), wB q_75 0 [.null]]) H := hP
  have hD : va_D A (List.flatten [wB c0 1 [.ref q_5, .ref q_19, .ref q_33, .ref q_47, .ref q_61, .null, .null, .int 0, .int 0, .int 0], wC κ q_5 u_12 400 (fun _ => 0), wC κ q_19 u_26 400 (fun _ => 0), wC κ q_33 u_40 400 (fun _ => 0), wC κ q_47 u_54 400 (fun _ => 0), wC κ q_61 u_68 400 (fun _ => 0), wB q_75 0 [.null]]) := hD
  refine lv_dup hx hb dX1_init_78 rfl ?_
  refine lv_bipush (v := 40) hx hb dX1_init_79 (by decide) ?_
  refine k_cIv (D := D) (κ := κ) (W0 := [wB c0 1 [.ref q_5, .ref q_19, .ref q_33, .ref q_47, .ref q_61, .null, .null, .int 0, .int 0, .int 0], wC κ q_5 u_12 400 (fun _ => 0), wC κ q_19 u_26 400 (fun _ => 0), wC κ q_33 u_40 400 (fun _ => 0), wC κ q_47 u_54 400 (fun _ => 0), wC κ q_61 u_68 400 (fun _ => 0), wB q_75 0 [.null]]) (Wl := [wB c0 1 [.ref q_5, .ref q_19, .ref q_33, .ref q_47, .ref q_61, .null, .null, .int 0, .int 0, .int 0], wC κ q_5 u_12 400 (fun _ => 0), wC κ q_19 u_26 400 (fun _ => 0), wC κ q_33 u_40 400 (fun _ => 0), wC κ q_47 u_54 400 (fun _ => 0), wC κ q_61 u_68 400 (fun _ => 0)]) (wc := wB q_75 0 [.null]) (w' := fun u_81 => wC κ q_75 u_81 40 (fun _ => 0)) (Wn := fun u_81 => [wB c0 1 [.ref q_5, .ref q_19, .ref q_33, .ref q_47, .ref q_61, .null, .null, .int 0, .int 0, .int 0], wC κ q_5 u_12 400 (fun _ => 0), wC κ q_19 u_26 400 (fun _ => 0), wC κ q_33 u_40 400 (fun _ => 0), wC κ q_47 u_54 400 (fun _ => 0), wC κ q_61 u_68 400 (fun _ => 0), wC κ q_75 u_81 40 (fun _ => 0)]) ⟨hx, hb, hml, hown, hts⟩ (c_X0_init l D κ _ q_75 40 40 (by decide) (by omega)) (cwI 1 hts gX1_init_X0_init rfl rfl rfl (hts (.initialized RX0) (by decide +kernel)) (hts (.methodLink RX1 11 yX0_init) (by decide +kernel)) (hts (.instanceMethod yX0_init) (by decide +kernel)) rfl (by decide +kernel) ⟨Nat.le_of_ble_eq_true rfl, Nat.le_of_ble_eq_true rfl⟩) hK hP hD hS hA rfl (fun _ => rfl) (As := [.int 40]) (rest := [.ref q_75, .ref c0]) rfl rfl hl.1 (Nat.le_of_ble_eq_true rfl) dX1_init_81 ⟨Nat.le_of_ble_eq_true rfl, Nat.le_of_ble_eq_true rfl⟩ (fun u_81 H locs hw_81 hP_81 hD_81 hS => ?_)
  have hP : va_P D vwCl (List.flatten [wB c0 1 [.ref q_5, .ref q_19, .ref q_33, .ref q_47, .ref q_61, .null, .null, .int 0, .int 0, .int 0], wC κ q_5 u_12 400 (fun _ => 0), wC κ q_19 u_26 400 (fun _ => 0), wC κ q_33 u_40 400 (fun _ => 0), wC κ q_47 u_54 400 (fun _ => 0), wC κ q_61 u_68 400 (fun _ => 0), wC κ q_75 u_81 40 (fun _ => 0)]) H := hP_81
  have hD : va_D A (List.flatten [wB c0 1 [.ref q_5, .ref q_19, .ref q_33, .ref q_47, .ref q_61, .null, .null, .int 0, .int 0, .int 0], wC κ q_5 u_12 400 (fun _ => 0), wC κ q_19 u_26 400 (fun _ => 0), wC κ q_33 u_40 400 (fun _ => 0), wC κ q_47 u_54 400 (fun _ => 0), wC κ q_61 u_68 400 (fun _ => 0), wC κ q_75 u_81 40 (fun _ => 0)]) := hD_81
  refine va_putF (D := D) (ci := 1) (v := .ref q_75) (ty := (tyX1 5)) (C := RX1) (T := TX1) (N := 10) hx hb hts (iwX1_init_1) tyX1 tyX1_ok nmX1 hown hK.1 hP hD hS 0 rfl rfl 5 (by decide) (hts (.fieldLink RX1 32 "InverterGraphs$Graph" "outputs" "LInverterGraphs$Cells;") (by decide +kernel)) (fun _ h9 => h9) rfl hin rfl (by decide +kernel) rfl rfl (Nat.le_of_ble_eq_true rfl) dX1_init_84 (fun H locs hP hD hS => ?_)
  have hP : va_P D vwCl (List.flatten [wB c0 1 [.ref q_5, .ref q_19, .ref q_33, .ref q_47, .ref q_61, .ref q_75, .null, .int 0, .int 0, .int 0], wC κ q_5 u_12 400 (fun _ => 0), wC κ q_19 u_26 400 (fun _ => 0), wC κ q_33 u_40 400 (fun _ => 0), wC κ q_47 u_54 400 (fun _ => 0), wC κ q_61 u_68 400 (fun _ => 0), wC κ q_75 u_81 40 (fun _ => 0)]) H := hP
  have hD : va_D A (List.flatten [wB c0 1 [.ref q_5, .ref q_19, .ref q_33, .ref q_47, .ref q_61, .ref q_75, .null, .int 0, .int 0, .int 0], wC κ q_5 u_12 400 (fun _ => 0), wC κ q_19 u_26 400 (fun _ => 0), wC κ q_33 u_40 400 (fun _ => 0), wC κ q_47 u_54 400 (fun _ => 0), wC κ q_61 u_68 400 (fun _ => 0), wC κ q_75 u_81 40 (fun _ => 0)]) := hD
  refine lv_aload_n hx hb dX1_init_87 rfl (lv_at hl 0 rfl) ?_
  refine k_new (D := D) (κ := κ) (C := RX0) (T := TX0) (N := 1) (ci := 0) (fs := [.null]) hx hb hts (iwX1_init_0) tyX0 tyX0_ok hown (hts (.classLink RX1 9 RX0) (by decide +kernel)) (hts (.instantiable RX0 1) (by decide +kernel)) (hts (.initialized RX0) (by decide +kernel)) hK hP hD hS hA rfl (fun j hj => by rcases (show j = 0 by omega) with rfl <;> rfl) (Nat.le_of_ble_eq_true rfl) (Nat.le_of_ble_eq_true rfl) dX1_init_88 (fun q_88 H hP hD hS => ?_)
  have hP : va_P D vwCl (List.flatten [wB c0 1 [.ref q_5, .ref q_19, .ref q_33, .ref q_47, .ref q_61, .ref q_75, .null, .int 0, .int 0, .int 0], wC κ q_5 u_12 400 (fun _ => 0), wC κ q_19 u_26 400 (fun _ => 0), wC κ q_33 u_40 400 (fun _ => 0), wC κ q_47 u_54 400 (fun _ => 0), wC κ q_61 u_68 400 (fun _ => 0), wC κ q_75 u_81 40 (fun _ => 0), wB q_88 0 [.null]]) H := hP
  have hD : va_D A (List.flatten [wB c0 1 [.ref q_5, .ref q_19, .ref q_33, .ref q_47, .ref q_61, .ref q_75, .null, .int 0, .int 0, .int 0], wC κ q_5 u_12 400 (fun _ => 0), wC κ q_19 u_26 400 (fun _ => 0), wC κ q_33 u_40 400 (fun _ => 0), wC κ q_47 u_54 400 (fun _ => 0), wC κ q_61 u_68 400 (fun _ => 0), wC κ q_75 u_81 40 (fun _ => 0), wB q_88 0 [.null]]) := hD
  refine lv_dup hx hb dX1_init_91 rfl ?_
  refine lv_bipush (v := 40) hx hb dX1_init_92 (by decide) ?_
  refine k_cIv (D := D) (κ := κ) (W0 := [wB c0 1 [.ref q_5, .ref q_19, .ref q_33, .ref q_47, .ref q_61, .ref q_75, .null, .int 0, .int 0, .int 0], wC κ q_5 u_12 400 (fun _ => 0), wC κ q_19 u_26 400 (fun _ => 0), wC κ q_33 u_40 400 (fun _ => 0), wC κ q_47 u_54 400 (fun _ => 0), wC κ q_61 u_68 400 (fun _ => 0), wC κ q_75 u_81 40 (fun _ => 0), wB q_88 0 [.null]]) (Wl := [wB c0 1 [.ref q_5, .ref q_19, .ref q_33, .ref q_47, .ref q_61, .ref q_75, .null, .int 0, .int 0, .int 0], wC κ q_5 u_12 400 (fun _ => 0), wC κ q_19 u_26 400 (fun _ => 0), wC κ q_33 u_40 400 (fun _ => 0), wC κ q_47 u_54 400 (fun _ => 0), wC κ q_61 u_68 400 (fun _ => 0), wC κ q_75 u_81 40 (fun _ => 0)]) (wc := wB q_88 0 [.null]) (w' := fun u_94 => wC κ q_88 u_94 40 (fun _ => 0)) (Wn := fun u_94 => [wB c0 1 [.ref q_5, .ref q_19, .ref q_33, .ref q_47, .ref q_61, .ref q_75, .null, .int 0, .int 0, .int 0], wC κ q_5 u_12 400 (fun _ => 0), wC κ q_19 u_26 400 (fun _ => 0), wC κ q_33 u_40 400 (fun _ => 0), wC κ q_47 u_54 400 (fun _ => 0), wC κ q_61 u_68 400 (fun _ => 0), wC κ q_75 u_81 40 (fun _ => 0), wC κ q_88 u_94 40 (fun _ => 0)]) ⟨hx, hb, hml, hown, hts⟩ (c_X0_init l D κ _ q_88 40 40 (by decide) (by omega)) (cwI 1 hts gX1_init_X0_init rfl rfl rfl (hts (.initialized RX0) (by decide +kernel)) (hts (.methodLink RX1 11 yX0_init) (by decide +kernel)) (hts (.instanceMethod yX0_init) (by decide +kernel)) rfl (by decide +kernel) ⟨Nat.le_of_ble_eq_true rfl, Nat.le_of_ble_eq_true rfl⟩) hK hP hD hS hA rfl (fun _ => rfl) (As := [.int 40]) (rest := [.ref q_88, .ref c0]) rfl rfl hl.1 (Nat.le_of_ble_eq_true rfl) dX1_init_94 ⟨Nat.le_of_ble_eq_true rfl, Nat.le_of_ble_eq_true rfl⟩ (fun u_94 H locs hw_94 hP_94 hD_94 hS => ?_)
  have hP : va_P D vwCl (List.flatten [wB c0 1 [.ref q_5, .ref q_19, .ref q_33, .ref q_47, .ref q_61, .ref q_75, .null, .int 0, .int 0, .int 0], wC κ q_5 u_12 400 (fun _ => 0), wC κ q_19 u_26 400 (fun _ => 0), wC κ q_33 u_40 400 (fun _ => 0), wC κ q_47 u_54 400 (fun _ => 0), wC κ q_61 u_68 400 (fun _ => 0), wC κ q_75 u_81 40 (fun _ => 0), wC κ q_88 u_94 40 (fun _ => 0)]) H := hP_94
  have hD : va_D A (List.flatten [wB c0 1 [.ref q_5, .ref q_19, .ref q_33, .ref q_47, .ref q_61, .ref q_75, .null, .int 0, .int 0, .int 0], wC κ q_5 u_12 400 (fun _ => 0), wC κ q_19 u_26 400 (fun _ => 0), wC κ q_33 u_40 400 (fun _ => 0), wC κ q_47 u_54 400 (fun _ => 0), wC κ q_61 u_68 400 (fun _ => 0), wC κ q_75 u_81 40 (fun _ => 0), wC κ q_88 u_94 40 (fun _ => 0)]) := hD_94
  refine va_putF (D := D) (ci := 1) (v := .ref q_88) (ty := (tyX1 6)) (C := RX1) (T := TX1) (N := 10) hx hb hts (iwX1_init_1) tyX1 tyX1_ok nmX1 hown hK.1 hP hD hS 0 rfl rfl 6 (by decide) (hts (.fieldLink RX1 35 "InverterGraphs$Graph" "boxed" "LInverterGraphs$Cells;") (by decide +kernel)) (fun _ h9 => h9) rfl hin rfl (by decide +kernel) rfl rfl (Nat.le_of_ble_eq_true rfl) dX1_init_97 (fun H locs hP hD hS => ?_)
  have hP : va_P D vwCl (List.flatten [wB c0 1 [.ref q_5, .ref q_19, .ref q_33, .ref q_47, .ref q_61, .ref q_75, .ref q_88, .int 0, .int 0, .int 0], wC κ q_5 u_12 400 (fun _ => 0), wC κ q_19 u_26 400 (fun _ => 0), wC κ q_33 u_40 400 (fun _ => 0), wC κ q_47 u_54 400 (fun _ => 0), wC κ q_61 u_68 400 (fun _ => 0), wC κ q_75 u_81 40 (fun _ => 0), wC κ q_88 u_94 40 (fun _ => 0)]) H := hP
  have hD : va_D A (List.flatten [wB c0 1 [.ref q_5, .ref q_19, .ref q_33, .ref q_47, .ref q_61, .ref q_75, .ref q_88, .int 0, .int 0, .int 0], wC κ q_5 u_12 400 (fun _ => 0), wC κ q_19 u_26 400 (fun _ => 0), wC κ q_33 u_40 400 (fun _ => 0), wC κ q_47 u_54 400 (fun _ => 0), wC κ q_61 u_68 400 (fun _ => 0), wC κ q_75 u_81 40 (fun _ => 0), wC κ q_88 u_94 40 (fun _ => 0)]) := hD
  obtain ⟨qq_100, e_0, e_1, e_2, e_3, e_4, e_5, e_6, e_7, e_8, e_9, e_10, e_11, e_12, e_13, e_14⟩ : ∃ qq_100 : Nat → Nat, qq_100 0 = c0 ∧ qq_100 1 = q_5 ∧ qq_100 2 = q_19 ∧ qq_100 3 = q_33 ∧ qq_100 4 = q_47 ∧ qq_100 5 = q_61 ∧ qq_100 6 = q_75 ∧ qq_100 7 = q_88 ∧ qq_100 8 = u_12 ∧ qq_100 9 = u_26 ∧ qq_100 10 = u_40 ∧ qq_100 11 = u_54 ∧ qq_100 12 = u_68 ∧ qq_100 13 = u_81 ∧ qq_100 14 = u_94 := ⟨k_ql [c0, q_5, q_19, q_33, q_47, q_61, q_75, q_88, u_12, u_26, u_40, u_54, u_68, u_81, u_94], rfl, rfl, rfl, rfl, rfl, rfl, rfl, rfl, rfl, rfl, rfl, rfl, rfl, rfl, rfl⟩
  subst e_0
  subst e_1
  subst e_2
  subst e_3
  subst e_4
  subst e_5
  subst e_6
  subst e_7
  subst e_8
  subst e_9
  subst e_10
  subst e_11
  subst e_12
  subst e_13
  subst e_14
  have hP : va_P D vwCl (wG κ qq_100 (fun _ => 0) (fun _ => 0) (fun _ => 0) (fun _ => 0) (fun _ => 0) (fun _ => 0) (fun _ => 0) 0 0 0) H := hP.sub [0, 1, 3, 5, 7, 9, 11, 13, 2, 4, 6, 8, 10, 12, 14] rfl
  have hD : va_D A (wG κ qq_100 (fun _ => 0) (fun _ => 0) (fun _ => 0) (fun _ => 0) (fun _ => 0) (fun _ => 0) (fun _ => 0) 0 0 0) := hD.sub [0, 1, 3, 5, 7, 9, 11, 13, 2, 4, 6, 8, 10, 12, 14] (by decide) rfl
  refine lv_aload_n hx hb dX1_init_100 rfl (lv_at hl 0 rfl) ?_
  refine lv_iconst (v := 0) hx hb dX1_init_101 (by decide) ?_
  refine k_cWUi (D := D) (κ := κ) (qc := (RX1, TX1, 10)) (ci := 1) (q0 := 0) ⟨hx, hb, hml, hown, hts⟩ (c_X1_addNode l D κ _ qq_100 (fun _ => 0) (fun _ => 0) (fun _ => 0) (fun _ => 0) (fun _ => 0) (fun _ => 0) (fun _ => 0) 0 0 0 0 (by omega) (by omega) (by omega)) (cwV 1 hts gX1_init_X1_addNode rfl rfl rfl (by decide +kernel) ⟨Nat.le_of_ble_eq_true rfl, Nat.le_of_ble_eq_true rfl⟩) hK hP hD hS hA rfl rfl (As := [.int 0]) (rest := []) rfl rfl hl.1 (Nat.le_of_ble_eq_true rfl) dX1_init_102 ⟨Nat.le_of_ble_eq_true rfl, Nat.le_of_ble_eq_true rfl⟩ (fun r _ H locs hr hP hD hS => ?_)
  have hP : va_P D vwCl (wG κ qq_100 (k_cpt 400 (fun _ => 0) (nI 0) 0) (k_cpt 400 (fun _ => 0) (nI 0) (-1)) (k_cpt 400 (fun _ => 0) (nI 0) (-1)) (k_cpt 400 (fun _ => 0) (nI 0) (-1)) (k_cpt 400 (fun _ => 0) (nI 0) (-1)) (fun _ => 0) (fun _ => 0) 1 0 0) H := hP
  have hD : va_D A (wG κ qq_100 (k_cpt 400 (fun _ => 0) (nI 0) 0) (k_cpt 400 (fun _ => 0) (nI 0) (-1)) (k_cpt 400 (fun _ => 0) (nI 0) (-1)) (k_cpt 400 (fun _ => 0) (nI 0) (-1)) (k_cpt 400 (fun _ => 0) (nI 0) (-1)) (fun _ => 0) (fun _ => 0) 1 0 0) := hD
  subst hr
  refine lv_pop hx hb dX1_init_105 rfl ?_
  exact W.vret hx hb hr (fun t ht hW => ⟨⟨qq_100, rfl, rfl, by rw [ht]; exact hP, hD⟩, hS.F ht⟩) hS.2.2 dX1_init_106
theorem iwX6_init_1 : ∀ w ∈ wsX10, w ∈ wsX6_init := by decide +kernel
theorem iwX6_init_2 : ∀ w ∈ wsX20, w ∈ wsX6_init := by decide +kernel
theorem iwX6_init_3 : ∀ w ∈ wsX30, w ∈ wsX6_init := by decide +kernel
theorem iwX6_init_4 : ∀ w ∈ wsX40, w ∈ wsX6_init := by decide +kernel
theorem iwX6_init_5 : ∀ w ∈ wsX50, w ∈ wsX6_init := by decide +kernel
theorem iwX6_init_6 : ∀ w ∈ wsX60, w ∈ wsX6_init := by decide +kernel
set_option maxHeartbeats 4000000 in
set_option maxRecDepth 100000 in
theorem c_X6_init (l : Launch) (D : va_G) (κ : Nat → ClassId) (sz : Nat) (c0 : Nat) : k_muvO (S := (Nat → Nat → Nat)) l yX6_init wsX6_init 3 64 27 4459 D κ [.ref c0] (wB c0 6 [.null, .null, .null, .null, .null]) sz (fun _ => True) (fun u => List.flatten [wO c0 ((u 0) 0) ((u 1) 0) ((u 2) 0) ((u 3) 0) ((u 4) 0), wG κ (u 0) (k_cpt 400 (fun _ => 0) (nI 0) 0) (k_cpt 400 (fun _ => 0) (nI 0) (-1)) (k_cpt 400 (fun _ => 0) (nI 0) (-1)) (k_cpt 400 (fun _ => 0) (nI 0) (-1)) (k_cpt 400 (fun _ => 0) (nI 0) (-1)) (fun _ => 0) (fun _ => 0) 1 0 0, wH κ (u 1) (fun _ => none) 0 0, wR κ (u 2) (fun _ => 0) 0, wL κ (u 3) (fun _ => 0), wE κ (u 4) ((fun _ => 0), (fun _ => 0), 0)]) := by
  refine Met.ofW (cc := cX6_init) (maxL := 1) (ret := none) (by decide) rfl ?_
  intro p e s m args below meth c s₁ B hml hv
  obtain ⟨rfl, ⟨hsz, hK, hP, hD0⟩, hAO⟩ := hv
  have hx := B.exec
  have hb := B.bytes
  have hr := B.returns
  have hts := atoms_spec (ws := wsX6_init) B.pre
  have hown : s.vm.findClass RX6 = some m.cls := findClass_of_methodNamed B.named
  have hlocks := B.notSynchronized
  have hin : meth.name = "<init>" := (name_of_methodNamed B.named B.method).1
  subst hsz
  have hD := hD0.self (sz := s.heap.size)
  generalize hAe : va_A (wB c0 6 [.null, .null, .null, .null, .null]) s.heap.size = A at hD ⊢
  have hA : ∀ q : Nat, s.heap.size ≤ q → A q := fun q h => by rw [← hAe]; exact Or.inr h
  have hS : va_S A s.heap s.heap [] := va_S.rf
  have hP : va_P D vwCl (wB c0 6 [.null, .null, .null, .null, .null]) s.heap := hP
  have hl := lv_entry ([.ref c0]) (n := 1) (Nat.le_of_ble_eq_true rfl)
  rw [lg_entry_eq]
  generalize (lg_sl ([.ref c0]) ++ List.replicate (1 - (lg_sl ([.ref c0])).length) Slot.unset).toArray = ls at hl ⊢
  have hl : lv_has ls 1 [(0, .ref c0)] := hl
  have hP : va_P D vwCl (List.flatten [wB c0 6 [.null, .null, .null, .null, .null]]) s.heap := hP
  have hD : va_D A (List.flatten [wB c0 6 [.null, .null, .null, .null, .null]]) := hD
  refine lv_aload_n hx hb dX6_init_0 rfl (lv_at hl 0 rfl) ?_
  refine W.objInit hx hb hown (hts (.methodLink RX6 3 objectInit) (by decide +kernel)) (hts (.instanceMethod objectInit) (by decide +kernel)) (hts (.code objectInit ⟨#[0xb1]⟩ 1 none) (by decide +kernel)) rfl (by rw [hml]; exact hl.1) rfl dX6_init_1 (Nat.le_of_ble_eq_true rfl) (Nat.le_of_ble_eq_true rfl) ?_
  refine W.eq (g2 := F0 m 4 ls []) rfl ?_
  refine lv_aload_n hx hb dX6_init_4 rfl (lv_at hl 0 rfl) ?_
  refine k_new (D := D) (κ := κ) (C := RX1) (T := TX1) (N := 10) (ci := 1) (fs := [.null, .null, .null, .null, .null, .null, .null, .int 0, .int 0, .int 0]) hx hb hts (iwX6_init_1) tyX1 tyX1_ok hown (hts (.classLink RX6 9 RX1) (by decide +kernel)) (hts (.instantiable RX1 10) (by decide +kernel)) (hts (.initialized RX1) (by decide +kernel)) hK hP hD hS hA rfl (fun j hj => by rcases (show j = 0 ∨ j = 1 ∨ j = 2 ∨ j = 3 ∨ j = 4 ∨ j = 5 ∨ j = 6 ∨ j = 7 ∨ j = 8 ∨ j = 9 by omega) with rfl | rfl | rfl | rfl | rfl | rfl | rfl | rfl | rfl | rfl <;> rfl) (Nat.le_of_ble_eq_true rfl) (Nat.le_of_ble_eq_true rfl) dX6_init_5 (fun q_5 H hP hD hS => ?_)
  have hP : va_P D vwCl (List.flatten [wB c0 6 [.null, .null, .null, .null, .null], wB q_5 1 [.null, .null, .null, .null, .null, .null, .null, .int 0, .int 0, .int 0]]) H := hP
  have hD : va_D A (List.flatten [wB c0 6 [.null, .null, .null, .null, .null], wB q_5 1 [.null, .null, .null, .null, .null, .null, .null, .int 0, .int 0, .int 0]]) := hD
  refine lv_dup hx hb dX6_init_8 rfl ?_
  refine k_cIv (D := D) (κ := κ) (W0 := [wB c0 6 [.null, .null, .null, .null, .null], wB q_5 1 [.null, .null, .null, .null, .null, .null, .null, .int 0, .int 0, .int 0]]) (Wl := [wB c0 6 [.null, .null, .null, .null, .null]]) (wc := wB q_5 1 [.null, .null, .null, .null, .null, .null, .null, .int 0, .int 0, .int 0]) (w' := fun u_9 => wG κ u_9 (k_cpt 400 (fun _ => 0) (nI 0) 0) (k_cpt 400 (fun _ => 0) (nI 0) (-1)) (k_cpt 400 (fun _ => 0) (nI 0) (-1)) (k_cpt 400 (fun _ => 0) (nI 0) (-1)) (k_cpt 400 (fun _ => 0) (nI 0) (-1)) (fun _ => 0) (fun _ => 0) 1 0 0) (Wn := fun u_9 => [wB c0 6 [.null, .null, .null, .null, .null], wG κ u_9 (k_cpt 400 (fun _ => 0) (nI 0) 0) (k_cpt 400 (fun _ => 0) (nI 0) (-1)) (k_cpt 400 (fun _ => 0) (nI 0) (-1)) (k_cpt 400 (fun _ => 0) (nI 0) (-1)) (k_cpt 400 (fun _ => 0) (nI 0) (-1)) (fun _ => 0) (fun _ => 0) 1 0 0]) ⟨hx, hb, hml, hown, hts⟩ (c_X1_init l D κ _ q_5) (cwI 0 hts gX6_init_X1_init rfl rfl rfl (hts (.initialized RX1) (by decide +kernel)) (hts (.methodLink RX6 11 yX1_init) (by decide +kernel)) (hts (.instanceMethod yX1_init) (by decide +kernel)) rfl (by decide +kernel) ⟨Nat.le_of_ble_eq_true rfl, Nat.le_of_ble_eq_true rfl⟩) hK hP hD hS hA rfl (fun _ => rfl) (As := []) (rest := [.ref q_5, .ref c0]) rfl rfl hl.1 (Nat.le_of_ble_eq_true rfl) dX6_init_9 ⟨Nat.le_of_ble_eq_true rfl, Nat.le_of_ble_eq_true rfl⟩ (fun u_9 H locs hw_9 hP_9 hD_9 hS => ?_)
  subst hw_9
  have hP : va_P D vwCl (List.flatten [wB c0 6 [.null, .null, .null, .null, .null], wG κ u_9 (k_cpt 400 (fun _ => 0) (nI 0) 0) (k_cpt 400 (fun _ => 0) (nI 0) (-1)) (k_cpt 400 (fun _ => 0) (nI 0) (-1)) (k_cpt 400 (fun _ => 0) (nI 0) (-1)) (k_cpt 400 (fun _ => 0) (nI 0) (-1)) (fun _ => 0) (fun _ => 0) 1 0 0]) H := hP_9
  have hD : va_D A (List.flatten [wB c0 6 [.null, .null, .null, .null, .null], wG κ u_9 (k_cpt 400 (fun _ => 0) (nI 0) 0) (k_cpt 400 (fun _ => 0) (nI 0) (-1)) (k_cpt 400 (fun _ => 0) (nI 0) (-1)) (k_cpt 400 (fun _ => 0) (nI 0) (-1)) (k_cpt 400 (fun _ => 0) (nI 0) (-1)) (fun _ => 0) (fun _ => 0) 1 0 0]) := hD_9
  refine va_putF (D := D) (ci := 6) (v := .ref (u_9 0)) (ty := (tyX6 0)) (C := RX6) (T := TX6) (N := 5) hx hb hts (iwX6_init_6) tyX6 tyX6_ok nmX6 hown hK.1 hP hD hS 0 rfl rfl 0 (by decide) (hts (.fieldLink RX6 12 "InverterGraphs" "graph" "LInverterGraphs$Graph;") (by decide +kernel)) (fun _ h9 => h9) rfl hin rfl (by decide +kernel) rfl rfl (Nat.le_of_ble_eq_true rfl) dX6_init_12 (fun H locs hP hD hS => ?_)
  have hP : va_P D vwCl (List.flatten [wB c0 6 [.ref (u_9 0), .null, .null, .null, .null], wG κ u_9 (k_cpt 400 (fun _ => 0) (nI 0) 0) (k_cpt 400 (fun _ => 0) (nI 0) (-1)) (k_cpt 400 (fun _ => 0) (nI 0) (-1)) (k_cpt 400 (fun _ => 0) (nI 0) (-1)) (k_cpt 400 (fun _ => 0) (nI 0) (-1)) (fun _ => 0) (fun _ => 0) 1 0 0]) H := hP
  have hD : va_D A (List.flatten [wB c0 6 [.ref (u_9 0), .null, .null, .null, .null], wG κ u_9 (k_cpt 400 (fun _ => 0) (nI 0) 0) (k_cpt 400 (fun _ => 0) (nI 0) (-1)) (k_cpt 400 (fun _ => 0) (nI 0) (-1)) (k_cpt 400 (fun _ => 0) (nI 0) (-1)) (k_cpt 400 (fun _ => 0) (nI 0) (-1)) (fun _ => 0) (fun _ => 0) 1 0 0]) := hD
  refine lv_aload_n hx hb dX6_init_15 rfl (lv_at hl 0 rfl) ?_
  refine k_new (D := D) (κ := κ) (C := RX2) (T := TX2) (N := 3) (ci := 2) (fs := [.null, .int 0, .int 0]) hx hb hts (iwX6_init_2) tyX2 tyX2_ok hown (hts (.classLink RX6 16 RX2) (by decide +kernel)) (hts (.instantiable RX2 3) (by decide +kernel)) (hts (.initialized RX2) (by decide +kernel)) hK hP hD hS hA rfl (fun j hj => by rcases (show j = 0 ∨ j = 1 ∨ j = 2 by omega) with rfl | rfl | rfl <;> rfl) (Nat.le_of_ble_eq_true rfl) (Nat.le_of_ble_eq_true rfl) dX6_init_16 (fun q_16 H hP hD hS => ?_)
  have hP : va_P D vwCl (List.flatten [wB c0 6 [.ref (u_9 0), .null, .null, .null, .null], wG κ u_9 (k_cpt 400 (fun _ => 0) (nI 0) 0) (k_cpt 400 (fun _ => 0) (nI 0) (-1)) (k_cpt 400 (fun _ => 0) (nI 0) (-1)) (k_cpt 400 (fun _ => 0) (nI 0) (-1)) (k_cpt 400 (fun _ => 0) (nI 0) (-1)) (fun _ => 0) (fun _ => 0) 1 0 0, wB q_16 2 [.null, .int 0, .int 0]]) H := hP
  have hD : va_D A (List.flatten [wB c0 6 [.ref (u_9 0), .null, .null, .null, .null], wG κ u_9 (k_cpt 400 (fun _ => 0) (nI 0) 0) (k_cpt 400 (fun _ => 0) (nI 0) (-1)) (k_cpt 400 (fun _ => 0) (nI 0) (-1)) (k_cpt 400 (fun _ => 0) (nI 0) (-1)) (k_cpt 400 (fun _ => 0) (nI 0) (-1)) (fun _ => 0) (fun _ => 0) 1 0 0, wB q_16 2 [.null, .int 0, .int 0]]) := hD
  refine lv_dup hx hb dX6_init_19 rfl ?_
  refine k_cIvO (D := D) (κ := κ) (W0 := [wB c0 6 [.ref (u_9 0), .null, .null, .null, .null], wG κ u_9 (k_cpt 400 (fun _ => 0) (nI 0) 0) (k_cpt 400 (fun _ => 0) (nI 0) (-1)) (k_cpt 400 (fun _ => 0) (nI 0) (-1)) (k_cpt 400 (fun _ => 0) (nI 0) (-1)) (k_cpt 400 (fun _ => 0) (nI 0) (-1)) (fun _ => 0) (fun _ => 0) 1 0 0, wB q_16 2 [.null, .int 0, .int 0]]) (Wl := [wB c0 6 [.ref (u_9 0), .null, .null, .null, .null], wG κ u_9 (k_cpt 400 (fun _ => 0) (nI 0) 0) (k_cpt 400 (fun _ => 0) (nI 0) (-1)) (k_cpt 400 (fun _ => 0) (nI 0) (-1)) (k_cpt 400 (fun _ => 0) (nI 0) (-1)) (k_cpt 400 (fun _ => 0) (nI 0) (-1)) (fun _ => 0) (fun _ => 0) 1 0 0]) (wc := wB q_16 2 [.null, .int 0, .int 0]) (w' := fun u_20 => wH κ u_20 (fun _ => none) 0 0) (Wn := fun u_20 => [wB c0 6 [.ref (u_9 0), .null, .null, .null, .null], wG κ u_9 (k_cpt 400 (fun _ => 0) (nI 0) 0) (k_cpt 400 (fun _ => 0) (nI 0) (-1)) (k_cpt 400 (fun _ => 0) (nI 0) (-1)) (k_cpt 400 (fun _ => 0) (nI 0) (-1)) (k_cpt 400 (fun _ => 0) (nI 0) (-1)) (fun _ => 0) (fun _ => 0) 1 0 0, wH κ u_20 (fun _ => none) 0 0]) ⟨hx, hb, hml, hown, hts⟩ (c_X2_init l D κ _ q_16) (cwI 0 hts gX6_init_X2_init rfl rfl rfl (hts (.initialized RX2) (by decide +kernel)) (hts (.methodLink RX6 18 yX2_init) (by decide +kernel)) (hts (.instanceMethod yX2_init) (by decide +kernel)) rfl (by decide +kernel) ⟨Nat.le_of_ble_eq_true rfl, Nat.le_of_ble_eq_true rfl⟩) hAO hK hP hD hS hA rfl (fun _ => rfl) (As := []) (rest := [.ref q_16, .ref c0]) rfl rfl hl.1 (Nat.le_of_ble_eq_true rfl) dX6_init_20 ⟨Nat.le_of_ble_eq_true rfl, Nat.le_of_ble_eq_true rfl⟩ (fun u_20 H locs hw_20 hP_20 hD_20 hS => ?_)
  subst hw_20
  have hP : va_P D vwCl (List.flatten [wB c0 6 [.ref (u_9 0), .null, .null, .null, .null], wG κ u_9 (k_cpt 400 (fun _ => 0) (nI 0) 0) (k_cpt 400 (fun _ => 0) (nI 0) (-1)) (k_cpt 400 (fun _ => 0) (nI 0) (-1)) (k_cpt 400 (fun _ => 0) (nI 0) (-1)) (k_cpt 400 (fun _ => 0) (nI 0) (-1)) (fun _ => 0) (fun _ => 0) 1 0 0, wH κ u_20 (fun _ => none) 0 0]) H := hP_20
  have hD : va_D A (List.flatten [wB c0 6 [.ref (u_9 0), .null, .null, .null, .null], wG κ u_9 (k_cpt 400 (fun _ => 0) (nI 0) 0) (k_cpt 400 (fun _ => 0) (nI 0) (-1)) (k_cpt 400 (fun _ => 0) (nI 0) (-1)) (k_cpt 400 (fun _ => 0) (nI 0) (-1)) (k_cpt 400 (fun _ => 0) (nI 0) (-1)) (fun _ => 0) (fun _ => 0) 1 0 0, wH κ u_20 (fun _ => none) 0 0]) := hD_20
  refine va_putF (D := D) (ci := 6) (v := .ref (u_20 0)) (ty := (tyX6 1)) (C := RX6) (T := TX6) (N := 5) hx hb hts (iwX6_init_6) tyX6 tyX6_ok nmX6 hown hK.1 hP hD hS 0 rfl rfl 1 (by decide) (hts (.fieldLink RX6 19 "InverterGraphs" "history" "LInverterGraphs$History;") (by decide +kernel)) (fun _ h9 => h9) rfl hin rfl (by decide +kernel) rfl rfl (Nat.le_of_ble_eq_true rfl) dX6_init_23 (fun H locs hP hD hS => ?_)
  have hP : va_P D vwCl (List.flatten [wB c0 6 [.ref (u_9 0), .ref (u_20 0), .null, .null, .null], wG κ u_9 (k_cpt 400 (fun _ => 0) (nI 0) 0) (k_cpt 400 (fun _ => 0) (nI 0) (-1)) (k_cpt 400 (fun _ => 0) (nI 0) (-1)) (k_cpt 400 (fun _ => 0) (nI 0) (-1)) (k_cpt 400 (fun _ => 0) (nI 0) (-1)) (fun _ => 0) (fun _ => 0) 1 0 0, wH κ u_20 (fun _ => none) 0 0]) H := hP
  have hD : va_D A (List.flatten [wB c0 6 [.ref (u_9 0), .ref (u_20 0), .null, .null, .null], wG κ u_9 (k_cpt 400 (fun _ => 0) (nI 0) 0) (k_cpt 400 (fun _ => 0) (nI 0) (-1)) (k_cpt 400 (fun _ => 0) (nI 0) (-1)) (k_cpt 400 (fun _ => 0) (nI 0) (-1)) (k_cpt 400 (fun _ => 0) (nI 0) (-1)) (fun _ => 0) (fun _ => 0) 1 0 0, wH κ u_20 (fun _ => none) 0 0]) := hD
  refine lv_aload_n hx hb dX6_init_26 rfl (lv_at hl 0 rfl) ?_
  refine k_new (D := D) (κ := κ) (C := RX5) (T := TX5) (N := 2) (ci := 5) (fs := [.null, .int 0]) hx hb hts (iwX6_init_5) tyX5 tyX5_ok hown (hts (.classLink RX6 23 RX5) (by decide +kernel)) (hts (.instantiable RX5 2) (by decide +kernel)) (hts (.initialized RX5) (by decide +kernel)) hK hP hD hS hA rfl (fun j hj => by rcases (show j = 0 ∨ j = 1 by omega) with rfl | rfl <;> rfl) (Nat.le_of_ble_eq_true rfl) (Nat.le_of_ble_eq_true rfl) dX6_init_27 (fun q_27 H hP hD hS => ?_)
  have hP : va_P D vwCl (List.flatten [wB c0 6 [.ref (u_9 0), .ref (u_20 0), .null, .null, .null], wG κ u_9 (k_cpt 400 (fun _ => 0) (nI 0) 0) (k_cpt 400 (fun _ => 0) (nI 0) (-1)) (k_cpt 400 (fun _ => 0) (nI 0) (-1)) (k_cpt 400 (fun _ => 0) (nI 0) (-1)) (k_cpt 400 (fun _ => 0) (nI 0) (-1)) (fun _ => 0) (fun _ => 0) 1 0 0, wH κ u_20 (fun _ => none) 0 0, wB q_27 5 [.null, .int 0]]) H := hP
  have hD : va_D A (List.flatten [wB c0 6 [.ref (u_9 0), .ref (u_20 0), .null, .null, .null], wG κ u_9 (k_cpt 400 (fun _ => 0) (nI 0) 0) (k_cpt 400 (fun _ => 0) (nI 0) (-1)) (k_cpt 400 (fun _ => 0) (nI 0) (-1)) (k_cpt 400 (fun _ => 0) (nI 0) (-1)) (k_cpt 400 (fun _ => 0) (nI 0) (-1)) (fun _ => 0) (fun _ => 0) 1 0 0, wH κ u_20 (fun _ => none) 0 0, wB q_27 5 [.null, .int 0]]) := hD
  refine lv_dup hx hb dX6_init_30 rfl ?_
  refine k_cIv (D := D) (κ := κ) (W0 := [wB c0 6 [.ref (u_9 0), .ref (u_20 0), .null, .null, .null], wG κ u_9 (k_cpt 400 (fun _ => 0) (nI 0) 0) (k_cpt 400 (fun _ => 0) (nI 0) (-1)) (k_cpt 400 (fun _ => 0) (nI 0) (-1)) (k_cpt 400 (fun _ => 0) (nI 0) (-1)) (k_cpt 400 (fun _ => 0) (nI 0) (-1)) (fun _ => 0) (fun _ => 0) 1 0 0, wH κ u_20 (fun _ => none) 0 0, wB q_27 5 [.null, .int 0]]) (Wl := [wB c0 6 [.ref (u_9 0), .ref (u_20 0), .null, .null, .null], wG κ u_9 (k_cpt 400 (fun _ => 0) (nI 0) 0) (k_cpt 400 (fun _ => 0) (nI 0) (-1)) (k_cpt 400 (fun _ => 0) (nI 0) (-1)) (k_cpt 400 (fun _ => 0) (nI 0) (-1)) (k_cpt 400 (fun _ => 0) (nI 0) (-1)) (fun _ => 0) (fun _ => 0) 1 0 0, wH κ u_20 (fun _ => none) 0 0]) (wc := wB q_27 5 [.null, .int 0]) (w' := fun u_31 => wR κ u_31 (fun _ => 0) 0) (Wn := fun u_31 => [wB c0 6 [.ref (u_9 0), .ref (u_20 0), .null, .null, .null], wG κ u_9 (k_cpt 400 (fun _ => 0) (nI 0) 0) (k_cpt 400 (fun _ => 0) (nI 0) (-1)) (k_cpt 400 (fun _ => 0) (nI 0) (-1)) (k_cpt 400 (fun _ => 0) (nI 0) (-1)) (k_cpt 400 (fun _ => 0) (nI 0) (-1)) (fun _ => 0) (fun _ => 0) 1 0 0, wH κ u_20 (fun _ => none) 0 0, wR κ u_31 (fun _ => 0) 0]) ⟨hx, hb, hml, hown, hts⟩ (c_X5_init l D κ _ q_27) (cwI 0 hts gX6_init_X5_init rfl rfl rfl (hts (.initialized RX5) (by decide +kernel)) (hts (.methodLink RX6 25 yX5_init) (by decide +kernel)) (hts (.instanceMethod yX5_init) (by decide +kernel)) rfl (by decide +kernel) ⟨Nat.le_of_ble_eq_true rfl, Nat.le_of_ble_eq_true rfl⟩) hK hP hD hS hA rfl (fun _ => rfl) (As := []) (rest := [.ref q_27, .ref c0]) rfl rfl hl.1 (Nat.le_of_ble_eq_true rfl) dX6_init_31 ⟨Nat.le_of_ble_eq_true rfl, Nat.le_of_ble_eq_true rfl⟩ (fun u_31 H locs hw_31 hP_31 hD_31 hS => ?_)
  subst hw_31
  have hP : va_P D vwCl (List.flatten [wB c0 6 [.ref (u_9 0), .ref (u_20 0), .null, .null, .null], wG κ u_9 (k_cpt 400 (fun _ => 0) (nI 0) 0) (k_cpt 400 (fun _ => 0) (nI 0) (-1)) (k_cpt 400 (fun _ => 0) (nI 0) (-1)) (k_cpt 400 (fun _ => 0) (nI 0) (-1)) (k_cpt 400 (fun _ => 0) (nI 0) (-1)) (fun _ => 0) (fun _ => 0) 1 0 0, wH κ u_20 (fun _ => none) 0 0, wR κ u_31 (fun _ => 0) 0]) H := hP_31
  have hD : va_D A (List.flatten [wB c0 6 [.ref (u_9 0), .ref (u_20 0), .null, .null, .null], wG κ u_9 (k_cpt 400 (fun _ => 0) (nI 0) 0) (k_cpt 400 (fun _ => 0) (nI 0) (-1)) (k_cpt 400 (fun _ => 0) (nI 0) (-1)) (k_cpt 400 (fun _ => 0) (nI 0) (-1)) (k_cpt 400 (fun _ => 0) (nI 0) (-1)) (fun _ => 0) (fun _ => 0) 1 0 0, wH κ u_20 (fun _ => none) 0 0, wR κ u_31 (fun _ => 0) 0]) := hD_31
  refine va_putF (D := D) (ci := 6) (v := .ref (u_31 0)) (ty := (tyX6 2)) (C := RX6) (T := TX6) (N := 5) hx hb hts (iwX6_init_6) tyX6 tyX6_ok nmX6 hown hK.1 hP hD hS 0 rfl rfl 2 (by decide) (hts (.fieldLink RX6 26 "InverterGraphs" "rows" "LInverterGraphs$Rows;") (by decide +kernel)) (fun _ h9 => h9) rfl hin rfl (by decide +kernel) rfl rfl (Nat.le_of_ble_eq_true rfl) dX6_init_34 (fun H locs hP hD hS => ?_)
  have hP : va_P D vwCl (List.flatten [wB c0 6 [.ref (u_9 0), .ref (u_20 0), .ref (u_31 0), .null, .null], wG κ u_9 (k_cpt 400 (fun _ => 0) (nI 0) 0) (k_cpt 400 (fun _ => 0) (nI 0) (-1)) (k_cpt 400 (fun _ => 0) (nI 0) (-1)) (k_cpt 400 (fun _ => 0) (nI 0) (-1)) (k_cpt 400 (fun _ => 0) (nI 0) (-1)) (fun _ => 0) (fun _ => 0) 1 0 0, wH κ u_20 (fun _ => none) 0 0, wR κ u_31 (fun _ => 0) 0]) H := hP
  have hD : va_D A (List.flatten [wB c0 6 [.ref (u_9 0), .ref (u_20 0), .ref (u_31 0), .null, .null], wG κ u_9 (k_cpt 400 (fun _ => 0) (nI 0) 0) (k_cpt 400 (fun _ => 0) (nI 0) (-1)) (k_cpt 400 (fun _ => 0) (nI 0) (-1)) (k_cpt 400 (fun _ => 0) (nI 0) (-1)) (k_cpt 400 (fun _ => 0) (nI 0) (-1)) (fun _ => 0) (fun _ => 0) 1 0 0, wH κ u_20 (fun _ => none) 0 0, wR κ u_31 (fun _ => 0) 0]) := hD
  refine lv_aload_n hx hb dX6_init_37 rfl (lv_at hl 0 rfl) ?_
  refine k_new (D := D) (κ := κ) (C := RX3) (T := TX3) (N := 1) (ci := 3) (fs := [.null]) hx hb hts (iwX6_init_3) tyX3 tyX3_ok hown (hts (.classLink RX6 30 RX3) (by decide +kernel)) (hts (.instantiable RX3 1) (by decide +kernel)) (hts (.initialized RX3) (by decide +kernel)) hK hP hD hS hA rfl (fun j hj => by rcases (show j = 0 by omega) with rfl <;> rfl) (Nat.le_of_ble_eq_true rfl) (Nat.le_of_ble_eq_true rfl) dX6_init_38 (fun q_38 H hP hD hS => ?_)
  have hP : va_P D vwCl (List.flatten [wB c0 6 [.ref (u_9 0), .ref (u_20 0), .ref (u_31 0), .null, .null], wG κ u_9 (k_cpt 400 (fun _ => 0) (nI 0) 0) (k_cpt 400 (fun _ => 0) (nI 0) (-1)) (k_cpt 400 (fun _ => 0) (nI 0) (-1)) (k_cpt 400 (fun _ => 0) (nI 0) (-1)) (k_cpt 400 (fun _ => 0) (nI 0) (-1)) (fun _ => 0) (fun _ => 0) 1 0 0, wH κ u_20 (fun _ => none) 0 0, wR κ u_31 (fun _ => 0) 0, wB q_38 3 [.null]]) H := hP
  have hD : va_D A (List.flatten [wB c0 6 [.ref (u_9 0), .ref (u_20 0), .ref (u_31 0), .null, .null], wG κ u_9 (k_cpt 400 (fun _ => 0) (nI 0) 0) (k_cpt 400 (fun _ => 0) (nI 0) (-1)) (k_cpt 400 (fun _ => 0) (nI 0) (-1)) (k_cpt 400 (fun _ => 0) (nI 0) (-1)) (k_cpt 400 (fun _ => 0) (nI 0) (-1)) (fun _ => 0) (fun _ => 0) 1 0 0, wH κ u_20 (fun _ => none) 0 0, wR κ u_31 (fun _ => 0) 0, wB q_38 3 [.null]]) := hD
  refine lv_dup hx hb dX6_init_41 rfl ?_
  refine k_cIv (D := D) (κ := κ) (W0 := [wB c0 6 [.ref (u_9 0), .ref (u_20 0), .ref (u_31 0), .null, .null], wG κ u_9 (k_cpt 400 (fun _ => 0) (nI 0) 0) (k_cpt 400 (fun _ => 0) (nI 0) (-1)) (k_cpt 400 (fun _ => 0) (nI 0) (-1)) (k_cpt 400 (fun _ => 0) (nI 0) (-1)) (k_cpt 400 (fun _ => 0) (nI 0) (-1)) (fun _ => 0) (fun _ => 0) 1 0 0, wH κ u_20 (fun _ => none) 0 0, wR κ u_31 (fun _ => 0) 0, wB q_38 3 [.null]]) (Wl := [wB c0 6 [.ref (u_9 0), .ref (u_20 0), .ref (u_31 0), .null, .null], wG κ u_9 (k_cpt 400 (fun _ => 0) (nI 0) 0) (k_cpt 400 (fun _ => 0) (nI 0) (-1)) (k_cpt 400 (fun _ => 0) (nI 0) (-1)) (k_cpt 400 (fun _ => 0) (nI 0) (-1)) (k_cpt 400 (fun _ => 0) (nI 0) (-1)) (fun _ => 0) (fun _ => 0) 1 0 0, wH κ u_20 (fun _ => none) 0 0, wR κ u_31 (fun _ => 0) 0]) (wc := wB q_38 3 [.null]) (w' := fun u_42 => wL κ u_42 (fun _ => 0)) (Wn := fun u_42 => [wB c0 6 [.ref (u_9 0), .ref (u_20 0), .ref (u_31 0), .null, .null], wG κ u_9 (k_cpt 400 (fun _ => 0) (nI 0) 0) (k_cpt 400 (fun _ => 0) (nI 0) (-1)) (k_cpt 400 (fun _ => 0) (nI 0) (-1)) (k_cpt 400 (fun _ => 0) (nI 0) (-1)) (k_cpt 400 (fun _ => 0) (nI 0) (-1)) (fun _ => 0) (fun _ => 0) 1 0 0, wH κ u_20 (fun _ => none) 0 0, wR κ u_31 (fun _ => 0) 0, wL κ u_42 (fun _ => 0)]) ⟨hx, hb, hml, hown, hts⟩ (c_X3_init l D κ _ q_38) (cwI 0 hts gX6_init_X3_init rfl rfl rfl (hts (.initialized RX3) (by decide +kernel)) (hts (.methodLink RX6 32 yX3_init) (by decide +kernel)) (hts (.instanceMethod yX3_init) (by decide +kernel)) rfl (by decide +kernel) ⟨Nat.le_of_ble_eq_true rfl, Nat.le_of_ble_eq_true rfl⟩) hK hP hD hS hA rfl (fun _ => rfl) (As := []) (rest := [.ref q_38, .ref c0]) rfl rfl hl.1 (Nat.le_of_ble_eq_true rfl) dX6_init_42 ⟨Nat.le_of_ble_eq_true rfl, Nat.le_of_ble_eq_true rfl⟩ (fun u_42 H locs hw_42 hP_42 hD_42 hS => ?_)
  subst hw_42
  have hP : va_P D vwCl (List.flatten [wB c0 6 [.ref (u_9 0), .ref (u_20 0), .ref (u_31 0), .null, .null], wG κ u_9 (k_cpt 400 (fun _ => 0) (nI 0) 0) (k_cpt 400 (fun _ => 0) (nI 0) (-1)) (k_cpt 400 (fun _ => 0) (nI 0) (-1)) (k_cpt 400 (fun _ => 0) (nI 0) (-1)) (k_cpt 400 (fun _ => 0) (nI 0) (-1)) (fun _ => 0) (fun _ => 0) 1 0 0, wH κ u_20 (fun _ => none) 0 0, wR κ u_31 (fun _ => 0) 0, wL κ u_42 (fun _ => 0)]) H := hP_42
  have hD : va_D A (List.flatten [wB c0 6 [.ref (u_9 0), .ref (u_20 0), .ref (u_31 0), .null, .null], wG κ u_9 (k_cpt 400 (fun _ => 0) (nI 0) 0) (k_cpt 400 (fun _ => 0) (nI 0) (-1)) (k_cpt 400 (fun _ => 0) (nI 0) (-1)) (k_cpt 400 (fun _ => 0) (nI 0) (-1)) (k_cpt 400 (fun _ => 0) (nI 0) (-1)) (fun _ => 0) (fun _ => 0) 1 0 0, wH κ u_20 (fun _ => none) 0 0, wR κ u_31 (fun _ => 0) 0, wL κ u_42 (fun _ => 0)]) := hD_42
  refine va_putF (D := D) (ci := 6) (v := .ref (u_42 0)) (ty := (tyX6 3)) (C := RX6) (T := TX6) (N := 5) hx hb hts (iwX6_init_6) tyX6 tyX6_ok nmX6 hown hK.1 hP hD hS 0 rfl rfl 3 (by decide) (hts (.fieldLink RX6 33 "InverterGraphs" "levels" "LInverterGraphs$Levels;") (by decide +kernel)) (fun _ h9 => h9) rfl hin rfl (by decide +kernel) rfl rfl (Nat.le_of_ble_eq_true rfl) dX6_init_45 (fun H locs hP hD hS => ?_)
  have hP : va_P D vwCl (List.flatten [wB c0 6 [.ref (u_9 0), .ref (u_20 0), .ref (u_31 0), .ref (u_42 0), .null], wG κ u_9 (k_cpt 400 (fun _ => 0) (nI 0) 0) (k_cpt 400 (fun _ => 0) (nI 0) (-1)) (k_cpt 400 (fun _ => 0) (nI 0) (-1)) (k_cpt 400 (fun _ => 0) (nI 0) (-1)) (k_cpt 400 (fun _ => 0) (nI 0) (-1)) (fun _ => 0) (fun _ => 0) 1 0 0, wH κ u_20 (fun _ => none) 0 0, wR κ u_31 (fun _ => 0) 0, wL κ u_42 (fun _ => 0)]) H := hP
  have hD : va_D A (List.flatten [wB c0 6 [.ref (u_9 0), .ref (u_20 0), .ref (u_31 0), .ref (u_42 0), .null], wG κ u_9 (k_cpt 400 (fun _ => 0) (nI 0) 0) (k_cpt 400 (fun _ => 0) (nI 0) (-1)) (k_cpt 400 (fun _ => 0) (nI 0) (-1)) (k_cpt 400 (fun _ => 0) (nI 0) (-1)) (k_cpt 400 (fun _ => 0) (nI 0) (-1)) (fun _ => 0) (fun _ => 0) 1 0 0, wH κ u_20 (fun _ => none) 0 0, wR κ u_31 (fun _ => 0) 0, wL κ u_42 (fun _ => 0)]) := hD
  refine lv_aload_n hx hb dX6_init_48 rfl (lv_at hl 0 rfl) ?_
  refine k_new (D := D) (κ := κ) (C := RX4) (T := TX4) (N := 3) (ci := 4) (fs := [.null, .null, .int 0]) hx hb hts (iwX6_init_4) tyX4 tyX4_ok hown (hts (.classLink RX6 37 RX4) (by decide +kernel)) (hts (.instantiable RX4 3) (by decide +kernel)) (hts (.initialized RX4) (by decide +kernel)) hK hP hD hS hA rfl (fun j hj => by rcases (show j = 0 ∨ j = 1 ∨ j = 2 by omega) with rfl | rfl | rfl <;> rfl) (Nat.le_of_ble_eq_true rfl) (Nat.le_of_ble_eq_true rfl) dX6_init_49 (fun q_49 H hP hD hS => ?_)
  have hP : va_P D vwCl (List.flatten [wB c0 6 [.ref (u_9 0), .ref (u_20 0), .ref (u_31 0), .ref (u_42 0), .null], wG κ u_9 (k_cpt 400 (fun _ => 0) (nI 0) 0) (k_cpt 400 (fun _ => 0) (nI 0) (-1)) (k_cpt 400 (fun _ => 0) (nI 0) (-1)) (k_cpt 400 (fun _ => 0) (nI 0) (-1)) (k_cpt 400 (fun _ => 0) (nI 0) (-1)) (fun _ => 0) (fun _ => 0) 1 0 0, wH κ u_20 (fun _ => none) 0 0, wR κ u_31 (fun _ => 0) 0, wL κ u_42 (fun _ => 0), wB q_49 4 [.null, .null, .int 0]]) H := hP
  have hD : va_D A (List.flatten [wB c0 6 [.ref (u_9 0), .ref (u_20 0), .ref (u_31 0), .ref (u_42 0), .null], wG κ u_9 (k_cpt 400 (fun _ => 0) (nI 0) 0) (k_cpt 400 (fun _ => 0) (nI 0) (-1)) (k_cpt 400 (fun _ => 0) (nI 0) (-1)) (k_cpt 400 (fun _ => 0) (nI 0) (-1)) (k_cpt 400 (fun _ => 0) (nI 0) (-1)) (fun _ => 0) (fun _ => 0) 1 0 0, wH κ u_20 (fun _ => none) 0 0, wR κ u_31 (fun _ => 0) 0, wL κ u_42 (fun _ => 0), wB q_49 4 [.null, .null, .int 0]]) := hD
  refine lv_dup hx hb dX6_init_52 rfl ?_
  refine k_cIv (D := D) (κ := κ) (W0 := [wB c0 6 [.ref (u_9 0), .ref (u_20 0), .ref (u_31 0), .ref (u_42 0), .null], wG κ u_9 (k_cpt 400 (fun _ => 0) (nI 0) 0) (k_cpt 400 (fun _ => 0) (nI 0) (-1)) (k_cpt 400 (fun _ => 0) (nI 0) (-1)) (k_cpt 400 (fun _ => 0) (nI 0) (-1)) (k_cpt 400 (fun _ => 0) (nI 0) (-1)) (fun _ => 0) (fun _ => 0) 1 0 0, wH κ u_20 (fun _ => none) 0 0, wR κ u_31 (fun _ => 0) 0, wL κ u_42 (fun _ => 0), wB q_49 4 [.null, .null, .int 0]]) (Wl := [wB c0 6 [.ref (u_9 0), .ref (u_20 0), .ref (u_31 0), .ref (u_42 0), .null], wG κ u_9 (k_cpt 400 (fun _ => 0) (nI 0) 0) (k_cpt 400 (fun _ => 0) (nI 0) (-1)) (k_cpt 400 (fun _ => 0) (nI 0) (-1)) (k_cpt 400 (fun _ => 0) (nI 0) (-1)) (k_cpt 400 (fun _ => 0) (nI 0) (-1)) (fun _ => 0) (fun _ => 0) 1 0 0, wH κ u_20 (fun _ => none) 0 0, wR κ u_31 (fun _ => 0) 0, wL κ u_42 (fun _ => 0)]) (wc := wB q_49 4 [.null, .null, .int 0]) (w' := fun u_53 => wE κ u_53 ((fun _ => 0), (fun _ => 0), 0)) (Wn := fun u_53 => [wB c0 6 [.ref (u_9 0), .ref (u_20 0), .ref (u_31 0), .ref (u_42 0), .null], wG κ u_9 (k_cpt 400 (fun _ => 0) (nI 0) 0) (k_cpt 400 (fun _ => 0) (nI 0) (-1)) (k_cpt 400 (fun _ => 0) (nI 0) (-1)) (k_cpt 400 (fun _ => 0) (nI 0) (-1)) (k_cpt 400 (fun _ => 0) (nI 0) (-1)) (fun _ => 0) (fun _ => 0) 1 0 0, wH κ u_20 (fun _ => none) 0 0, wR κ u_31 (fun _ => 0) 0, wL κ u_42 (fun _ => 0), wE κ u_53 ((fun _ => 0), (fun _ => 0), 0)]) ⟨hx, hb, hml, hown, hts⟩ (c_X4_init l D κ _ q_49) (cwI 0 hts gX6_init_X4_init rfl rfl rfl (hts (.initialized RX4) (by decide +kernel)) (hts (.methodLink RX6 39 yX4_init) (by decide +kernel)) (hts (.instanceMethod yX4_init) (by decide +kernel)) rfl (by decide +kernel) ⟨Nat.le_of_ble_eq_true rfl, Nat.le_of_ble_eq_true rfl⟩) hK hP hD hS hA rfl (fun _ => rfl) (As := []) (rest := [.ref q_49, .ref c0]) rfl rfl hl.1 (Nat.le_of_ble_eq_true rfl) dX6_init_53 ⟨Nat.le_of_ble_eq_true rfl, Nat.le_of_ble_eq_true rfl⟩ (fun u_53 H locs hw_53 hP_53 hD_53 hS => ?_)
  subst hw_53
  have hP : va_P D vwCl (List.flatten [wB c0 6 [.ref (u_9 0), .ref (u_20 0), .ref (u_31 0), .ref (u_42 0), .null], wG κ u_9 (k_cpt 400 (fun _ => 0) (nI 0) 0) (k_cpt 400 (fun _ => 0) (nI 0) (-1)) (k_cpt 400 (fun _ => 0) (nI 0) (-1)) (k_cpt 400 (fun _ => 0) (nI 0) (-1)) (k_cpt 400 (fun _ => 0) (nI 0) (-1)) (fun _ => 0) (fun _ => 0) 1 0 0, wH κ u_20 (fun _ => none) 0 0, wR κ u_31 (fun _ => 0) 0, wL κ u_42 (fun _ => 0), wE κ u_53 ((fun _ => 0), (fun _ => 0), 0)]) H := hP_53
  have hD : va_D A (List.flatten [wB c0 6 [.ref (u_9 0), .ref (u_20 0), .ref (u_31 0), .ref (u_42 0), .null], wG κ u_9 (k_cpt 400 (fun _ => 0) (nI 0) 0) (k_cpt 400 (fun _ => 0) (nI 0) (-1)) (k_cpt 400 (fun _ => 0) (nI 0) (-1)) (k_cpt 400 (fun _ => 0) (nI 0) (-1)) (k_cpt 400 (fun _ => 0) (nI 0) (-1)) (fun _ => 0) (fun _ => 0) 1 0 0, wH κ u_20 (fun _ => none) 0 0, wR κ u_31 (fun _ => 0) 0, wL κ u_42 (fun _ => 0), wE κ u_53 ((fun _ => 0), (fun _ => 0), 0)]) := hD_53
  refine va_putF (D := D) (ci := 6) (v := .ref (u_53 0)) (ty := (tyX6 4)) (C := RX6) (T := TX6) (N := 5) hx hb hts (iwX6_init_6) tyX6 tyX6_ok nmX6 hown hK.1 hP hD hS 0 rfl rfl 4 (by decide) (hts (.fieldLink RX6 40 "InverterGraphs" "reach" "LInverterGraphs$Reach;") (by decide +kernel)) (fun _ h9 => h9) rfl hin rfl (by decide +kernel) rfl rfl (Nat.le_of_ble_eq_true rfl) dX6_init_56 (fun H locs hP hD hS => ?_)
  have hP : va_P D vwCl (List.flatten [wB c0 6 [.ref (u_9 0), .ref (u_20 0), .ref (u_31 0), .ref (u_42 0), .ref (u_53 0)], wG κ u_9 (k_cpt 400 (fun _ => 0) (nI 0) 0) (k_cpt 400 (fun _ => 0) (nI 0) (-1)) (k_cpt 400 (fun _ => 0) (nI 0) (-1)) (k_cpt 400 (fun _ => 0) (nI 0) (-1)) (k_cpt 400 (fun _ => 0) (nI 0) (-1)) (fun _ => 0) (fun _ => 0) 1 0 0, wH κ u_20 (fun _ => none) 0 0, wR κ u_31 (fun _ => 0) 0, wL κ u_42 (fun _ => 0), wE κ u_53 ((fun _ => 0), (fun _ => 0), 0)]) H := hP
  have hD : va_D A (List.flatten [wB c0 6 [.ref (u_9 0), .ref (u_20 0), .ref (u_31 0), .ref (u_42 0), .ref (u_53 0)], wG κ u_9 (k_cpt 400 (fun _ => 0) (nI 0) 0) (k_cpt 400 (fun _ => 0) (nI 0) (-1)) (k_cpt 400 (fun _ => 0) (nI 0) (-1)) (k_cpt 400 (fun _ => 0) (nI 0) (-1)) (k_cpt 400 (fun _ => 0) (nI 0) (-1)) (fun _ => 0) (fun _ => 0) 1 0 0, wH κ u_20 (fun _ => none) 0 0, wR κ u_31 (fun _ => 0) 0, wL κ u_42 (fun _ => 0), wE κ u_53 ((fun _ => 0), (fun _ => 0), 0)]) := hD
  have hP : va_P D vwCl (List.flatten [wO c0 (u_9 0) (u_20 0) (u_31 0) (u_42 0) (u_53 0), wG κ u_9 (k_cpt 400 (fun _ => 0) (nI 0) 0) (k_cpt 400 (fun _ => 0) (nI 0) (-1)) (k_cpt 400 (fun _ => 0) (nI 0) (-1)) (k_cpt 400 (fun _ => 0) (nI 0) (-1)) (k_cpt 400 (fun _ => 0) (nI 0) (-1)) (fun _ => 0) (fun _ => 0) 1 0 0, wH κ u_20 (fun _ => none) 0 0, wR κ u_31 (fun _ => 0) 0, wL κ u_42 (fun _ => 0), wE κ u_53 ((fun _ => 0), (fun _ => 0), 0)]) H := hP
  have hD : va_D A (List.flatten [wO c0 (u_9 0) (u_20 0) (u_31 0) (u_42 0) (u_53 0), wG κ u_9 (k_cpt 400 (fun _ => 0) (nI 0) 0) (k_cpt 400 (fun _ => 0) (nI 0) (-1)) (k_cpt 400 (fun _ => 0) (nI 0) (-1)) (k_cpt 400 (fun _ => 0) (nI 0) (-1)) (k_cpt 400 (fun _ => 0) (nI 0) (-1)) (fun _ => 0) (fun _ => 0) 1 0 0, wH κ u_20 (fun _ => none) 0 0, wR κ u_31 (fun _ => 0) 0, wL κ u_42 (fun _ => 0), wE κ u_53 ((fun _ => 0), (fun _ => 0), 0)]) := hD
  exact W.vret hx hb hr (fun t ht hW => ⟨⟨(fun k => [u_9, u_20, u_31, u_42, u_53].getD k u_9), rfl, trivial, by rw [ht]; exact hP, hD⟩, hS.F ht⟩) hS.2.2 dX6_init_59
theorem iwX7_init_7 : ∀ w ∈ wsX70, w ∈ wsX7_init := by decide +kernel
set_option maxHeartbeats 4000000 in
set_option maxRecDepth 100000 in
theorem c_X7_init (l : Launch) (D : va_G) (κ : Nat → ClassId) (sz : Nat) (c0 : Nat) : k_muv (S := (Nat → Nat)) l yX7_init wsX7_init 1 12 10 65880 D κ [.ref c0] (wB c0 7 [.int 0, .null, .null, .null, .null, .int 0, .null, .null, .int 0, .null, .int 0, .null, .int 0, .null, .null]) sz (fun u => u 0 = c0) (fun u => wN κ u 0 ((fun _ => 0), (fun _ => 0), (fun _ => 0), upd (fun _ => 0) 0 (-1), 1, (fun _ => 0), (fun _ => 0), 0) (fun _ => 0) 0 (fun _ => 0) 0 (fun _ => 0) (fun _ => 0)) := by
  refine Met.ofW (cc := cX7_init) (maxL := 1) (ret := none) (by decide) rfl ?_
  intro p e s m args below meth c s₁ B hml hv
  obtain ⟨rfl, hsz, hK, hP, hD0⟩ := hv
  have hx := B.exec
  have hb := B.bytes
  have hr := B.returns
  have hts := atoms_spec (ws := wsX7_init) B.pre
  have hown : s.vm.findClass RX7 = some m.cls := findClass_of_methodNamed B.named
  have hlocks := B.notSynchronized
  have hin : meth.name = "<init>" := (name_of_methodNamed B.named B.method).1
  subst hsz
  have hD := hD0.self (sz := s.heap.size)
  generalize hAe : va_A (wB c0 7 [.int 0, .null, .null, .null, .null, .int 0, .null, .null, .int 0, .null, .int 0, .null, .int 0, .null, .null]) s.heap.size = A at hD ⊢
  have hA : ∀ q : Nat, s.heap.size ≤ q → A q := fun q h => by rw [← hAe]; exact Or.inr h
  have hS : va_S A s.heap s.heap [] := va_S.rf
  have hP : va_P D vwCl (wB c0 7 [.int 0, .null, .null, .null, .null, .int 0, .null, .null, .int 0, .null, .int 0, .null, .int 0, .null, .null]) s.heap := hP
  have hl := lv_entry ([.ref c0]) (n := 1) (Nat.le_of_ble_eq_true rfl)
  rw [lg_entry_eq]
  generalize (lg_sl ([.ref c0]) ++ List.replicate (1 - (lg_sl ([.ref c0])).length) Slot.unset).toArray = ls at hl ⊢
  have hl : lv_has ls 1 [(0, .ref c0)] := hl
  have hP : va_P D vwCl (List.flatten [wB c0 7 [.int 0, .null, .null, .null, .null, .int 0, .null, .null, .int 0, .null, .int 0, .null, .int 0, .null, .null]]) s.heap := hP
  have hD : va_D A (List.flatten [wB c0 7 [.int 0, .null, .null, .null, .null, .int 0, .null, .null, .int 0, .null, .int 0, .null, .int 0, .null, .null]]) := hD
  refine lv_aload_n hx hb dX7_init_0 rfl (lv_at hl 0 rfl) ?_
  refine W.objInit hx hb hown (hts (.methodLink RX7 1 objectInit) (by decide +kernel)) (hts (.instanceMethod objectInit) (by decide +kernel)) (hts (.code objectInit ⟨#[0xb1]⟩ 1 none) (by decide +kernel)) rfl (by rw [hml]; exact hl.1) rfl dX7_init_1 (Nat.le_of_ble_eq_true rfl) (Nat.le_of_ble_eq_true rfl) ?_
  refine W.eq (g2 := F0 m 4 ls []) rfl ?_
  refine lv_aload_n hx hb dX7_init_4 rfl (lv_at hl 0 rfl) ?_
  refine lv_sipush (v := 400) hx hb dX7_init_5 (by decide) ?_
  refine lv_topi (nm_r (show (400 : Int32) = nI 400 by decide) ?_)
  refine k_newi (D := D) (κ := κ) (k := 400) hx hb (hts (.arrayClass .int) (by decide +kernel)) hK hP hD hS hA (by omega) (Nat.le_of_ble_eq_true rfl) (Nat.le_of_ble_eq_true rfl) dX7_init_8 (fun q_8 H hP hD hS => ?_)
  have hP : va_P D vwCl (List.flatten [wB c0 7 [.int 0, .null, .null, .null, .null, .int 0, .null, .null, .int 0, .null, .int 0, .null, .int 0, .null, .null], wI κ q_8 400 (fun _ => 0)]) H := hP
  have hD : va_D A (List.flatten [wB c0 7 [.int 0, .null, .null, .null, .null, .int 0, .null, .null, .int 0, .null, .int 0, .null, .int 0, .null, .null], wI κ q_8 400 (fun _ => 0)]) := hD
  refine va_putF (D := D) (ci := 7) (v := .ref q_8) (ty := (tyX7 1)) (C := RX7) (T := TX7) (N := 15) hx hb hts (iwX7_init_7) tyX7 tyX7_ok nmX7 hown hK.1 hP hD hS 0 rfl rfl 1 (by decide) (hts (.fieldLink RX7 7 "InverterGraphsModel" "sorts" "[I") (by decide +kernel)) (fun _ h9 => h9) rfl hin rfl (by decide +kernel) rfl rfl (Nat.le_of_ble_eq_true rfl) dX7_init_10 (fun H locs hP hD hS => ?_)
  have hP : va_P D vwCl (List.flatten [wB c0 7 [.int 0, .ref q_8, .null, .null, .null, .int 0, .null, .null, .int 0, .null, .int 0, .null, .int 0, .null, .null], wI κ q_8 400 (fun _ => 0)]) H := hP
  have hD : va_D A (List.flatten [wB c0 7 [.int 0, .ref q_8, .null, .null, .null, .int 0, .null, .null, .int 0, .null, .int 0, .null, .int 0, .null, .null], wI κ q_8 400 (fun _ => 0)]) := hD
  refine lv_aload_n hx hb dX7_init_13 rfl (lv_at hl 0 rfl) ?_
  refine lv_sipush (v := 400) hx hb dX7_init_14 (by decide) ?_
  refine lv_topi (nm_r (show (400 : Int32) = nI 400 by decide) ?_)
  refine k_newi (D := D) (κ := κ) (k := 400) hx hb (hts (.arrayClass .int) (by decide +kernel)) hK hP hD hS hA (by omega) (Nat.le_of_ble_eq_true rfl) (Nat.le_of_ble_eq_true rfl) dX7_init_17 (fun q_17 H hP hD hS => ?_)
  have hP : va_P D vwCl (List.flatten [wB c0 7 [.int 0, .ref q_8, .null, .null, .null, .int 0, .null, .null, .int 0, .null, .int 0, .null, .int 0, .null, .null], wI κ q_8 400 (fun _ => 0), wI κ q_17 400 (fun _ => 0)]) H := hP
  have hD : va_D A (List.flatten [wB c0 7 [.int 0, .ref q_8, .null, .null, .null, .int 0, .null, .null, .int 0, .null, .int 0, .null, .int 0, .null, .null], wI κ q_8 400 (fun _ => 0), wI κ q_17 400 (fun _ => 0)]) := hD
  refine va_putF (D := D) (ci := 7) (v := .ref q_17) (ty := (tyX7 2)) (C := RX7) (T := TX7) (N := 15) hx hb hts (iwX7_init_7) tyX7 tyX7_ok nmX7 hown hK.1 hP hD hS 0 rfl rfl 2 (by decide) (hts (.fieldLink RX7 13 "InverterGraphsModel" "ones" "[I") (by decide +kernel)) (fun _ h9 => h9) rfl hin rfl (by decide +kernel) rfl rfl (Nat.le_of_ble_eq_true rfl) dX7_init_19 (fun H locs hP hD hS => ?_)
  have hP : va_P D vwCl (List.flatten [wB c0 7 [.int 0, .ref q_8, .ref q_17, .null, .null, .int 0, .null, .null, .int 0, .null, .int 0, .null, .int 0, .null, .null], wI κ q_8 400 (fun _ => 0), wI κ q_17 400 (fun _ => 0)]) H := hP
  have hD : va_D A (List.flatten [wB c0 7 [.int 0, .ref q_8, .ref q_17, .null, .null, .int 0, .null, .null, .int 0, .null, .int 0, .null, .int 0, .null, .null], wI κ q_8 400 (fun _ => 0), wI κ q_17 400 (fun _ => 0)]) := hD
  refine lv_aload_n hx hb dX7_init_22 rfl (lv_at hl 0 rfl) ?_
  refine lv_sipush (v := 400) hx hb dX7_init_23 (by decide) ?_
  refine lv_topi (nm_r (show (400 : Int32) = nI 400 by decide) ?_)
  refine k_newi (D := D) (κ := κ) (k := 400) hx hb (hts (.arrayClass .int) (by decide +kernel)) hK hP hD hS hA (by omega) (Nat.le_of_ble_eq_true rfl) (Nat.le_of_ble_eq_true rfl) dX7_init_26 (fun q_26 H hP hD hS => ?_)
  have hP : va_P D vwCl (List.flatten [wB c0 7 [.int 0, .ref q_8, .ref q_17, .null, .null, .int 0, .null, .null, .int 0, .null, .int 0, .null, .int 0, .null, .null], wI κ q_8 400 (fun _ => 0), wI κ q_17 400 (fun _ => 0), wI κ q_26 400 (fun _ => 0)]) H := hP
  have hD : va_D A (List.flatten [wB c0 7 [.int 0, .ref q_8, .ref q_17, .null, .null, .int 0, .null, .null, .int 0, .null, .int 0, .null, .int 0, .null, .null], wI κ q_8 400 (fun _ => 0), wI κ q_17 400 (fun _ => 0), wI κ q_26 400 (fun _ => 0)]) := hD
  refine va_putF (D := D) (ci := 7) (v := .ref q_26) (ty := (tyX7 3)) (C := RX7) (T := TX7) (N := 15) hx hb hts (iwX7_init_7) tyX7 tyX7_ok nmX7 hown hK.1 hP hD hS 0 rfl rfl 3 (by decide) (hts (.fieldLink RX7 16 "InverterGraphsModel" "twos" "[I") (by decide +kernel)) (fun _ h9 => h9) rfl hin rfl (by decide +kernel) rfl rfl (Nat.le_of_ble_eq_true rfl) dX7_init_28 (fun H locs hP hD hS => ?_)
  have hP : va_P D vwCl (List.flatten [wB c0 7 [.int 0, .ref q_8, .ref q_17, .ref q_26, .null, .int 0, .null, .null, .int 0, .null, .int 0, .null, .int 0, .null, .null], wI κ q_8 400 (fun _ => 0), wI κ q_17 400 (fun _ => 0), wI κ q_26 400 (fun _ => 0)]) H := hP
  have hD : va_D A (List.flatten [wB c0 7 [.int 0, .ref q_8, .ref q_17, .ref q_26, .null, .int 0, .null, .null, .int 0, .null, .int 0, .null, .int 0, .null, .null], wI κ q_8 400 (fun _ => 0), wI κ q_17 400 (fun _ => 0), wI κ q_26 400 (fun _ => 0)]) := hD
  refine lv_aload_n hx hb dX7_init_31 rfl (lv_at hl 0 rfl) ?_
  refine lv_sipush (v := 400) hx hb dX7_init_32 (by decide) ?_
  refine lv_topi (nm_r (show (400 : Int32) = nI 400 by decide) ?_)
  refine k_newi (D := D) (κ := κ) (k := 400) hx hb (hts (.arrayClass .int) (by decide +kernel)) hK hP hD hS hA (by omega) (Nat.le_of_ble_eq_true rfl) (Nat.le_of_ble_eq_true rfl) dX7_init_35 (fun q_35 H hP hD hS => ?_)
  have hP : va_P D vwCl (List.flatten [wB c0 7 [.int 0, .ref q_8, .ref q_17, .ref q_26, .null, .int 0, .null, .null, .int 0, .null, .int 0, .null, .int 0, .null, .null], wI κ q_8 400 (fun _ => 0), wI κ q_17 400 (fun _ => 0), wI κ q_26 400 (fun _ => 0), wI κ q_35 400 (fun _ => 0)]) H := hP
  have hD : va_D A (List.flatten [wB c0 7 [.int 0, .ref q_8, .ref q_17, .ref q_26, .null, .int 0, .null, .null, .int 0, .null, .int 0, .null, .int 0, .null, .null], wI κ q_8 400 (fun _ => 0), wI κ q_17 400 (fun _ => 0), wI κ q_26 400 (fun _ => 0), wI κ q_35 400 (fun _ => 0)]) := hD
  refine va_putF (D := D) (ci := 7) (v := .ref q_35) (ty := (tyX7 4)) (C := RX7) (T := TX7) (N := 15) hx hb hts (iwX7_init_7) tyX7 tyX7_ok nmX7 hown hK.1 hP hD hS 0 rfl rfl 4 (by decide) (hts (.fieldLink RX7 19 "InverterGraphsModel" "stands" "[I") (by decide +kernel)) (fun _ h9 => h9) rfl hin rfl (by decide +kernel) rfl rfl (Nat.le_of_ble_eq_true rfl) dX7_init_37 (fun H locs hP hD hS => ?_)
  have hP : va_P D vwCl (List.flatten [wB c0 7 [.int 0, .ref q_8, .ref q_17, .ref q_26, .ref q_35, .int 0, .null, .null, .int 0, .null, .int 0, .null, .int 0, .null, .null], wI κ q_8 400 (fun _ => 0), wI κ q_17 400 (fun _ => 0), wI κ q_26 400 (fun _ => 0), wI κ q_35 400 (fun _ => 0)]) H := hP
  have hD : va_D A (List.flatten [wB c0 7 [.int 0, .ref q_8, .ref q_17, .ref q_26, .ref q_35, .int 0, .null, .null, .int 0, .null, .int 0, .null, .int 0, .null, .null], wI κ q_8 400 (fun _ => 0), wI κ q_17 400 (fun _ => 0), wI κ q_26 400 (fun _ => 0), wI κ q_35 400 (fun _ => 0)]) := hD
  refine lv_aload_n hx hb dX7_init_40 rfl (lv_at hl 0 rfl) ?_
  refine lv_bipush (v := 40) hx hb dX7_init_41 (by decide) ?_
  refine lv_topi (nm_r (show (40 : Int32) = nI 40 by decide) ?_)
  refine k_newi (D := D) (κ := κ) (k := 40) hx hb (hts (.arrayClass .int) (by decide +kernel)) hK hP hD hS hA (by omega) (Nat.le_of_ble_eq_true rfl) (Nat.le_of_ble_eq_true rfl) dX7_init_43 (fun q_43 H hP hD hS => ?_)
  have hP : va_P D vwCl (List.flatten [wB c0 7 [.int 0, .ref q_8, .ref q_17, .ref q_26, .ref q_35, .int 0, .null, .null, .int 0, .null, .int 0, .null, .int 0, .null, .null], wI κ q_8 400 (fun _ => 0), wI κ q_17 400 (fun _ => 0), wI κ q_26 400 (fun _ => 0), wI κ q_35 400 (fun _ => 0), wI κ q_43 40 (fun _ => 0)]) H := hP
  have hD : va_D A (List.flatten [wB c0 7 [.int 0, .ref q_8, .ref q_17, .ref q_26, .ref q_35, .int 0, .null, .null, .int 0, .null, .int 0, .null, .int 0, .null, .null], wI κ q_8 400 (fun _ => 0), wI κ q_17 400 (fun _ => 0), wI κ q_26 400 (fun _ => 0), wI κ q_35 400 (fun _ => 0), wI κ q_43 40 (fun _ => 0)]) := hD
  refine va_putF (D := D) (ci := 7) (v := .ref q_43) (ty := (tyX7 6)) (C := RX7) (T := TX7) (N := 15) hx hb hts (iwX7_init_7) tyX7 tyX7_ok nmX7 hown hK.1 hP hD hS 0 rfl rfl 6 (by decide) (hts (.fieldLink RX7 22 "InverterGraphsModel" "outputs" "[I") (by decide +kernel)) (fun _ h9 => h9) rfl hin rfl (by decide +kernel) rfl rfl (Nat.le_of_ble_eq_true rfl) dX7_init_45 (fun H locs hP hD hS => ?_)
  have hP : va_P D vwCl (List.flatten [wB c0 7 [.int 0, .ref q_8, .ref q_17, .ref q_26, .ref q_35, .int 0, .ref q_43, .null, .int 0, .null, .int 0, .null, .int 0, .null, .null], wI κ q_8 400 (fun _ => 0), wI κ q_17 400 (fun _ => 0), wI κ q_26 400 (fun _ => 0), wI κ q_35 400 (fun _ => 0), wI κ q_43 40 (fun _ => 0)]) H := hP
  have hD : va_D A (List.flatten [wB c0 7 [.int 0, .ref q_8, .ref q_17, .ref q_26, .ref q_35, .int 0, .ref q_43, .null, .int 0, .null, .int 0, .null, .int 0, .null, .null], wI κ q_8 400 (fun _ => 0), wI κ q_17 400 (fun _ => 0), wI κ q_26 400 (fun _ => 0), wI κ q_35 400 (fun _ => 0), wI κ q_43 40 (fun _ => 0)]) := hD
  refine lv_aload_n hx hb dX7_init_48 rfl (lv_at hl 0 rfl) ?_
  refine lv_bipush (v := 40) hx hb dX7_init_49 (by decide) ?_
  refine lv_topi (nm_r (show (40 : Int32) = nI 40 by decide) ?_)
  refine k_newz (D := D) (κ := κ) (k := 40) hx hb (hts (.arrayClass .boolean) (by decide +kernel)) hK hP hD hS hA (by omega) (Nat.le_of_ble_eq_true rfl) (Nat.le_of_ble_eq_true rfl) dX7_init_51 (fun q_51 H hP hD hS => ?_)
  have hP : va_P D vwCl (List.flatten [wB c0 7 [.int 0, .ref q_8, .ref q_17, .ref q_26, .ref q_35, .int 0, .ref q_43, .null, .int 0, .null, .int 0, .null, .int 0, .null, .null], wI κ q_8 400 (fun _ => 0), wI κ q_17 400 (fun _ => 0), wI κ q_26 400 (fun _ => 0), wI κ q_35 400 (fun _ => 0), wI κ q_43 40 (fun _ => 0), wZ κ q_51 40 (fun _ => 0)]) H := hP
  have hD : va_D A (List.flatten [wB c0 7 [.int 0, .ref q_8, .ref q_17, .ref q_26, .ref q_35, .int 0, .ref q_43, .null, .int 0, .null, .int 0, .null, .int 0, .null, .null], wI κ q_8 400 (fun _ => 0), wI κ q_17 400 (fun _ => 0), wI κ q_26 400 (fun _ => 0), wI κ q_35 400 (fun _ => 0), wI κ q_43 40 (fun _ => 0), wZ κ q_51 40 (fun _ => 0)]) := hD
  refine va_putF (D := D) (ci := 7) (v := .ref q_51) (ty := (tyX7 7)) (C := RX7) (T := TX7) (N := 15) hx hb hts (iwX7_init_7) tyX7 tyX7_ok nmX7 hown hK.1 hP hD hS 0 rfl rfl 7 (by decide) (hts (.fieldLink RX7 25 "InverterGraphsModel" "boxed" "[Z") (by decide +kernel)) (fun _ h9 => h9) rfl hin rfl (by decide +kernel) rfl rfl (Nat.le_of_ble_eq_true rfl) dX7_init_53 (fun H locs hP hD hS => ?_)
  have hP : va_P D vwCl (List.flatten [wB c0 7 [.int 0, .ref q_8, .ref q_17, .ref q_26, .ref q_35, .int 0, .ref q_43, .ref q_51, .int 0, .null, .int 0, .null, .int 0, .null, .null], wI κ q_8 400 (fun _ => 0), wI κ q_17 400 (fun _ => 0), wI κ q_26 400 (fun _ => 0), wI κ q_35 400 (fun _ => 0), wI κ q_43 40 (fun _ => 0), wZ κ q_51 40 (fun _ => 0)]) H := hP
  have hD : va_D A (List.flatten [wB c0 7 [.int 0, .ref q_8, .ref q_17, .ref q_26, .ref q_35, .int 0, .ref q_43, .ref q_51, .int 0, .null, .int 0, .null, .int 0, .null, .null], wI κ q_8 400 (fun _ => 0), wI κ q_17 400 (fun _ => 0), wI κ q_26 400 (fun _ => 0), wI κ q_35 400 (fun _ => 0), wI κ q_43 40 (fun _ => 0), wZ κ q_51 40 (fun _ => 0)]) := hD
  refine lv_aload_n hx hb dX7_init_56 rfl (lv_at hl 0 rfl) ?_
  refine lv_ldc (v := 63000) hx hb hown (hts (.constant RX7 29 (63000)) (by decide +kernel)) dX7_init_57 ?_
  refine lv_topi (nm_r (show (63000 : Int32) = nI 63000 by decide) ?_)
  refine k_newi (D := D) (κ := κ) (k := 63000) hx hb (hts (.arrayClass .int) (by decide +kernel)) hK hP hD hS hA (by omega) (Nat.le_of_ble_eq_true rfl) (Nat.le_of_ble_eq_true rfl) dX7_init_59 (fun q_59 H hP hD hS => ?_)
  have hP : va_P D vwCl (List.flatten [wB c0 7 [.int 0, .ref q_8, .ref q_17, .ref q_26, .ref q_35, .int 0, .ref q_43, .ref q_51, .int 0, .null, .int 0, .null, .int 0, .null, .null], wI κ q_8 400 (fun _ => 0), wI κ q_17 400 (fun _ => 0), wI κ q_26 400 (fun _ => 0), wI κ q_35 400 (fun _ => 0), wI κ q_43 40 (fun _ => 0), wZ κ q_51 40 (fun _ => 0), wI κ q_59 63000 (fun _ => 0)]) H := hP
  have hD : va_D A (List.flatten [wB c0 7 [.int 0, .ref q_8, .ref q_17, .ref q_26, .ref q_35, .int 0, .ref q_43, .ref q_51, .int 0, .null, .int 0, .null, .int 0, .null, .null], wI κ q_8 400 (fun _ => 0), wI κ q_17 400 (fun _ => 0), wI κ q_26 400 (fun _ => 0), wI κ q_35 400 (fun _ => 0), wI κ q_43 40 (fun _ => 0), wZ κ q_51 40 (fun _ => 0), wI κ q_59 63000 (fun _ => 0)]) := hD
  refine va_putF (D := D) (ci := 7) (v := .ref q_59) (ty := (tyX7 9)) (C := RX7) (T := TX7) (N := 15) hx hb hts (iwX7_init_7) tyX7 tyX7_ok nmX7 hown hK.1 hP hD hS 0 rfl rfl 9 (by decide) (hts (.fieldLink RX7 30 "InverterGraphsModel" "copies" "[I") (by decide +kernel)) (fun _ h9 => h9) rfl hin rfl (by decide +kernel) rfl rfl (Nat.le_of_ble_eq_true rfl) dX7_init_61 (fun H locs hP hD hS => ?_)
  have hP : va_P D vwCl (List.flatten [wB c0 7 [.int 0, .ref q_8, .ref q_17, .ref q_26, .ref q_35, .int 0, .ref q_43, .ref q_51, .int 0, .ref q_59, .int 0, .null, .int 0, .null, .null], wI κ q_8 400 (fun _ => 0), wI κ q_17 400 (fun _ => 0), wI κ q_26 400 (fun _ => 0), wI κ q_35 400 (fun _ => 0), wI κ q_43 40 (fun _ => 0), wZ κ q_51 40 (fun _ => 0), wI κ q_59 63000 (fun _ => 0)]) H := hP
  have hD : va_D A (List.flatten [wB c0 7 [.int 0, .ref q_8, .ref q_17, .ref q_26, .ref q_35, .int 0, .ref q_43, .ref q_51, .int 0, .ref q_59, .int 0, .null, .int 0, .null, .null], wI κ q_8 400 (fun _ => 0), wI κ q_17 400 (fun _ => 0), wI κ q_26 400 (fun _ => 0), wI κ q_35 400 (fun _ => 0), wI κ q_43 40 (fun _ => 0), wZ κ q_51 40 (fun _ => 0), wI κ q_59 63000 (fun _ => 0)]) := hD
  refine lv_aload_n hx hb dX7_init_64 rfl (lv_at hl 0 rfl) ?_
  refine lv_sipush (v := 400) hx hb dX7_init_65 (by decide) ?_
  refine lv_topi (nm_r (show (400 : Int32) = nI 400 by decide) ?_)
  refine k_newl (D := D) (κ := κ) (k := 400) hx hb (hts (.arrayClass .long) (by decide +kernel)) hK hP hD hS hA (by omega) (Nat.le_of_ble_eq_true rfl) (Nat.le_of_ble_eq_true rfl) dX7_init_68 (fun q_68 H hP hD hS => ?_)
  have hP : va_P D vwCl (List.flatten [wB c0 7 [.int 0, .ref q_8, .ref q_17, .ref q_26, .ref q_35, .int 0, .ref q_43, .ref q_51, .int 0, .ref q_59, .int 0, .null, .int 0, .null, .null], wI κ q_8 400 (fun _ => 0), wI κ q_17 400 (fun _ => 0), wI κ q_26 400 (fun _ => 0), wI κ q_35 400 (fun _ => 0), wI κ q_43 40 (fun _ => 0), wZ κ q_51 40 (fun _ => 0), wI κ q_59 63000 (fun _ => 0), wJ κ q_68 400 (fun _ => 0)]) H := hP
  have hD : va_D A (List.flatten [wB c0 7 [.int 0, .ref q_8, .ref q_17, .ref q_26, .ref q_35, .int 0, .ref q_43, .ref q_51, .int 0, .ref q_59, .int 0, .null, .int 0, .null, .null], wI κ q_8 400 (fun _ => 0), wI κ q_17 400 (fun _ => 0), wI κ q_26 400 (fun _ => 0), wI κ q_35 400 (fun _ => 0), wI κ q_43 40 (fun _ => 0), wZ κ q_51 40 (fun _ => 0), wI κ q_59 63000 (fun _ => 0), wJ κ q_68 400 (fun _ => 0)]) := hD
  refine va_putF (D := D) (ci := 7) (v := .ref q_68) (ty := (tyX7 11)) (C := RX7) (T := TX7) (N := 15) hx hb hts (iwX7_init_7) tyX7 tyX7_ok nmX7 hown hK.1 hP hD hS 0 rfl rfl 11 (by decide) (hts (.fieldLink RX7 33 "InverterGraphsModel" "rows" "[J") (by decide +kernel)) (fun _ h9 => h9) rfl hin rfl (by decide +kernel) rfl rfl (Nat.le_of_ble_eq_true rfl) dX7_init_70 (fun H locs hP hD hS => ?_)
  have hP : va_P D vwCl (List.flatten [wB c0 7 [.int 0, .ref q_8, .ref q_17, .ref q_26, .ref q_35, .int 0, .ref q_43, .ref q_51, .int 0, .ref q_59, .int 0, .ref q_68, .int 0, .null, .null], wI κ q_8 400 (fun _ => 0), wI κ q_17 400 (fun _ => 0), wI κ q_26 400 (fun _ => 0), wI κ q_35 400 (fun _ => 0), wI κ q_43 40 (fun _ => 0), wZ κ q_51 40 (fun _ => 0), wI κ q_59 63000 (fun _ => 0), wJ κ q_68 400 (fun _ => 0)]) H := hP
  have hD : va_D A (List.flatten [wB c0 7 [.int 0, .ref q_8, .ref q_17, .ref q_26, .ref q_35, .int 0, .ref q_43, .ref q_51, .int 0, .ref q_59, .int 0, .ref q_68, .int 0, .null, .null], wI κ q_8 400 (fun _ => 0), wI κ q_17 400 (fun _ => 0), wI κ q_26 400 (fun _ => 0), wI κ q_35 400 (fun _ => 0), wI κ q_43 40 (fun _ => 0), wZ κ q_51 40 (fun _ => 0), wI κ q_59 63000 (fun _ => 0), wJ κ q_68 400 (fun _ => 0)]) := hD
  refine lv_aload_n hx hb dX7_init_73 rfl (lv_at hl 0 rfl) ?_
  refine lv_sipush (v := 400) hx hb dX7_init_74 (by decide) ?_
  refine lv_topi (nm_r (show (400 : Int32) = nI 400 by decide) ?_)
  refine k_newi (D := D) (κ := κ) (k := 400) hx hb (hts (.arrayClass .int) (by decide +kernel)) hK hP hD hS hA (by omega) (Nat.le_of_ble_eq_true rfl) (Nat.le_of_ble_eq_true rfl) dX7_init_77 (fun q_77 H hP hD hS => ?_)
  have hP : va_P D vwCl (List.flatten [wB c0 7 [.int 0, .ref q_8, .ref q_17, .ref q_26, .ref q_35, .int 0, .ref q_43, .ref q_51, .int 0, .ref q_59, .int 0, .ref q_68, .int 0, .null, .null], wI κ q_8 400 (fun _ => 0), wI κ q_17 400 (fun _ => 0), wI κ q_26 400 (fun _ => 0), wI κ q_35 400 (fun _ => 0), wI κ q_43 40 (fun _ => 0), wZ κ q_51 40 (fun _ => 0), wI κ q_59 63000 (fun _ => 0), wJ κ q_68 400 (fun _ => 0), wI κ q_77 400 (fun _ => 0)]) H := hP
  have hD : va_D A (List.flatten [wB c0 7 [.int 0, .ref q_8, .ref q_17, .ref q_26, .ref q_35, .int 0, .ref q_43, .ref q_51, .int 0, .ref q_59, .int 0, .ref q_68, .int 0, .null, .null], wI κ q_8 400 (fun _ => 0), wI κ q_17 400 (fun _ => 0), wI κ q_26 400 (fun _ => 0), wI κ q_35 400 (fun _ => 0), wI κ q_43 40 (fun _ => 0), wZ κ q_51 40 (fun _ => 0), wI κ q_59 63000 (fun _ => 0), wJ κ q_68 400 (fun _ => 0), wI κ q_77 400 (fun _ => 0)]) := hD
  refine va_putF (D := D) (ci := 7) (v := .ref q_77) (ty := (tyX7 13)) (C := RX7) (T := TX7) (N := 15) hx hb hts (iwX7_init_7) tyX7 tyX7_ok nmX7 hown hK.1 hP hD hS 0 rfl rfl 13 (by decide) (hts (.fieldLink RX7 37 "InverterGraphsModel" "levels" "[I") (by decide +kernel)) (fun _ h9 => h9) rfl hin rfl (by decide +kernel) rfl rfl (Nat.le_of_ble_eq_true rfl) dX7_init_79 (fun H locs hP hD hS => ?_)
  have hP : va_P D vwCl (List.flatten [wB c0 7 [.int 0, .ref q_8, .ref q_17, .ref q_26, .ref q_35, .int 0, .ref q_43, .ref q_51, .int 0, .ref q_59, .int 0, .ref q_68, .int 0, .ref q_77, .null], wI κ q_8 400 (fun _ => 0), wI κ q_17 400 (fun _ => 0), wI κ q_26 400 (fun _ => 0), wI κ q_35 400 (fun _ => 0), wI κ q_43 40 (fun _ => 0), wZ κ q_51 40 (fun _ => 0), wI κ q_59 63000 (fun _ => 0), wJ κ q_68 400 (fun _ => 0), wI κ q_77 400 (fun _ => 0)]) H := hP
  have hD : va_D A (List.flatten [wB c0 7 [.int 0, .ref q_8, .ref q_17, .ref q_26, .ref q_35, .int 0, .ref q_43, .ref q_51, .int 0, .ref q_59, .int 0, .ref q_68, .int 0, .ref q_77, .null], wI κ q_8 400 (fun _ => 0), wI κ q_17 400 (fun _ => 0), wI κ q_26 400 (fun _ => 0), wI κ q_35 400 (fun _ => 0), wI κ q_43 40 (fun _ => 0), wZ κ q_51 40 (fun _ => 0), wI κ q_59 63000 (fun _ => 0), wJ κ q_68 400 (fun _ => 0), wI κ q_77 400 (fun _ => 0)]) := hD
  refine lv_aload_n hx hb dX7_init_82 rfl (lv_at hl 0 rfl) ?_
  refine lv_sipush (v := 400) hx hb dX7_init_83 (by decide) ?_
  refine lv_topi (nm_r (show (400 : Int32) = nI 400 by decide) ?_)
  refine k_newz (D := D) (κ := κ) (k := 400) hx hb (hts (.arrayClass .boolean) (by decide +kernel)) hK hP hD hS hA (by omega) (Nat.le_of_ble_eq_true rfl) (Nat.le_of_ble_eq_true rfl) dX7_init_86 (fun q_86 H hP hD hS => ?_)
  have hP : va_P D vwCl (List.flatten [wB c0 7 [.int 0, .ref q_8, .ref q_17, .ref q_26, .ref q_35, .int 0, .ref q_43, .ref q_51, .int 0, .ref q_59, .int 0, .ref q_68, .int 0, .ref q_77, .null], wI κ q_8 400 (fun _ => 0), wI κ q_17 400 (fun _ => 0), wI κ q_26 400 (fun _ => 0), wI κ q_35 400 (fun _ => 0), wI κ q_43 40 (fun _ => 0), wZ κ q_51 40 (fun _ => 0), wI κ q_59 63000 (fun _ => 0), wJ κ q_68 400 (fun _ => 0), wI κ q_77 400 (fun _ => 0), wZ κ q_86 400 (fun _ => 0)]) H := hP
  have hD : va_D A (List.flatten [wB c0 7 [.int 0, .ref q_8, .ref q_17, .ref q_26, .ref q_35, .int 0, .ref q_43, .ref q_51, .int 0, .ref q_59, .int 0, .ref q_68, .int 0, .ref q_77, .null], wI κ q_8 400 (fun _ => 0), wI κ q_17 400 (fun _ => 0), wI κ q_26 400 (fun _ => 0), wI κ q_35 400 (fun _ => 0), wI κ q_43 40 (fun _ => 0), wZ κ q_51 40 (fun _ => 0), wI κ q_59 63000 (fun _ => 0), wJ κ q_68 400 (fun _ => 0), wI κ q_77 400 (fun _ => 0), wZ κ q_86 400 (fun _ => 0)]) := hD
  refine va_putF (D := D) (ci := 7) (v := .ref q_86) (ty := (tyX7 14)) (C := RX7) (T := TX7) (N := 15) hx hb hts (iwX7_init_7) tyX7 tyX7_ok nmX7 hown hK.1 hP hD hS 0 rfl rfl 14 (by decide) (hts (.fieldLink RX7 40 "InverterGraphsModel" "below" "[Z") (by decide +kernel)) (fun _ h9 => h9) rfl hin rfl (by decide +kernel) rfl rfl (Nat.le_of_ble_eq_true rfl) dX7_init_88 (fun H locs hP hD hS => ?_)
  have hP : va_P D vwCl (List.flatten [wB c0 7 [.int 0, .ref q_8, .ref q_17, .ref q_26, .ref q_35, .int 0, .ref q_43, .ref q_51, .int 0, .ref q_59, .int 0, .ref q_68, .int 0, .ref q_77, .ref q_86], wI κ q_8 400 (fun _ => 0), wI κ q_17 400 (fun _ => 0), wI κ q_26 400 (fun _ => 0), wI κ q_35 400 (fun _ => 0), wI κ q_43 40 (fun _ => 0), wZ κ q_51 40 (fun _ => 0), wI κ q_59 63000 (fun _ => 0), wJ κ q_68 400 (fun _ => 0), wI κ q_77 400 (fun _ => 0), wZ κ q_86 400 (fun _ => 0)]) H := hP
  have hD : va_D A (List.flatten [wB c0 7 [.int 0, .ref q_8, .ref q_17, .ref q_26, .ref q_35, .int 0, .ref q_43, .ref q_51, .int 0, .ref q_59, .int 0, .ref q_68, .int 0, .ref q_77, .ref q_86], wI κ q_8 400 (fun _ => 0), wI κ q_17 400 (fun _ => 0), wI κ q_26 400 (fun _ => 0), wI κ q_35 400 (fun _ => 0), wI κ q_43 40 (fun _ => 0), wZ κ q_51 40 (fun _ => 0), wI κ q_59 63000 (fun _ => 0), wJ κ q_68 400 (fun _ => 0), wI κ q_77 400 (fun _ => 0), wZ κ q_86 400 (fun _ => 0)]) := hD
  refine lv_aload_n hx hb dX7_init_91 rfl (lv_at hl 0 rfl) ?_
  refine lv_iconst (v := 1) hx hb dX7_init_92 (by decide) ?_
  refine va_put (D := D) (ci := 7) (v := .int 1) (ty := .int) (C := RX7) (T := TX7) (N := 15) hx hb hts (iwX7_init_7) tyX7 tyX7_ok nmX7 hown hK.1 hP hD hS 0 rfl rfl 5 (by decide) (hts (.fieldLink RX7 43 "InverterGraphsModel" "nodes" "I") (by decide +kernel)) (fun _ h9 => h9) rfl (by decide +kernel) rfl rfl (Nat.le_of_ble_eq_true rfl) dX7_init_93 (fun H locs hP hD hS => ?_)
  have hP : va_P D vwCl (List.flatten [wB c0 7 [.int 0, .ref q_8, .ref q_17, .ref q_26, .ref q_35, .int 1, .ref q_43, .ref q_51, .int 0, .ref q_59, .int 0, .ref q_68, .int 0, .ref q_77, .ref q_86], wI κ q_8 400 (fun _ => 0), wI κ q_17 400 (fun _ => 0), wI κ q_26 400 (fun _ => 0), wI κ q_35 400 (fun _ => 0), wI κ q_43 40 (fun _ => 0), wZ κ q_51 40 (fun _ => 0), wI κ q_59 63000 (fun _ => 0), wJ κ q_68 400 (fun _ => 0), wI κ q_77 400 (fun _ => 0), wZ κ q_86 400 (fun _ => 0)]) H := hP
  have hD : va_D A (List.flatten [wB c0 7 [.int 0, .ref q_8, .ref q_17, .ref q_26, .ref q_35, .int 1, .ref q_43, .ref q_51, .int 0, .ref q_59, .int 0, .ref q_68, .int 0, .ref q_77, .ref q_86], wI κ q_8 400 (fun _ => 0), wI κ q_17 400 (fun _ => 0), wI κ q_26 400 (fun _ => 0), wI κ q_35 400 (fun _ => 0), wI κ q_43 40 (fun _ => 0), wZ κ q_51 40 (fun _ => 0), wI κ q_59 63000 (fun _ => 0), wJ κ q_68 400 (fun _ => 0), wI κ q_77 400 (fun _ => 0), wZ κ q_86 400 (fun _ => 0)]) := hD
  refine lv_aload_n hx hb dX7_init_96 rfl (lv_at hl 0 rfl) ?_
  refine va_get (D := D) (ci := 7) (v := .ref q_35) (C := RX7) (T := TX7) (N := 15) hx hb hts (iwX7_init_7) hown hK.1 hP 0 rfl rfl 4 (by decide) (hts (.fieldLink RX7 19 "InverterGraphsModel" "stands" "[I") (by decide +kernel)) (fun _ h9 => h9) rfl dX7_init_97 ?_
  refine lv_iconst (v := 0) hx hb dX7_init_100 (by decide) ?_
  refine lv_iconst (v := (-1)) hx hb dX7_init_101 (by decide) ?_
  refine lv_topi (nm_r (show (-1 : Int32) = -1 from rfl) ?_)
  refine k_iast (D := D) (j := 0) hx hb hK.1 hP hD hS 4 0 rfl rfl (by omega) (by omega) dX7_init_102 (fun H locs hP hD hS => ?_)
  have hP : va_P D vwCl (List.flatten [wB c0 7 [.int 0, .ref q_8, .ref q_17, .ref q_26, .ref q_35, .int 1, .ref q_43, .ref q_51, .int 0, .ref q_59, .int 0, .ref q_68, .int 0, .ref q_77, .ref q_86], wI κ q_8 400 (fun _ => 0), wI κ q_17 400 (fun _ => 0), wI κ q_26 400 (fun _ => 0), wI κ q_35 400 (upd (fun _ => 0) 0 (-1)), wI κ q_43 40 (fun _ => 0), wZ κ q_51 40 (fun _ => 0), wI κ q_59 63000 (fun _ => 0), wJ κ q_68 400 (fun _ => 0), wI κ q_77 400 (fun _ => 0), wZ κ q_86 400 (fun _ => 0)]) H := hP
  have hD : va_D A (List.flatten [wB c0 7 [.int 0, .ref q_8, .ref q_17, .ref q_26, .ref q_35, .int 1, .ref q_43, .ref q_51, .int 0, .ref q_59, .int 0, .ref q_68, .int 0, .ref q_77, .ref q_86], wI κ q_8 400 (fun _ => 0), wI κ q_17 400 (fun _ => 0), wI κ q_26 400 (fun _ => 0), wI κ q_35 400 (upd (fun _ => 0) 0 (-1)), wI κ q_43 40 (fun _ => 0), wZ κ q_51 40 (fun _ => 0), wI κ q_59 63000 (fun _ => 0), wJ κ q_68 400 (fun _ => 0), wI κ q_77 400 (fun _ => 0), wZ κ q_86 400 (fun _ => 0)]) := hD
  obtain ⟨qq_103, e_0, e_1, e_2, e_3, e_4, e_5, e_6, e_7, e_8, e_9, e_10⟩ : ∃ qq_103 : Nat → Nat, qq_103 0 = c0 ∧ qq_103 1 = q_8 ∧ qq_103 2 = q_17 ∧ qq_103 3 = q_26 ∧ qq_103 4 = q_35 ∧ qq_103 5 = q_43 ∧ qq_103 6 = q_51 ∧ qq_103 7 = q_59 ∧ qq_103 8 = q_68 ∧ qq_103 9 = q_77 ∧ qq_103 10 = q_86 := ⟨k_ql [c0, q_8, q_17, q_26, q_35, q_43, q_51, q_59, q_68, q_77, q_86], rfl, rfl, rfl, rfl, rfl, rfl, rfl, rfl, rfl, rfl, rfl⟩
  subst e_0
  subst e_1
  subst e_2
  subst e_3
  subst e_4
  subst e_5
  subst e_6
  subst e_7
  subst e_8
  subst e_9
  subst e_10
  have hP : va_P D vwCl (wN κ qq_103 0 ((fun _ => 0), (fun _ => 0), (fun _ => 0), upd (fun _ => 0) 0 (-1), 1, (fun _ => 0), (fun _ => 0), 0) (fun _ => 0) 0 (fun _ => 0) 0 (fun _ => 0) (fun _ => 0)) H := hP
  have hD : va_D A (wN κ qq_103 0 ((fun _ => 0), (fun _ => 0), (fun _ => 0), upd (fun _ => 0) 0 (-1), 1, (fun _ => 0), (fun _ => 0), 0) (fun _ => 0) 0 (fun _ => 0) 0 (fun _ => 0) (fun _ => 0)) := hD
  exact W.vret hx hb hr (fun t ht hW => ⟨⟨qq_103, rfl, rfl, by rw [ht]; exact hP, hD⟩, hS.F ht⟩) hS.2.2 dX7_init_103
