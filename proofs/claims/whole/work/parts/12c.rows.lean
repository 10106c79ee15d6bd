theorem iwX5_areWorkedOut_5 : ∀ w ∈ wsX50, w ∈ wsX5_areWorkedOut := by decide +kernel
set_option maxHeartbeats 4000000 in
set_option maxRecDepth 100000 in
theorem c_X5_areWorkedOut (l : Launch) (D : va_G) (κ : Nat → ClassId) (qr : Nat → Nat) (ro : Nat → Int64) (wo : Int32)  (hwo : wo = 0 ∨ wo = 1) : k_roi l yX5_areWorkedOut wsX5_areWorkedOut 0 0 D κ [.ref (qr 0)] (wR κ qr ro wo) (fun r => r = wo) := by
  refine Met.ofW (cc := cX5_areWorkedOut) (maxL := 1) (ret := (some .boolean)) (by decide) rfl ?_
  intro p e s m args below meth c s₁ B hml hv
  obtain ⟨rfl, hK, hP⟩ := hv
  have hx := B.exec
  have hb := B.bytes
  have hr := B.returns
  have hts := atoms_spec (ws := wsX5_areWorkedOut) B.pre
  have hown : s.vm.findClass RX5 = some m.cls := findClass_of_methodNamed B.named
  have hlocks := B.notSynchronized
  have hP : va_P D vwCl (wR κ qr ro wo) s.heap := hP
  have hl := lv_entry ([.ref (qr 0)]) (n := 1) (Nat.le_of_ble_eq_true rfl)
  rw [lg_entry_eq]
  generalize (lg_sl ([.ref (qr 0)]) ++ List.replicate (1 - (lg_sl ([.ref (qr 0)])).length) Slot.unset).toArray = ls at hl ⊢
  have hl : lv_has ls 1 [(0, .ref (qr 0))] := hl
  have h9 : narrow .boolean (.int wo) = .int wo := by rcases hwo with h | h <;> rw [h] <;> rfl
  refine lv_aload_n hx hb dX5_areWorkedOut_0 rfl (lv_at hl 0 rfl) ?_
  refine va_get (D := D) (ci := 5) (v := .int wo) (C := RX5) (T := TX5) (N := 2) hx hb hts (iwX5_areWorkedOut_5) hown hK.1 hP 0 rfl rfl 1 (by decide) (hts (.fieldLink RX5 15 "InverterGraphs$Rows" "workedOut" "Z") (by decide +kernel)) (fun _ h9 => h9) rfl dX5_areWorkedOut_1 ?_
  exact W.zret (ty := .boolean) (v := wo) hx hb hr (by assumption) (fun t ht _ => ⟨wo, rfl, rfl, ht⟩) (fun _ h9 => nomatch h9) dX5_areWorkedOut_4
theorem iwX5_forget_5 : ∀ w ∈ wsX50, w ∈ wsX5_forget := by decide +kernel
set_option maxHeartbeats 4000000 in
set_option maxRecDepth 100000 in
theorem c_X5_forget (l : Launch) (D : va_G) (κ : Nat → ClassId) (sz : Nat) (qr : Nat → Nat) (ro : Nat → Int64) (wo : Int32)  : k_muv (S := Unit) l yX5_forget wsX5_forget 0 0 0 0 D κ [.ref (qr 0)] (wR κ qr ro wo) sz (fun _ => True) (fun u => wR κ qr ro 0) := by
  refine Met.ofW (cc := cX5_forget) (maxL := 1) (ret := none) (by decide) rfl ?_
  intro p e s m args below meth c s₁ B hml hv
  obtain ⟨rfl, hsz, hK, hP, hD0⟩ := hv
  have hx := B.exec
  have hb := B.bytes
  have hr := B.returns
  have hts := atoms_spec (ws := wsX5_forget) B.pre
  have hown : s.vm.findClass RX5 = some m.cls := findClass_of_methodNamed B.named
  have hlocks := B.notSynchronized
  subst hsz
  have hD := hD0.self (sz := s.heap.size)
  generalize hAe : va_A (wR κ qr ro wo) s.heap.size = A at hD ⊢
  have hA : ∀ q : Nat, s.heap.size ≤ q → A q := fun q h => by rw [← hAe]; exact Or.inr h
  have hS : va_S A s.heap s.heap [] := va_S.rf
  have hP : va_P D vwCl (wR κ qr ro wo) s.heap := hP
  have hl := lv_entry ([.ref (qr 0)]) (n := 1) (Nat.le_of_ble_eq_true rfl)
  rw [lg_entry_eq]
  generalize (lg_sl ([.ref (qr 0)]) ++ List.replicate (1 - (lg_sl ([.ref (qr 0)])).length) Slot.unset).toArray = ls at hl ⊢
  have hl : lv_has ls 1 [(0, .ref (qr 0))] := hl
  refine lv_aload_n hx hb dX5_forget_0 rfl (lv_at hl 0 rfl) ?_
  refine lv_iconst (v := 0) hx hb dX5_forget_1 (by decide) ?_
  refine va_put (D := D) (ci := 5) (v := .int 0) (ty := .boolean) (C := RX5) (T := TX5) (N := 2) hx hb hts (iwX5_forget_5) tyX5 tyX5_ok nmX5 hown hK.1 hP hD hS 0 rfl rfl 1 (by decide) (hts (.fieldLink RX5 15 "InverterGraphs$Rows" "workedOut" "Z") (by decide +kernel)) (fun _ h9 => h9) rfl (by decide +kernel) rfl rfl (Nat.le_of_ble_eq_true rfl) dX5_forget_2 (fun H locs hP hD hS => ?_)
  have hP : va_P D vwCl (wR κ qr ro 0) H := hP
  have hD : va_D A (wR κ qr ro 0) := hD
  exact W.vret hx hb hr (fun t ht hW => ⟨⟨(), rfl, trivial, by rw [ht]; exact hP, hD⟩, hS.F ht⟩) hS.2.2 dX5_forget_5
theorem iwX5_at_5 : ∀ w ∈ wsX50, w ∈ wsX5_at := by decide +kernel
set_option maxHeartbeats 4000000 in
set_option maxRecDepth 100000 in
theorem c_X5_at (l : Launch) (D : va_G) (κ : Nat → ClassId) (qr : Nat → Nat) (ro : Nat → Int64) (wo : Int32) (p0 : Int32) : k_rol l yX5_at wsX5_at 0 0 D κ [.ref (qr 0), .int p0] (wR κ qr ro wo) (fun r => r = k_catJ 400 ro p0) := by
  refine Met.ofW (cc := cX5_at) (maxL := 2) (ret := (some .long)) (by decide) rfl ?_
  intro p e s m args below meth c s₁ B hml hv
  obtain ⟨rfl, hK, hP⟩ := hv
  have hx := B.exec
  have hb := B.bytes
  have hr := B.returns
  have hts := atoms_spec (ws := wsX5_at) B.pre
  have hown : s.vm.findClass RX5 = some m.cls := findClass_of_methodNamed B.named
  have hlocks := B.notSynchronized
  have hP : va_P D vwCl (wR κ qr ro wo) s.heap := hP
  have hl := lv_entry ([.ref (qr 0), .int p0]) (n := 2) (Nat.le_of_ble_eq_true rfl)
  rw [lg_entry_eq]
  generalize (lg_sl ([.ref (qr 0), .int p0]) ++ List.replicate (2 - (lg_sl ([.ref (qr 0), .int p0])).length) Slot.unset).toArray = ls at hl ⊢
  have hl : lv_has ls 2 [(0, .ref (qr 0)), (1, .int p0)] := hl
  refine lv_iload_n hx hb dX5_at_0 rfl (lv_at hl 1 rfl) ?_
  refine lv_if_lt (tgt := 22) hx hb dX5_at_1 (by decide) (fun c_1 => ?_) (fun c_1 => ?_)
  · skip
    refine lv_lconst (v := 0) hx hb dX5_at_22 (by decide) ?_
    exact W.lret (v := 0) hx hb hr (fun t ht _ => ⟨0, rfl, (by unfold k_catJ; rw [if_pos c_1]), ht⟩) (fun _ h9 => nomatch h9) dX5_at_23
  · skip
    refine lv_iload_n hx hb dX5_at_4 rfl (lv_at hl 1 rfl) ?_
    refine lv_aload_n hx hb dX5_at_5 rfl (lv_at hl 0 rfl) ?_
    refine va_get (D := D) (ci := 5) (v := .ref (qr 1)) (C := RX5) (T := TX5) (N := 2) hx hb hts (iwX5_at_5) hown hK.1 hP 0 rfl rfl 0 (by decide) (hts (.fieldLink RX5 9 "InverterGraphs$Rows" "rows" "[J") (by decide +kernel)) (fun _ h9 => h9) rfl dX5_at_6 ?_
    refine va_alen (D := D) hx hb hK.1 hP 1 1 rfl rfl (v := 400) rfl dX5_at_9 ?_
    refine lv_icmp_ge (tgt := 22) hx hb dX5_at_10 (by decide) (fun c_10 => ?_) (fun c_10 => ?_)
    · skip
      refine lv_lconst (v := 0) hx hb dX5_at_22 (by decide) ?_
      exact W.lret (v := 0) hx hb hr (fun t ht _ => ⟨0, rfl, (by unfold k_catJ; rw [if_neg c_1, if_pos (show nI 400 ≤ p0 from c_10)]), ht⟩) (fun _ h9 => nomatch h9) dX5_at_23
    · skip
      refine lv_aload_n hx hb dX5_at_13 rfl (lv_at hl 0 rfl) ?_
      refine va_get (D := D) (ci := 5) (v := .ref (qr 1)) (C := RX5) (T := TX5) (N := 2) hx hb hts (iwX5_at_5) hown hK.1 hP 0 rfl rfl 0 (by decide) (hts (.fieldLink RX5 9 "InverterGraphs$Rows" "rows" "[J") (by decide +kernel)) (fun _ h9 => h9) rfl dX5_at_14 ?_
      refine lv_iload_n hx hb dX5_at_17 rfl (lv_at hl 1 rfl) ?_
      refine va_lald (D := D) hx hb hK.1 hP 1 1 rfl rfl (k_inb (n := 400) (by omega) c_1 c_10) dX5_at_18 ?_
      refine lv_goto (tgt := 23) hx hb dX5_at_19 (by decide) ?_
      exact W.lret (v := ro (Int32.toNatClampNeg p0)) hx hb hr (fun t ht _ => ⟨ro (Int32.toNatClampNeg p0), rfl, (by unfold k_catJ; rw [if_neg c_1, if_neg (show ¬ nI 400 ≤ p0 from c_10)]), ht⟩) (fun _ h9 => nomatch h9) dX5_at_23
theorem iwX5_put_5 : ∀ w ∈ wsX50, w ∈ wsX5_put := by decide +kernel
set_option maxHeartbeats 4000000 in
set_option maxRecDepth 100000 in
theorem c_X5_put (l : Launch) (D : va_G) (κ : Nat → ClassId) (sz : Nat) (qr : Nat → Nat) (ro : Nat → Int64) (wo : Int32) (p0 : Int32) (p1 : Int64) : k_muv (S := Unit) l yX5_put wsX5_put 0 0 0 0 D κ [.ref (qr 0), .int p0, .long p1] (wR κ qr ro wo) sz (fun _ => True) (fun u => wR κ qr (k_cptJ 400 ro p0 p1) wo) := by
  refine Met.ofW (cc := cX5_put) (maxL := 4) (ret := none) (by decide) rfl ?_
  intro p e s m args below meth c s₁ B hml hv
  obtain ⟨rfl, hsz, hK, hP, hD0⟩ := hv
  have hx := B.exec
  have hb := B.bytes
  have hr := B.returns
  have hts := atoms_spec (ws := wsX5_put) B.pre
  have hown : s.vm.findClass RX5 = some m.cls := findClass_of_methodNamed B.named
  have hlocks := B.notSynchronized
  subst hsz
  have hD := hD0.self (sz := s.heap.size)
  generalize hAe : va_A (wR κ qr ro wo) s.heap.size = A at hD ⊢
  have hA : ∀ q : Nat, s.heap.size ≤ q → A q := fun q h => by rw [← hAe]; exact Or.inr h
  have hS : va_S A s.heap s.heap [] := va_S.rf
  have hP : va_P D vwCl (wR κ qr ro wo) s.heap := hP
  have hl := lv_entry ([.ref (qr 0), .int p0, .long p1]) (n := 4) (Nat.le_of_ble_eq_true rfl)
  rw [lg_entry_eq]
  generalize (lg_sl ([.ref (qr 0), .int p0, .long p1]) ++ List.replicate (4 - (lg_sl ([.ref (qr 0), .int p0, .long p1])).length) Slot.unset).toArray = ls at hl ⊢
  have hl : lv_has ls 4 [(0, .ref (qr 0)), (1, .int p0), (2, .long p1)] := hl
  refine lv_iload_n hx hb dX5_put_0 rfl (lv_at hl 1 rfl) ?_
  refine lv_if_lt (tgt := 20) hx hb dX5_put_1 (by decide) (fun c_1 => ?_) (fun c_1 => ?_)
  · skip
    rw [show k_cptJ 400 ro p0 p1 = ro from by unfold k_cptJ; rw [if_pos c_1]]
    exact W.vret hx hb hr (fun t ht hW => ⟨⟨(), rfl, trivial, by rw [ht]; exact hP, hD⟩, hS.F ht⟩) hS.2.2 dX5_put_20
  · skip
    refine lv_iload_n hx hb dX5_put_4 rfl (lv_at hl 1 rfl) ?_
    refine lv_aload_n hx hb dX5_put_5 rfl (lv_at hl 0 rfl) ?_
    refine va_get (D := D) (ci := 5) (v := .ref (qr 1)) (C := RX5) (T := TX5) (N := 2) hx hb hts (iwX5_put_5) hown hK.1 hP 0 rfl rfl 0 (by decide) (hts (.fieldLink RX5 9 "InverterGraphs$Rows" "rows" "[J") (by decide +kernel)) (fun _ h9 => h9) rfl dX5_put_6 ?_
    refine va_alen (D := D) hx hb hK.1 hP 1 1 rfl rfl (v := 400) rfl dX5_put_9 ?_
    refine lv_icmp_ge (tgt := 20) hx hb dX5_put_10 (by decide) (fun c_10 => ?_) (fun c_10 => ?_)
    · skip
      rw [show k_cptJ 400 ro p0 p1 = ro from by unfold k_cptJ; rw [if_neg c_1, if_pos (show nI 400 ≤ p0 from c_10)]]
      exact W.vret hx hb hr (fun t ht hW => ⟨⟨(), rfl, trivial, by rw [ht]; exact hP, hD⟩, hS.F ht⟩) hS.2.2 dX5_put_20
    · skip
      refine lv_aload_n hx hb dX5_put_13 rfl (lv_at hl 0 rfl) ?_
      refine va_get (D := D) (ci := 5) (v := .ref (qr 1)) (C := RX5) (T := TX5) (N := 2) hx hb hts (iwX5_put_5) hown hK.1 hP 0 rfl rfl 0 (by decide) (hts (.fieldLink RX5 9 "InverterGraphs$Rows" "rows" "[J") (by decide +kernel)) (fun _ h9 => h9) rfl dX5_put_14 ?_
      refine lv_iload_n hx hb dX5_put_17 rfl (lv_at hl 1 rfl) ?_
      refine lv_lload_n hx hb dX5_put_18 rfl (lv_at hl 2 rfl) ?_
      refine va_last (D := D) hx hb hK.1 hP hD hS 1 1 rfl rfl (k_inb (n := 400) (by omega) c_1 c_10) dX5_put_19 (fun H locs hP hD hS => ?_)
      have hP : va_P D vwCl (wR κ qr (vp_updL ro (Int32.toNatClampNeg p0) p1) wo) H := hP
      have hD : va_D A (wR κ qr (vp_updL ro (Int32.toNatClampNeg p0) p1) wo) := hD
      rw [show k_cptJ 400 ro p0 p1 = vp_updL ro (Int32.toNatClampNeg p0) p1 from by unfold k_cptJ; rw [if_neg c_1, if_neg (show ¬ nI 400 ≤ p0 from c_10)]]
      exact W.vret hx hb hr (fun t ht hW => ⟨⟨(), rfl, trivial, by rw [ht]; exact hP, hD⟩, hS.F ht⟩) hS.2.2 dX5_put_20
set_option maxHeartbeats 4000000 in
set_option maxRecDepth 100000 in
theorem c_X5_bitsOf (l : Launch) (D : va_G) (κ : Nat → ClassId) (qr : Nat → Nat) (ro : Nat → Int64) (wo : Int32) (p0 : Int32) : k_rol l yX5_bitsOf wsX5_bitsOf 1 21 D κ [.ref (qr 0), .int p0] (wR κ qr ro wo) (fun r => r = k_bits ro p0) := by
  refine Met.ofW (cc := cX5_bitsOf) (maxL := 4) (ret := (some .long)) (by decide) rfl ?_
  intro p e s m args below meth c s₁ B hml hv
  obtain ⟨rfl, hK, hP⟩ := hv
  have hx := B.exec
  have hb := B.bytes
  have hr := B.returns
  have hts := atoms_spec (ws := wsX5_bitsOf) B.pre
  have hown : s.vm.findClass RX5 = some m.cls := findClass_of_methodNamed B.named
  have hlocks := B.notSynchronized
  have hP : va_P D vwCl (wR κ qr ro wo) s.heap := hP
  have hl := lv_entry ([.ref (qr 0), .int p0]) (n := 4) (Nat.le_of_ble_eq_true rfl)
  rw [lg_entry_eq]
  generalize (lg_sl ([.ref (qr 0), .int p0]) ++ List.replicate (4 - (lg_sl ([.ref (qr 0), .int p0])).length) Slot.unset).toArray = ls at hl ⊢
  have hl : lv_has ls 4 [(0, .ref (qr 0)), (1, .int p0)] := hl
  refine lv_aload_n hx hb dX5_bitsOf_0 rfl (lv_at hl 0 rfl) ?_
  refine lv_iload_n hx hb dX5_bitsOf_1 rfl (lv_at hl 1 rfl) ?_
  refine k_cNS ⟨hx, hb, hml, hown, hts⟩ (c_X6_nodeOf l p0) ⟨va_cnB 1 hts ggX5_bitsOf_X6_nodeOf rfl rfl rfl hK.2.2.2.2.2.2.2.1 (hts (.initialized RX6) (by decide +kernel)) (by decide +kernel) ⟨Nat.le_of_ble_eq_true rfl, Nat.le_of_ble_eq_true rfl⟩, (hts (.static yX6_nodeOf) (by decide +kernel)), trivial⟩ (As := [.int p0]) (rest := [.ref (qr 0)]) rfl rfl hl.1 (Nat.le_of_ble_eq_true rfl) dX5_bitsOf_2 ⟨Nat.le_of_ble_eq_true rfl, Nat.le_of_ble_eq_true rfl⟩ (fun r hr => ?_)
  subst hr
  refine k_cROl (D := D) (κ := κ) (qc := (RX5, TX5, 2)) (ci := 5) (q0 := 0) ⟨hx, hb, hml, hown, hts⟩ (c_X5_at l D κ qr ro wo (k_nodeOf p0) ) (cwV 1 hts gX5_bitsOf_X5_at rfl rfl rfl (by decide +kernel) ⟨Nat.le_of_ble_eq_true rfl, Nat.le_of_ble_eq_true rfl⟩) hK hP rfl rfl (As := [.int (k_nodeOf p0)]) (rest := []) rfl rfl hl.1 (Nat.le_of_ble_eq_true rfl) dX5_bitsOf_5 ⟨Nat.le_of_ble_eq_true rfl, Nat.le_of_ble_eq_true rfl⟩ (fun r hr => ?_)
  subst hr
  refine lv_lstore_n (lv' := [(2, .long (k_catJ 400 ro (k_nodeOf p0))), (0, .ref (qr 0)), (1, .int p0)]) hx hb dX5_bitsOf_8 rfl hl (by decide) rfl (fun ls hl => ?_)
  refine lv_iload_n hx hb dX5_bitsOf_9 rfl (lv_at hl 2 rfl) ?_
  refine k_cNS ⟨hx, hb, hml, hown, hts⟩ (c_X6_isTurned l p0) ⟨va_cnB 1 hts ggX5_bitsOf_X6_isTurned rfl rfl rfl hK.2.2.2.2.2.2.2.2 (hts (.initialized RX6) (by decide +kernel)) (by decide +kernel) ⟨Nat.le_of_ble_eq_true rfl, Nat.le_of_ble_eq_true rfl⟩, (hts (.static yX6_isTurned) (by decide +kernel)), trivial⟩ (As := [.int p0]) (rest := []) rfl rfl hl.1 (Nat.le_of_ble_eq_true rfl) dX5_bitsOf_10 ⟨Nat.le_of_ble_eq_true rfl, Nat.le_of_ble_eq_true rfl⟩ (fun r hr => ?_)
  subst hr
  refine lv_if_eq (tgt := 24) hx hb dX5_bitsOf_13 (by decide) (fun c_13 => ?_) (fun c_13 => ?_)
  · skip
    refine lv_lload_n hx hb dX5_bitsOf_24 rfl (lv_at hl 0 rfl) ?_
    exact W.lret (v := k_catJ 400 ro (k_nodeOf p0)) hx hb hr (fun t ht _ => ⟨k_catJ 400 ro (k_nodeOf p0), rfl, (by unfold k_bits; rw [if_pos c_13]), ht⟩) (fun _ h9 => nomatch h9) dX5_bitsOf_25
  · skip
    refine lv_lload_n hx hb dX5_bitsOf_16 rfl (lv_at hl 0 rfl) ?_
    refine lv_ldc2 (v := (-1)) hx hb hown (hts (.constantLong RX5 71 (-1)) (by decide +kernel)) dX5_bitsOf_17 ?_
    refine lv_lxor hx hb dX5_bitsOf_20 ?_
    refine lv_goto (tgt := 25) hx hb dX5_bitsOf_21 (by decide) ?_
    exact W.lret (v := (k_catJ 400 ro (k_nodeOf p0)) ^^^ (-1)) hx hb hr (fun t ht _ => ⟨(k_catJ 400 ro (k_nodeOf p0)) ^^^ (-1), rfl, (by unfold k_bits; rw [if_neg c_13]), ht⟩) (fun _ h9 => nomatch h9) dX5_bitsOf_25
set_option maxHeartbeats 4000000 in
set_option maxRecDepth 100000 in
theorem c_X5_mix (l : Launch) (p0 : Int64) (p1 : Int32) : k_stl l yX5_mix wsX5_mix 0 0 [.long p0, .int p1] (fun r => r = k_mix p0 p1) := by
  refine Met.ofW (cc := cX5_mix) (maxL := 5) (ret := (some .long)) (by decide) rfl ?_
  intro p e s m args below meth c s₁ B hml hv
  obtain ⟨rfl, -⟩ := hv
  have hx := B.exec
  have hb := B.bytes
  have hr := B.returns
  have hts := atoms_spec (ws := wsX5_mix) B.pre
  have hown : s.vm.findClass RX5 = some m.cls := findClass_of_methodNamed B.named
  have hlocks := B.notSynchronized
  have hl := lv_entry ([.long p0, .int p1]) (n := 5) (Nat.le_of_ble_eq_true rfl)
  rw [lg_entry_eq]
  generalize (lg_sl ([.long p0, .int p1]) ++ List.replicate (5 - (lg_sl ([.long p0, .int p1])).length) Slot.unset).toArray = ls at hl ⊢
  have hl : lv_has ls 5 [(0, .long p0), (2, .int p1)] := hl
  refine lv_lload_n hx hb dX5_mix_0 rfl (lv_at hl 0 rfl) ?_
  refine lv_iload_n hx hb dX5_mix_1 rfl (lv_at hl 1 rfl) ?_
  refine lv_iconst (v := 1) hx hb dX5_mix_2 (by decide) ?_
  refine lv_iadd hx hb dX5_mix_3 ?_
  refine lv_i2l (v := Int32.toInt64 (p1 + 1)) hx hb dX5_mix_4 rfl ?_
  refine lv_ldc2 (v := (-7046029254386353131)) hx hb hown (hts (.constantLong RX5 73 (-7046029254386353131)) (by decide +kernel)) dX5_mix_5 ?_
  refine lv_lmul hx hb dX5_mix_8 ?_
  refine lv_ladd hx hb dX5_mix_9 ?_
  refine lv_lstore_n (lv' := [(3, .long (p0 + ((Int32.toInt64 (p1 + 1)) * (-7046029254386353131)))), (0, .long p0), (2, .int p1)]) hx hb dX5_mix_10 rfl hl (by decide) rfl (fun ls hl => ?_)
  refine lv_lload_n hx hb dX5_mix_11 rfl (lv_at hl 0 rfl) ?_
  refine lv_lload_n hx hb dX5_mix_12 rfl (lv_at hl 0 rfl) ?_
  refine lv_bipush (v := 30) hx hb dX5_mix_13 (by decide) ?_
  refine lv_lushr (v := k_lushr (p0 + ((Int32.toInt64 (p1 + 1)) * (-7046029254386353131))) 30) hx hb dX5_mix_15 rfl ?_
  refine lv_lxor hx hb dX5_mix_16 ?_
  refine lv_ldc2 (v := (-4658895280553007687)) hx hb hown (hts (.constantLong RX5 75 (-4658895280553007687)) (by decide +kernel)) dX5_mix_17 ?_
  refine lv_lmul hx hb dX5_mix_20 ?_
  refine lv_lstore_n (lv' := [(3, .long (((p0 + ((Int32.toInt64 (p1 + 1)) * (-7046029254386353131))) ^^^ (k_lushr (p0 + ((Int32.toInt64 (p1 + 1)) * (-7046029254386353131))) 30)) * (-4658895280553007687))), (0, .long p0), (2, .int p1)]) hx hb dX5_mix_21 rfl hl (by decide) rfl (fun ls hl => ?_)
  refine lv_lload_n hx hb dX5_mix_22 rfl (lv_at hl 0 rfl) ?_
  refine lv_lload_n hx hb dX5_mix_23 rfl (lv_at hl 0 rfl) ?_
  refine lv_bipush (v := 27) hx hb dX5_mix_24 (by decide) ?_
  refine lv_lushr (v := k_lushr (((p0 + ((Int32.toInt64 (p1 + 1)) * (-7046029254386353131))) ^^^ (k_lushr (p0 + ((Int32.toInt64 (p1 + 1)) * (-7046029254386353131))) 30)) * (-4658895280553007687)) 27) hx hb dX5_mix_26 rfl ?_
  refine lv_lxor hx hb dX5_mix_27 ?_
  refine lv_ldc2 (v := (-7723592293110705685)) hx hb hown (hts (.constantLong RX5 77 (-7723592293110705685)) (by decide +kernel)) dX5_mix_28 ?_
  refine lv_lmul hx hb dX5_mix_31 ?_
  refine lv_lstore_n (lv' := [(3, .long (((((p0 + ((Int32.toInt64 (p1 + 1)) * (-7046029254386353131))) ^^^ (k_lushr (p0 + ((Int32.toInt64 (p1 + 1)) * (-7046029254386353131))) 30)) * (-4658895280553007687)) ^^^ (k_lushr (((p0 + ((Int32.toInt64 (p1 + 1)) * (-7046029254386353131))) ^^^ (k_lushr (p0 + ((Int32.toInt64 (p1 + 1)) * (-7046029254386353131))) 30)) * (-4658895280553007687)) 27)) * (-7723592293110705685))), (0, .long p0), (2, .int p1)]) hx hb dX5_mix_32 rfl hl (by decide) rfl (fun ls hl => ?_)
  refine lv_lload_n hx hb dX5_mix_33 rfl (lv_at hl 0 rfl) ?_
  refine lv_lload_n hx hb dX5_mix_34 rfl (lv_at hl 0 rfl) ?_
  refine lv_bipush (v := 31) hx hb dX5_mix_35 (by decide) ?_
  refine lv_lushr (v := k_lushr (((((p0 + ((Int32.toInt64 (p1 + 1)) * (-7046029254386353131))) ^^^ (k_lushr (p0 + ((Int32.toInt64 (p1 + 1)) * (-7046029254386353131))) 30)) * (-4658895280553007687)) ^^^ (k_lushr (((p0 + ((Int32.toInt64 (p1 + 1)) * (-7046029254386353131))) ^^^ (k_lushr (p0 + ((Int32.toInt64 (p1 + 1)) * (-7046029254386353131))) 30)) * (-4658895280553007687)) 27)) * (-7723592293110705685)) 31) hx hb dX5_mix_37 rfl ?_
  refine lv_lxor hx hb dX5_mix_38 ?_
  exact W.lret (v := (((((p0 + ((Int32.toInt64 (p1 + 1)) * (-7046029254386353131))) ^^^ (k_lushr (p0 + ((Int32.toInt64 (p1 + 1)) * (-7046029254386353131))) 30)) * (-4658895280553007687)) ^^^ (k_lushr (((p0 + ((Int32.toInt64 (p1 + 1)) * (-7046029254386353131))) ^^^ (k_lushr (p0 + ((Int32.toInt64 (p1 + 1)) * (-7046029254386353131))) 30)) * (-4658895280553007687)) 27)) * (-7723592293110705685)) ^^^ (k_lushr (((((p0 + ((Int32.toInt64 (p1 + 1)) * (-7046029254386353131))) ^^^ (k_lushr (p0 + ((Int32.toInt64 (p1 + 1)) * (-7046029254386353131))) 30)) * (-4658895280553007687)) ^^^ (k_lushr (((p0 + ((Int32.toInt64 (p1 + 1)) * (-7046029254386353131))) ^^^ (k_lushr (p0 + ((Int32.toInt64 (p1 + 1)) * (-7046029254386353131))) 30)) * (-4658895280553007687)) 27)) * (-7723592293110705685)) 31)) hx hb hr (fun t ht _ => ⟨(((((p0 + ((Int32.toInt64 (p1 + 1)) * (-7046029254386353131))) ^^^ (k_lushr (p0 + ((Int32.toInt64 (p1 + 1)) * (-7046029254386353131))) 30)) * (-4658895280553007687)) ^^^ (k_lushr (((p0 + ((Int32.toInt64 (p1 + 1)) * (-7046029254386353131))) ^^^ (k_lushr (p0 + ((Int32.toInt64 (p1 + 1)) * (-7046029254386353131))) 30)) * (-4658895280553007687)) 27)) * (-7723592293110705685)) ^^^ (k_lushr (((((p0 + ((Int32.toInt64 (p1 + 1)) * (-7046029254386353131))) ^^^ (k_lushr (p0 + ((Int32.toInt64 (p1 + 1)) * (-7046029254386353131))) 30)) * (-4658895280553007687)) ^^^ (k_lushr (((p0 + ((Int32.toInt64 (p1 + 1)) * (-7046029254386353131))) ^^^ (k_lushr (p0 + ((Int32.toInt64 (p1 + 1)) * (-7046029254386353131))) 30)) * (-4658895280553007687)) 27)) * (-7723592293110705685)) 31), rfl, rfl, ht⟩) (fun _ h9 => nomatch h9) dX5_mix_39
set_option maxHeartbeats 4000000 in
set_option maxRecDepth 100000 in
theorem c_X5_passAnds (l : Launch) (D : va_G) (κ : Nat → ClassId) (sz : Nat) (qr : Nat → Nat) (ro : Nat → Int64) (wo : Int32) (q : Nat → Nat) (so le gr ne si ou bo : Nat → Int32) (n om ob : Nat)  (hn : n ≤ 400) (hom : om ≤ 40) (hob : ob ≤ om) : k_mui (S := Unit) l yX5_passAnds wsX5_passAnds 2 44 0 0 D κ [.ref (qr 0), .ref (q 0)] (List.flatten [wR κ qr ro wo, wG κ q so le gr ne si ou bo n om ob]) sz (fun r _ => r = (k_pa so le gr ro n).1) (fun u => List.flatten [wR κ qr ((k_pa so le gr ro n).2) wo, wG κ q so le gr ne si ou bo n om ob]) := by
  refine Met.ofW (cc := cX5_passAnds) (maxL := 6) (ret := (some .boolean)) (by decide) rfl ?_
  intro p e s m args below meth c s₁ B hml hv
  obtain ⟨rfl, hsz, hK, hP, hD0⟩ := hv
  have hx := B.exec
  have hb := B.bytes
  have hr := B.returns
  have hts := atoms_spec (ws := wsX5_passAnds) B.pre
  have hown : s.vm.findClass RX5 = some m.cls := findClass_of_methodNamed B.named
  have hlocks := B.notSynchronized
  subst hsz
  have hD := hD0.self (sz := s.heap.size)
  generalize hAe : va_A (List.flatten [wR κ qr ro wo, wG κ q so le gr ne si ou bo n om ob]) s.heap.size = A at hD ⊢
  have hA : ∀ q : Nat, s.heap.size ≤ q → A q := fun q h => by rw [← hAe]; exact Or.inr h
  have hS : va_S A s.heap s.heap [] := va_S.rf
  have hP : va_P D vwCl (List.flatten [wR κ qr ro wo, wG κ q so le gr ne si ou bo n om ob]) s.heap := hP
  have hl := lv_entry ([.ref (qr 0), .ref (q 0)]) (n := 6) (Nat.le_of_ble_eq_true rfl)
  rw [lg_entry_eq]
  generalize (lg_sl ([.ref (qr 0), .ref (q 0)]) ++ List.replicate (6 - (lg_sl ([.ref (qr 0), .ref (q 0)])).length) Slot.unset).toArray = ls at hl ⊢
  have hl : lv_has ls 6 [(0, .ref (qr 0)), (1, .ref (q 0))] := hl
  refine lv_iconst (v := 0) hx hb dX5_passAnds_0 (by decide) ?_
  refine lv_istore_n (lv' := [(2, .int 0), (0, .ref (qr 0)), (1, .ref (q 0))]) hx hb dX5_passAnds_1 rfl hl (by decide) rfl (fun ls hl => ?_)
  refine lv_iconst (v := 0) hx hb dX5_passAnds_2 (by decide) ?_
  refine lv_istore_n (lv' := [(3, .int 0), (2, .int 0), (0, .ref (qr 0)), (1, .ref (q 0))]) hx hb dX5_passAnds_3 rfl hl (by decide) rfl (fun ls hl => ?_)
  have lp : ∀ (k i : Nat) (H : Heap) (locs : List Loc) (ls : Array Slot), (i + k = n) → va_P D vwCl (List.flatten [wR κ qr ((k_pa so le gr ro i).2) wo, wG κ q so le gr ne si ou bo n om ob]) H → va_D A (List.flatten [wR κ qr ((k_pa so le gr ro i).2) wo, wG κ q so le gr ne si ou bo n om ob]) → va_S A s.heap H locs → lv_has ls 6 [(0, .ref (qr 0)), (1, .ref (q 0)), (2, .int ((k_pa so le gr ro i).1)), (3, .int (nI i))] → W p l e (headSpec wsX5_passAnds ({ frames := 2, cells := 0, slots := 0, locals := 44 })).room s m ([.ref (qr 0), .ref (q 0)] : List Value).toArray below meth c H locs 0 0 (MQ below (va_Qi (S := Unit) (fun r _ => r = (k_pa so le gr ro n).1) (fun u => k_B D A (List.flatten [wR κ qr ((k_pa so le gr ro n).2) wo, wG κ q so le gr ne si ou bo n om ob])) A) ([.ref (qr 0), .ref (q 0)] : List Value).toArray s 0 0 A) (F0 m 4 ls []) := by
    intro k
    induction k with
    | zero =>
      intro i H locs ls hi hP hD hS hl
      refine lv_iload_n hx hb dX5_passAnds_4 rfl (lv_at hl 3 rfl) ?_
      refine lv_aload_n hx hb dX5_passAnds_5 rfl (lv_at hl 1 rfl) ?_
      refine k_cRO (D := D) (κ := κ) (qc := (RX1, TX1, 10)) (ci := 1) (q0 := 0) ⟨hx, hb, hml, hown, hts⟩ (c_X1_nodesGiven l D κ q so le gr ne si ou bo n om ob  (by omega) (by omega) (by omega)) (cwV 0 hts gX5_passAnds_X1_nodesGiven rfl rfl rfl (by decide +kernel) ⟨Nat.le_of_ble_eq_true rfl, Nat.le_of_ble_eq_true rfl⟩) hK (k_sub1 (S := wG κ q so le gr ne si ou bo n om ob) hP 1 rfl) rfl rfl (As := []) (rest := [.int (nI i)]) rfl rfl hl.1 (Nat.le_of_ble_eq_true rfl) dX5_passAnds_6 ⟨Nat.le_of_ble_eq_true rfl, Nat.le_of_ble_eq_true rfl⟩ (fun r hr => ?_)
      subst hr
      refine lv_icmp_ge (tgt := 76) hx hb dX5_passAnds_9 (by decide) (fun c_9 => ?_) (fun c_9 => ?_)
      · skip
        have c_9 : n ≤ i := (nI_leI (a := n) (b := i) (by omega) (by omega)).mp c_9
        have e9 : n = i := by omega
        subst e9
        refine lv_iload_n hx hb dX5_passAnds_76 rfl (lv_at hl 2 rfl) ?_
        exact W.zret (ty := .boolean) (v := (k_pa so le gr ro n).1) hx hb hr (by rcases k_pa_01 so le gr ro n with h9 | h9 <;> rw [h9] <;> rfl) (fun t ht hW => ⟨⟨(k_pa so le gr ro n).1, (), rfl, rfl, by rw [ht]; exact hP, hD⟩, hS.F ht⟩) hS.2.2 dX5_passAnds_77
      · skip
        have c_9 : ¬ (n ≤ i) := fun h9 => c_9 ((nI_leI (a := n) (b := i) (by omega) (by omega)).mpr h9)
        exfalso; omega
    | succ k ih =>
      intro i H locs ls hi hP hD hS hl
      refine lv_iload_n hx hb dX5_passAnds_4 rfl (lv_at hl 3 rfl) ?_
      refine lv_aload_n hx hb dX5_passAnds_5 rfl (lv_at hl 1 rfl) ?_
      refine k_cRO (D := D) (κ := κ) (qc := (RX1, TX1, 10)) (ci := 1) (q0 := 0) ⟨hx, hb, hml, hown, hts⟩ (c_X1_nodesGiven l D κ q so le gr ne si ou bo n om ob  (by omega) (by omega) (by omega)) (cwV 0 hts gX5_passAnds_X1_nodesGiven rfl rfl rfl (by decide +kernel) ⟨Nat.le_of_ble_eq_true rfl, Nat.le_of_ble_eq_true rfl⟩) hK (k_sub1 (S := wG κ q so le gr ne si ou bo n om ob) hP 1 rfl) rfl rfl (As := []) (rest := [.int (nI i)]) rfl rfl hl.1 (Nat.le_of_ble_eq_true rfl) dX5_passAnds_6 ⟨Nat.le_of_ble_eq_true rfl, Nat.le_of_ble_eq_true rfl⟩ (fun r hr => ?_)
      subst hr
      refine lv_icmp_ge (tgt := 76) hx hb dX5_passAnds_9 (by decide) (fun c_9 => ?_) (fun c_9 => ?_)
      · skip
        have c_9 : n ≤ i := (nI_leI (a := n) (b := i) (by omega) (by omega)).mp c_9
        exfalso; omega
      · skip
        have c_9 : ¬ (n ≤ i) := fun h9 => c_9 ((nI_leI (a := n) (b := i) (by omega) (by omega)).mpr h9)
        refine lv_aload_n hx hb dX5_passAnds_12 rfl (lv_at hl 1 rfl) ?_
        refine lv_iload_n hx hb dX5_passAnds_13 rfl (lv_at hl 3 rfl) ?_
        refine k_cRO (D := D) (κ := κ) (qc := (RX1, TX1, 10)) (ci := 1) (q0 := 0) ⟨hx, hb, hml, hown, hts⟩ (c_X1_sortOf l D κ q so le gr ne si ou bo n om ob (nI i) (by omega) (by omega) (by omega)) (cwV 1 hts gX5_passAnds_X1_sortOf rfl rfl rfl (by decide +kernel) ⟨Nat.le_of_ble_eq_true rfl, Nat.le_of_ble_eq_true rfl⟩) hK (k_sub1 (S := wG κ q so le gr ne si ou bo n om ob) hP 1 rfl) rfl rfl (As := [.int (nI i)]) (rest := []) rfl rfl hl.1 (Nat.le_of_ble_eq_true rfl) dX5_passAnds_14 ⟨Nat.le_of_ble_eq_true rfl, Nat.le_of_ble_eq_true rfl⟩ (fun r hr => ?_)
        subst hr
        refine lv_iconst (v := 2) hx hb dX5_passAnds_17 (by decide) ?_
        refine lv_icmp_ne (tgt := 70) hx hb dX5_passAnds_18 (by decide) (fun c_18 => ?_) (fun c_18 => ?_)
        · skip
          refine lv_iinc (v := nI (i + 1)) (lv' := [(3, .int (nI (i + 1))), (0, .ref (qr 0)), (1, .ref (q 0)), (2, .int ((k_pa so le gr ro i).1))]) hx hb dX5_passAnds_70 hl (k := 3) rfl (nI_1 _) (by decide) rfl (fun ls hl => ?_)
          refine lv_goto (tgt := 4) hx hb dX5_passAnds_73 (by decide) ?_
          have e9 : k_pa so le gr ro (i + 1) = k_pa so le gr ro i := by show k_paS so le gr i _ = _; unfold k_paS; rw [if_neg c_18]
          exact ih (i + 1) H locs ls (by omega) (by rw [e9]; exact hP) (by rw [e9]; exact hD) hS (by rw [e9]; exact lv_sub hl [1, 2, 3, 0] rfl)
        · skip
          refine lv_aload_n hx hb dX5_passAnds_21 rfl (lv_at hl 0 rfl) ?_
          refine lv_aload_n hx hb dX5_passAnds_22 rfl (lv_at hl 1 rfl) ?_
          refine lv_iload_n hx hb dX5_passAnds_23 rfl (lv_at hl 3 rfl) ?_
          refine k_cRO (D := D) (κ := κ) (qc := (RX1, TX1, 10)) (ci := 1) (q0 := 0) ⟨hx, hb, hml, hown, hts⟩ (c_X1_lesserFanin l D κ q so le gr ne si ou bo n om ob (nI i) (by omega) (by omega) (by omega)) (cwV 1 hts gX5_passAnds_X1_lesserFanin rfl rfl rfl (by decide +kernel) ⟨Nat.le_of_ble_eq_true rfl, Nat.le_of_ble_eq_true rfl⟩) hK (k_sub1 (S := wG κ q so le gr ne si ou bo n om ob) hP 1 rfl) rfl rfl (As := [.int (nI i)]) (rest := [.ref (qr 0)]) rfl rfl hl.1 (Nat.le_of_ble_eq_true rfl) dX5_passAnds_24 ⟨Nat.le_of_ble_eq_true rfl, Nat.le_of_ble_eq_true rfl⟩ (fun r hr => ?_)
          subst hr
          refine k_cROl (D := D) (κ := κ) (qc := (RX5, TX5, 2)) (ci := 5) (q0 := 0) ⟨hx, hb, hml, hown, hts⟩ (c_X5_bitsOf l D κ qr ((k_pa so le gr ro i).2) wo (k_cat 400 le (nI i)) ) (cwV 1 hts gX5_passAnds_X5_bitsOf rfl rfl rfl (by decide +kernel) ⟨Nat.le_of_ble_eq_true rfl, Nat.le_of_ble_eq_true rfl⟩) hK (k_sub1 (S := wR κ qr ((k_pa so le gr ro i).2) wo) hP 0 rfl) rfl rfl (As := [.int (k_cat 400 le (nI i))]) (rest := []) rfl rfl hl.1 (Nat.le_of_ble_eq_true rfl) dX5_passAnds_27 ⟨Nat.le_of_ble_eq_true rfl, Nat.le_of_ble_eq_true rfl⟩ (fun r hr => ?_)
          subst hr
          refine lv_aload_n hx hb dX5_passAnds_30 rfl (lv_at hl 0 rfl) ?_
          refine lv_aload_n hx hb dX5_passAnds_31 rfl (lv_at hl 1 rfl) ?_
          refine lv_iload_n hx hb dX5_passAnds_32 rfl (lv_at hl 3 rfl) ?_
          refine k_cRO (D := D) (κ := κ) (qc := (RX1, TX1, 10)) (ci := 1) (q0 := 0) ⟨hx, hb, hml, hown, hts⟩ (c_X1_greaterFanin l D κ q so le gr ne si ou bo n om ob (nI i) (by omega) (by omega) (by omega)) (cwV 1 hts gX5_passAnds_X1_greaterFanin rfl rfl rfl (by decide +kernel) ⟨Nat.le_of_ble_eq_true rfl, Nat.le_of_ble_eq_true rfl⟩) hK (k_sub1 (S := wG κ q so le gr ne si ou bo n om ob) hP 1 rfl) rfl rfl (As := [.int (nI i)]) (rest := [.ref (qr 0), .long (k_bits ((k_pa so le gr ro i).2) (k_cat 400 le (nI i)))]) rfl rfl hl.1 (Nat.le_of_ble_eq_true rfl) dX5_passAnds_33 ⟨Nat.le_of_ble_eq_true rfl, Nat.le_of_ble_eq_true rfl⟩ (fun r hr => ?_)
          subst hr
          refine k_cROl (D := D) (κ := κ) (qc := (RX5, TX5, 2)) (ci := 5) (q0 := 0) ⟨hx, hb, hml, hown, hts⟩ (c_X5_bitsOf l D κ qr ((k_pa so le gr ro i).2) wo (k_cat 400 gr (nI i)) ) (cwV 1 hts gX5_passAnds_X5_bitsOf rfl rfl rfl (by decide +kernel) ⟨Nat.le_of_ble_eq_true rfl, Nat.le_of_ble_eq_true rfl⟩) hK (k_sub1 (S := wR κ qr ((k_pa so le gr ro i).2) wo) hP 0 rfl) rfl rfl (As := [.int (k_cat 400 gr (nI i))]) (rest := [.long (k_bits ((k_pa so le gr ro i).2) (k_cat 400 le (nI i)))]) rfl rfl hl.1 (Nat.le_of_ble_eq_true rfl) dX5_passAnds_36 ⟨Nat.le_of_ble_eq_true rfl, Nat.le_of_ble_eq_true rfl⟩ (fun r hr => ?_)
          subst hr
          refine lv_land hx hb dX5_passAnds_39 ?_
          refine lv_lstore (lv' := [(4, .long ((k_bits ((k_pa so le gr ro i).2) (k_cat 400 le (nI i))) &&& (k_bits ((k_pa so le gr ro i).2) (k_cat 400 gr (nI i))))), (0, .ref (qr 0)), (1, .ref (q 0)), (2, .int ((k_pa so le gr ro i).1)), (3, .int (nI i))]) hx hb dX5_passAnds_40 hl (by decide) rfl (fun ls hl => ?_)
          refine lv_iload_n hx hb dX5_passAnds_42 rfl (lv_at hl 3 rfl) ?_
          have J_43 : ∀ z : Int32, z = (if (k_pa so le gr ro i).1 = 0 then if lg_cmp (k_catJ 400 ((k_pa so le gr ro i).2) (nI i)) ((k_bits ((k_pa so le gr ro i).2) (k_cat 400 le (nI i))) &&& (k_bits ((k_pa so le gr ro i).2) (k_cat 400 gr (nI i)))) = 0 then 0 else 1 else 1) → W p l e (headSpec wsX5_passAnds ({ frames := 2, cells := 0, slots := 0, locals := 44 })).room s m ([.ref (qr 0), .ref (q 0)] : List Value).toArray below meth c H locs 0 0 (MQ below (va_Qi (S := Unit) (fun r _ => r = (k_pa so le gr ro n).1) (fun u => k_B D A (List.flatten [wR κ qr ((k_pa so le gr ro n).2) wo, wG κ q so le gr ne si ou bo n om ob])) A) ([.ref (qr 0), .ref (q 0)] : List Value).toArray s 0 0 A) (F0 m 62 ls [.int z]) := by
            intro z ez
            subst ez
            refine lv_istore_n (lv' := [(2, .int (if (k_pa so le gr ro i).1 = 0 then if lg_cmp (k_catJ 400 ((k_pa so le gr ro i).2) (nI i)) ((k_bits ((k_pa so le gr ro i).2) (k_cat 400 le (nI i))) &&& (k_bits ((k_pa so le gr ro i).2) (k_cat 400 gr (nI i)))) = 0 then 0 else 1 else 1)), (4, .long ((k_bits ((k_pa so le gr ro i).2) (k_cat 400 le (nI i))) &&& (k_bits ((k_pa so le gr ro i).2) (k_cat 400 gr (nI i))))), (0, .ref (qr 0)), (1, .ref (q 0)), (3, .int (nI i))]) hx hb dX5_passAnds_62 rfl hl (by decide) rfl (fun ls hl => ?_)
            refine lv_aload_n hx hb dX5_passAnds_63 rfl (lv_at hl 2 rfl) ?_
            refine lv_iload_n hx hb dX5_passAnds_64 rfl (lv_at hl 4 rfl) ?_
            refine lv_lload hx hb dX5_passAnds_65 (lv_at hl 1 rfl) ?_
            refine k_cSUv (D := D) (κ := κ) (qc := (RX5, TX5, 2)) (ci := 5) (q0 := 0) (Wc := [wR κ qr ((k_pa so le gr ro i).2) wo]) (W' := fun _ => [wR κ qr (k_cptJ 400 ((k_pa so le gr ro i).2) (nI i) ((k_bits ((k_pa so le gr ro i).2) (k_cat 400 le (nI i))) &&& (k_bits ((k_pa so le gr ro i).2) (k_cat 400 gr (nI i))))) wo]) (Wn := fun _ => [wR κ qr (k_cptJ 400 ((k_pa so le gr ro i).2) (nI i) ((k_bits ((k_pa so le gr ro i).2) (k_cat 400 le (nI i))) &&& (k_bits ((k_pa so le gr ro i).2) (k_cat 400 gr (nI i))))) wo, wG κ q so le gr ne si ou bo n om ob]) ⟨hx, hb, hml, hown, hts⟩ (c_X5_put l D κ _ qr ((k_pa so le gr ro i).2) wo (nI i) ((k_bits ((k_pa so le gr ro i).2) (k_cat 400 le (nI i))) &&& (k_bits ((k_pa so le gr ro i).2) (k_cat 400 gr (nI i)))) ) (cwV 2 hts gX5_passAnds_X5_put rfl rfl rfl (by decide +kernel) ⟨Nat.le_of_ble_eq_true rfl, Nat.le_of_ble_eq_true rfl⟩) hK hP hD hS hA [0] (by decide) rfl (List.flatten_singleton) (fun _ => (List.flatten_singleton)) rfl rfl (fun _ => rfl) (fun _ => rfl) (As := [.int (nI i), .long ((k_bits ((k_pa so le gr ro i).2) (k_cat 400 le (nI i))) &&& (k_bits ((k_pa so le gr ro i).2) (k_cat 400 gr (nI i))))]) (rest := []) rfl rfl hl.1 (Nat.le_of_ble_eq_true rfl) dX5_passAnds_67 ⟨Nat.le_of_ble_eq_true rfl, Nat.le_of_ble_eq_true rfl⟩ (fun _ H locs hw9 hP hD hS => ?_)
            have hP : va_P D vwCl (List.flatten [wR κ qr (k_cptJ 400 ((k_pa so le gr ro i).2) (nI i) ((k_bits ((k_pa so le gr ro i).2) (k_cat 400 le (nI i))) &&& (k_bits ((k_pa so le gr ro i).2) (k_cat 400 gr (nI i))))) wo, wG κ q so le gr ne si ou bo n om ob]) H := hP
            have hD : va_D A (List.flatten [wR κ qr (k_cptJ 400 ((k_pa so le gr ro i).2) (nI i) ((k_bits ((k_pa so le gr ro i).2) (k_cat 400 le (nI i))) &&& (k_bits ((k_pa so le gr ro i).2) (k_cat 400 gr (nI i))))) wo, wG κ q so le gr ne si ou bo n om ob]) := hD
            refine lv_iinc (v := nI (i + 1)) (lv' := [(3, .int (nI (i + 1))), (2, .int (if (k_pa so le gr ro i).1 = 0 then if lg_cmp (k_catJ 400 ((k_pa so le gr ro i).2) (nI i)) ((k_bits ((k_pa so le gr ro i).2) (k_cat 400 le (nI i))) &&& (k_bits ((k_pa so le gr ro i).2) (k_cat 400 gr (nI i)))) = 0 then 0 else 1 else 1)), (4, .long ((k_bits ((k_pa so le gr ro i).2) (k_cat 400 le (nI i))) &&& (k_bits ((k_pa so le gr ro i).2) (k_cat 400 gr (nI i))))), (0, .ref (qr 0)), (1, .ref (q 0))]) hx hb dX5_passAnds_70 hl (k := 4) rfl (nI_1 _) (by decide) rfl (fun ls hl => ?_)
            refine lv_goto (tgt := 4) hx hb dX5_passAnds_73 (by decide) ?_
            have e9 : k_pa so le gr ro (i + 1) = ((if (k_pa so le gr ro i).1 = 0 then if lg_cmp (k_catJ 400 ((k_pa so le gr ro i).2) (nI i)) ((k_bits ((k_pa so le gr ro i).2) (k_cat 400 le (nI i))) &&& (k_bits ((k_pa so le gr ro i).2) (k_cat 400 gr (nI i)))) = 0 then 0 else 1 else 1), k_cptJ 400 ((k_pa so le gr ro i).2) (nI i) ((k_bits ((k_pa so le gr ro i).2) (k_cat 400 le (nI i))) &&& (k_bits ((k_pa so le gr ro i).2) (k_cat 400 gr (nI i))))) := by show k_paS so le gr i _ = _; unfold k_paS; rw [if_pos c_18]
            exact ih (i + 1) H locs ls (by omega) (by rw [e9]; exact hP) (by rw [e9]; exact hD) hS (by rw [e9]; exact lv_sub hl [3, 4, 1, 0] rfl)
          refine lv_if_ne (tgt := 57) hx hb dX5_passAnds_43 (by decide) (fun c_43 => ?_) (fun c_43 => ?_)
          · skip
            refine lv_iconst (v := 1) hx hb dX5_passAnds_57 (by decide) ?_
            refine lv_goto (tgt := 62) hx hb dX5_passAnds_58 (by decide) ?_
            exact J_43 _ (by rw [if_neg c_43])
          · skip
            refine lv_aload_n hx hb dX5_passAnds_46 rfl (lv_at hl 1 rfl) ?_
            refine lv_iload_n hx hb dX5_passAnds_47 rfl (lv_at hl 4 rfl) ?_
            refine k_cROl (D := D) (κ := κ) (qc := (RX5, TX5, 2)) (ci := 5) (q0 := 0) ⟨hx, hb, hml, hown, hts⟩ (c_X5_at l D κ qr ((k_pa so le gr ro i).2) wo (nI i) ) (cwV 1 hts gX5_passAnds_X5_at rfl rfl rfl (by decide +kernel) ⟨Nat.le_of_ble_eq_true rfl, Nat.le_of_ble_eq_true rfl⟩) hK (k_sub1 (S := wR κ qr ((k_pa so le gr ro i).2) wo) hP 0 rfl) rfl rfl (As := [.int (nI i)]) (rest := []) rfl rfl hl.1 (Nat.le_of_ble_eq_true rfl) dX5_passAnds_48 ⟨Nat.le_of_ble_eq_true rfl, Nat.le_of_ble_eq_true rfl⟩ (fun r hr => ?_)
            subst hr
            refine lv_lload hx hb dX5_passAnds_51 (lv_at hl 0 rfl) ?_
            refine W.lcmp hx hb dX5_passAnds_53 ?_
            refine lv_if_eq (tgt := 61) hx hb dX5_passAnds_54 (by decide) (fun c_54 => ?_) (fun c_54 => ?_)
            · skip
              refine lv_iconst (v := 0) hx hb dX5_passAnds_61 (by decide) ?_
              exact J_43 _ (by rw [if_pos c_43, if_pos c_54])
            · skip
              refine lv_iconst (v := 1) hx hb dX5_passAnds_57 (by decide) ?_
              refine lv_goto (tgt := 62) hx hb dX5_passAnds_58 (by decide) ?_
              exact J_43 _ (by rw [if_pos c_43, if_neg c_54])
  exact lp n 0 _ _ ls (by omega) hP hD hS (lv_sub hl [2, 3, 1, 0] rfl)
set_option maxHeartbeats 4000000 in
set_option maxRecDepth 100000 in
theorem c_X5_mixSources (l : Launch) (D : va_G) (κ : Nat → ClassId) (sz : Nat) (qr : Nat → Nat) (ro : Nat → Int64) (wo : Int32) (q : Nat → Nat) (so le gr ne si ou bo : Nat → Int32) (n om ob : Nat) (p1 : Int64) (hn : n ≤ 400) (hom : om ≤ 40) (hob : ob ≤ om) : k_muv (S := Unit) l yX5_mixSources wsX5_mixSources 2 42 0 0 D κ [.ref (qr 0), .ref (q 0), .long p1] (List.flatten [wR κ qr ro wo, wG κ q so le gr ne si ou bo n om ob]) sz (fun _ => True) (fun u => List.flatten [wR κ qr ((k_ms so p1 ro n).2) wo, wG κ q so le gr ne si ou bo n om ob]) := by
  refine Met.ofW (cc := cX5_mixSources) (maxL := 7) (ret := none) (by decide) rfl ?_
  intro p e s m args below meth c s₁ B hml hv
  obtain ⟨rfl, hsz, hK, hP, hD0⟩ := hv
  have hx := B.exec
  have hb := B.bytes
  have hr := B.returns
  have hts := atoms_spec (ws := wsX5_mixSources) B.pre
  have hown : s.vm.findClass RX5 = some m.cls := findClass_of_methodNamed B.named
  have hlocks := B.notSynchronized
  subst hsz
  have hD := hD0.self (sz := s.heap.size)
  generalize hAe : va_A (List.flatten [wR κ qr ro wo, wG κ q so le gr ne si ou bo n om ob]) s.heap.size = A at hD ⊢
  have hA : ∀ q : Nat, s.heap.size ≤ q → A q := fun q h => by rw [← hAe]; exact Or.inr h
  have hS : va_S A s.heap s.heap [] := va_S.rf
  have hP : va_P D vwCl (List.flatten [wR κ qr ro wo, wG κ q so le gr ne si ou bo n om ob]) s.heap := hP
  have hl := lv_entry ([.ref (qr 0), .ref (q 0), .long p1]) (n := 7) (Nat.le_of_ble_eq_true rfl)
  rw [lg_entry_eq]
  generalize (lg_sl ([.ref (qr 0), .ref (q 0), .long p1]) ++ List.replicate (7 - (lg_sl ([.ref (qr 0), .ref (q 0), .long p1])).length) Slot.unset).toArray = ls at hl ⊢
  have hl : lv_has ls 7 [(0, .ref (qr 0)), (1, .ref (q 0)), (2, .long p1)] := hl
  refine lv_iconst (v := 0) hx hb dX5_mixSources_0 (by decide) ?_
  refine lv_istore (lv' := [(4, .int 0), (0, .ref (qr 0)), (1, .ref (q 0)), (2, .long p1)]) hx hb dX5_mixSources_1 hl (by decide) rfl (fun ls hl => ?_)
  refine lv_iconst (v := 0) hx hb dX5_mixSources_3 (by decide) ?_
  refine lv_istore (lv' := [(5, .int 0), (4, .int 0), (0, .ref (qr 0)), (1, .ref (q 0)), (2, .long p1)]) hx hb dX5_mixSources_4 hl (by decide) rfl (fun ls hl => ?_)
  have lp : ∀ (k i : Nat) (H : Heap) (locs : List Loc) (ls : Array Slot), (i + k = n) → va_P D vwCl (List.flatten [wR κ qr ((k_ms so p1 ro i).2) wo, wG κ q so le gr ne si ou bo n om ob]) H → va_D A (List.flatten [wR κ qr ((k_ms so p1 ro i).2) wo, wG κ q so le gr ne si ou bo n om ob]) → va_S A s.heap H locs → lv_has ls 7 [(0, .ref (qr 0)), (1, .ref (q 0)), (2, .long p1), (4, .int ((k_ms so p1 ro i).1)), (5, .int (nI i))] → W p l e (headSpec wsX5_mixSources ({ frames := 2, cells := 0, slots := 0, locals := 42 })).room s m ([.ref (qr 0), .ref (q 0), .long p1] : List Value).toArray below meth c H locs 0 0 (MQ below (va_Qv (S := Unit) (fun _ => True) (fun u => k_B D A (List.flatten [wR κ qr ((k_ms so p1 ro n).2) wo, wG κ q so le gr ne si ou bo n om ob])) A) ([.ref (qr 0), .ref (q 0), .long p1] : List Value).toArray s 0 0 A) (F0 m 6 ls []) := by
    intro k
    induction k with
    | zero =>
      intro i H locs ls hi hP hD hS hl
      refine lv_iload hx hb dX5_mixSources_6 (lv_at hl 4 rfl) ?_
      refine lv_aload_n hx hb dX5_mixSources_8 rfl (lv_at hl 1 rfl) ?_
      refine k_cRO (D := D) (κ := κ) (qc := (RX1, TX1, 10)) (ci := 1) (q0 := 0) ⟨hx, hb, hml, hown, hts⟩ (c_X1_nodesGiven l D κ q so le gr ne si ou bo n om ob  (by omega) (by omega) (by omega)) (cwV 0 hts gX5_mixSources_X1_nodesGiven rfl rfl rfl (by decide +kernel) ⟨Nat.le_of_ble_eq_true rfl, Nat.le_of_ble_eq_true rfl⟩) hK (k_sub1 (S := wG κ q so le gr ne si ou bo n om ob) hP 1 rfl) rfl rfl (As := []) (rest := [.int (nI i)]) rfl rfl hl.1 (Nat.le_of_ble_eq_true rfl) dX5_mixSources_9 ⟨Nat.le_of_ble_eq_true rfl, Nat.le_of_ble_eq_true rfl⟩ (fun r hr => ?_)
      subst hr
      refine lv_icmp_ge (tgt := 62) hx hb dX5_mixSources_12 (by decide) (fun c_12 => ?_) (fun c_12 => ?_)
      · skip
        have c_12 : n ≤ i := (nI_leI (a := n) (b := i) (by omega) (by omega)).mp c_12
        have e9 : n = i := by omega
        subst e9
        exact W.vret hx hb hr (fun t ht hW => ⟨⟨(), rfl, trivial, by rw [ht]; exact hP, hD⟩, hS.F ht⟩) hS.2.2 dX5_mixSources_62
      · skip
        have c_12 : ¬ (n ≤ i) := fun h9 => c_12 ((nI_leI (a := n) (b := i) (by omega) (by omega)).mpr h9)
        exfalso; omega
    | succ k ih =>
      intro i H locs ls hi hP hD hS hl
      refine lv_iload hx hb dX5_mixSources_6 (lv_at hl 4 rfl) ?_
      refine lv_aload_n hx hb dX5_mixSources_8 rfl (lv_at hl 1 rfl) ?_
      refine k_cRO (D := D) (κ := κ) (qc := (RX1, TX1, 10)) (ci := 1) (q0 := 0) ⟨hx, hb, hml, hown, hts⟩ (c_X1_nodesGiven l D κ q so le gr ne si ou bo n om ob  (by omega) (by omega) (by omega)) (cwV 0 hts gX5_mixSources_X1_nodesGiven rfl rfl rfl (by decide +kernel) ⟨Nat.le_of_ble_eq_true rfl, Nat.le_of_ble_eq_true rfl⟩) hK (k_sub1 (S := wG κ q so le gr ne si ou bo n om ob) hP 1 rfl) rfl rfl (As := []) (rest := [.int (nI i)]) rfl rfl hl.1 (Nat.le_of_ble_eq_true rfl) dX5_mixSources_9 ⟨Nat.le_of_ble_eq_true rfl, Nat.le_of_ble_eq_true rfl⟩ (fun r hr => ?_)
      subst hr
      refine lv_icmp_ge (tgt := 62) hx hb dX5_mixSources_12 (by decide) (fun c_12 => ?_) (fun c_12 => ?_)
      · skip
        have c_12 : n ≤ i := (nI_leI (a := n) (b := i) (by omega) (by omega)).mp c_12
        exfalso; omega
      · skip
        have c_12 : ¬ (n ≤ i) := fun h9 => c_12 ((nI_leI (a := n) (b := i) (by omega) (by omega)).mpr h9)
        refine lv_aload_n hx hb dX5_mixSources_15 rfl (lv_at hl 1 rfl) ?_
        refine lv_iload hx hb dX5_mixSources_16 (lv_at hl 4 rfl) ?_
        refine k_cRO (D := D) (κ := κ) (qc := (RX1, TX1, 10)) (ci := 1) (q0 := 0) ⟨hx, hb, hml, hown, hts⟩ (c_X1_sortOf l D κ q so le gr ne si ou bo n om ob (nI i) (by omega) (by omega) (by omega)) (cwV 1 hts gX5_mixSources_X1_sortOf rfl rfl rfl (by decide +kernel) ⟨Nat.le_of_ble_eq_true rfl, Nat.le_of_ble_eq_true rfl⟩) hK (k_sub1 (S := wG κ q so le gr ne si ou bo n om ob) hP 1 rfl) rfl rfl (As := [.int (nI i)]) (rest := []) rfl rfl hl.1 (Nat.le_of_ble_eq_true rfl) dX5_mixSources_18 ⟨Nat.le_of_ble_eq_true rfl, Nat.le_of_ble_eq_true rfl⟩ (fun r hr => ?_)
        subst hr
        refine lv_istore (lv' := [(6, .int (k_cat 400 so (nI i))), (0, .ref (qr 0)), (1, .ref (q 0)), (2, .long p1), (4, .int ((k_ms so p1 ro i).1)), (5, .int (nI i))]) hx hb dX5_mixSources_21 hl (by decide) rfl (fun ls hl => ?_)
        refine lv_iload hx hb dX5_mixSources_23 (lv_at hl 0 rfl) ?_
        refine lv_iconst (v := 1) hx hb dX5_mixSources_25 (by decide) ?_
        refine lv_icmp_eq (tgt := 41) hx hb dX5_mixSources_26 (by decide) (fun c_26 => ?_) (fun c_26 => ?_)
        · skip
          refine lv_aload_n hx hb dX5_mixSources_41 rfl (lv_at hl 1 rfl) ?_
          refine lv_iload hx hb dX5_mixSources_42 (lv_at hl 5 rfl) ?_
          refine lv_lload_n hx hb dX5_mixSources_44 rfl (lv_at hl 3 rfl) ?_
          refine lv_iload hx hb dX5_mixSources_45 (lv_at hl 4 rfl) ?_
          refine k_cSTl ⟨hx, hb, hml, hown, hts⟩ (c_X5_mix l p1 ((k_ms so p1 ro i).1)) (va_cwS 2 hts gX5_mixSources_X5_mix rfl rfl rfl (by decide +kernel) ⟨Nat.le_of_ble_eq_true rfl, Nat.le_of_ble_eq_true rfl⟩) (As := [.long p1, .int ((k_ms so p1 ro i).1)]) (rest := [.int (nI i), .ref (qr 0)]) rfl rfl hl.1 (Nat.le_of_ble_eq_true rfl) dX5_mixSources_47 ⟨Nat.le_of_ble_eq_true rfl, Nat.le_of_ble_eq_true rfl⟩ (fun r hr => ?_)
          subst hr
          refine k_cSUv (D := D) (κ := κ) (qc := (RX5, TX5, 2)) (ci := 5) (q0 := 0) (Wc := [wR κ qr ((k_ms so p1 ro i).2) wo]) (W' := fun _ => [wR κ qr (k_cptJ 400 ((k_ms so p1 ro i).2) (nI i) (k_mix p1 ((k_ms so p1 ro i).1))) wo]) (Wn := fun _ => [wR κ qr (k_cptJ 400 ((k_ms so p1 ro i).2) (nI i) (k_mix p1 ((k_ms so p1 ro i).1))) wo, wG κ q so le gr ne si ou bo n om ob]) ⟨hx, hb, hml, hown, hts⟩ (c_X5_put l D κ _ qr ((k_ms so p1 ro i).2) wo (nI i) (k_mix p1 ((k_ms so p1 ro i).1)) ) (cwV 2 hts gX5_mixSources_X5_put rfl rfl rfl (by decide +kernel) ⟨Nat.le_of_ble_eq_true rfl, Nat.le_of_ble_eq_true rfl⟩) hK hP hD hS hA [0] (by decide) rfl (List.flatten_singleton) (fun _ => (List.flatten_singleton)) rfl rfl (fun _ => rfl) (fun _ => rfl) (As := [.int (nI i), .long (k_mix p1 ((k_ms so p1 ro i).1))]) (rest := []) rfl rfl hl.1 (Nat.le_of_ble_eq_true rfl) dX5_mixSources_50 ⟨Nat.le_of_ble_eq_true rfl, Nat.le_of_ble_eq_true rfl⟩ (fun _ H locs hw9 hP hD hS => ?_)
          have hP : va_P D vwCl (List.flatten [wR κ qr (k_cptJ 400 ((k_ms so p1 ro i).2) (nI i) (k_mix p1 ((k_ms so p1 ro i).1))) wo, wG κ q so le gr ne si ou bo n om ob]) H := hP
          have hD : va_D A (List.flatten [wR κ qr (k_cptJ 400 ((k_ms so p1 ro i).2) (nI i) (k_mix p1 ((k_ms so p1 ro i).1))) wo, wG κ q so le gr ne si ou bo n om ob]) := hD
          refine lv_iinc (v := ((k_ms so p1 ro i).1) + (1)) (lv' := [(4, .int (((k_ms so p1 ro i).1) + (1))), (6, .int (k_cat 400 so (nI i))), (0, .ref (qr 0)), (1, .ref (q 0)), (2, .long p1), (5, .int (nI i))]) hx hb dX5_mixSources_53 hl (k := 4) rfl rfl (by decide) rfl (fun ls hl => ?_)
          refine lv_iinc (v := nI (i + 1)) (lv' := [(5, .int (nI (i + 1))), (4, .int (((k_ms so p1 ro i).1) + (1))), (6, .int (k_cat 400 so (nI i))), (0, .ref (qr 0)), (1, .ref (q 0)), (2, .long p1)]) hx hb dX5_mixSources_56 hl (k := 5) rfl (nI_1 _) (by decide) rfl (fun ls hl => ?_)
          refine lv_goto (tgt := 6) hx hb dX5_mixSources_59 (by decide) ?_
          have e9 : k_ms so p1 ro (i + 1) = ((k_ms so p1 ro i).1 + 1, k_cptJ 400 ((k_ms so p1 ro i).2) (nI i) (k_mix p1 ((k_ms so p1 ro i).1))) := by show k_msS so p1 i _ = _; unfold k_msS; rw [if_pos (Or.inl c_26)]
          exact ih (i + 1) H locs ls (by omega) (by rw [e9]; exact hP) (by rw [e9]; exact hD) hS (by rw [e9]; exact lv_sub hl [3, 4, 5, 1, 0] rfl)
        · skip
          refine lv_iload hx hb dX5_mixSources_29 (lv_at hl 0 rfl) ?_
          refine lv_iconst (v := 3) hx hb dX5_mixSources_31 (by decide) ?_
          refine lv_icmp_eq (tgt := 41) hx hb dX5_mixSources_32 (by decide) (fun c_32 => ?_) (fun c_32 => ?_)
          · skip
            refine lv_aload_n hx hb dX5_mixSources_41 rfl (lv_at hl 1 rfl) ?_
            refine lv_iload hx hb dX5_mixSources_42 (lv_at hl 5 rfl) ?_
            refine lv_lload_n hx hb dX5_mixSources_44 rfl (lv_at hl 3 rfl) ?_
            refine lv_iload hx hb dX5_mixSources_45 (lv_at hl 4 rfl) ?_
            refine k_cSTl ⟨hx, hb, hml, hown, hts⟩ (c_X5_mix l p1 ((k_ms so p1 ro i).1)) (va_cwS 2 hts gX5_mixSources_X5_mix rfl rfl rfl (by decide +kernel) ⟨Nat.le_of_ble_eq_true rfl, Nat.le_of_ble_eq_true rfl⟩) (As := [.long p1, .int ((k_ms so p1 ro i).1)]) (rest := [.int (nI i), .ref (qr 0)]) rfl rfl hl.1 (Nat.le_of_ble_eq_true rfl) dX5_mixSources_47 ⟨Nat.le_of_ble_eq_true rfl, Nat.le_of_ble_eq_true rfl⟩ (fun r hr => ?_)
            subst hr
            refine k_cSUv (D := D) (κ := κ) (qc := (RX5, TX5, 2)) (ci := 5) (q0 := 0) (Wc := [wR κ qr ((k_ms so p1 ro i).2) wo]) (W' := fun _ => [wR κ qr (k_cptJ 400 ((k_ms so p1 ro i).2) (nI i) (k_mix p1 ((k_ms so p1 ro i).1))) wo]) (Wn := fun _ => [wR κ qr (k_cptJ 400 ((k_ms so p1 ro i).2) (nI i) (k_mix p1 ((k_ms so p1 ro i).1))) wo, wG κ q so le gr ne si ou bo n om ob]) ⟨hx, hb, hml, hown, hts⟩ (c_X5_put l D κ _ qr ((k_ms so p1 ro i).2) wo (nI i) (k_mix p1 ((k_ms so p1 ro i).1)) ) (cwV 2 hts gX5_mixSources_X5_put rfl rfl rfl (by decide +kernel) ⟨Nat.le_of_ble_eq_true rfl, Nat.le_of_ble_eq_true rfl⟩) hK hP hD hS hA [0] (by decide) rfl (List.flatten_singleton) (fun _ => (List.flatten_singleton)) rfl rfl (fun _ => rfl) (fun _ => rfl) (As := [.int (nI i), .long (k_mix p1 ((k_ms so p1 ro i).1))]) (rest := []) rfl rfl hl.1 (Nat.le_of_ble_eq_true rfl) dX5_mixSources_50 ⟨Nat.le_of_ble_eq_true rfl, Nat.le_of_ble_eq_true rfl⟩ (fun _ H locs hw9 hP hD hS => ?_)
            have hP : va_P D vwCl (List.flatten [wR κ qr (k_cptJ 400 ((k_ms so p1 ro i).2) (nI i) (k_mix p1 ((k_ms so p1 ro i).1))) wo, wG κ q so le gr ne si ou bo n om ob]) H := hP
            have hD : va_D A (List.flatten [wR κ qr (k_cptJ 400 ((k_ms so p1 ro i).2) (nI i) (k_mix p1 ((k_ms so p1 ro i).1))) wo, wG κ q so le gr ne si ou bo n om ob]) := hD
            refine lv_iinc (v := ((k_ms so p1 ro i).1) + (1)) (lv' := [(4, .int (((k_ms so p1 ro i).1) + (1))), (6, .int (k_cat 400 so (nI i))), (0, .ref (qr 0)), (1, .ref (q 0)), (2, .long p1), (5, .int (nI i))]) hx hb dX5_mixSources_53 hl (k := 4) rfl rfl (by decide) rfl (fun ls hl => ?_)
            refine lv_iinc (v := nI (i + 1)) (lv' := [(5, .int (nI (i + 1))), (4, .int (((k_ms so p1 ro i).1) + (1))), (6, .int (k_cat 400 so (nI i))), (0, .ref (qr 0)), (1, .ref (q 0)), (2, .long p1)]) hx hb dX5_mixSources_56 hl (k := 5) rfl (nI_1 _) (by decide) rfl (fun ls hl => ?_)
            refine lv_goto (tgt := 6) hx hb dX5_mixSources_59 (by decide) ?_
            have e9 : k_ms so p1 ro (i + 1) = ((k_ms so p1 ro i).1 + 1, k_cptJ 400 ((k_ms so p1 ro i).2) (nI i) (k_mix p1 ((k_ms so p1 ro i).1))) := by show k_msS so p1 i _ = _; unfold k_msS; rw [if_pos (Or.inr (Or.inl c_32))]
            exact ih (i + 1) H locs ls (by omega) (by rw [e9]; exact hP) (by rw [e9]; exact hD) hS (by rw [e9]; exact lv_sub hl [3, 4, 5, 1, 0] rfl)
          · skip
            refine lv_iload hx hb dX5_mixSources_35 (lv_at hl 0 rfl) ?_
            refine lv_iconst (v := 4) hx hb dX5_mixSources_37 (by decide) ?_
            refine lv_icmp_ne (tgt := 56) hx hb dX5_mixSources_38 (by decide) (fun c_38 => ?_) (fun c_38 => ?_)
            · skip
              refine lv_iinc (v := nI (i + 1)) (lv' := [(5, .int (nI (i + 1))), (6, .int (k_cat 400 so (nI i))), (0, .ref (qr 0)), (1, .ref (q 0)), (2, .long p1), (4, .int ((k_ms so p1 ro i).1))]) hx hb dX5_mixSources_56 hl (k := 5) rfl (nI_1 _) (by decide) rfl (fun ls hl => ?_)
              refine lv_goto (tgt := 6) hx hb dX5_mixSources_59 (by decide) ?_
              have e9 : k_ms so p1 ro (i + 1) = k_ms so p1 ro i := by show k_msS so p1 i _ = _; unfold k_msS; rw [if_neg (fun h9 => h9.elim c_26 (fun h9 => h9.elim c_32 c_38))]
              exact ih (i + 1) H locs ls (by omega) (by rw [e9]; exact hP) (by rw [e9]; exact hD) hS (by rw [e9]; exact lv_sub hl [2, 3, 4, 5, 0] rfl)
            · skip
              refine lv_aload_n hx hb dX5_mixSources_41 rfl (lv_at hl 1 rfl) ?_
              refine lv_iload hx hb dX5_mixSources_42 (lv_at hl 5 rfl) ?_
              refine lv_lload_n hx hb dX5_mixSources_44 rfl (lv_at hl 3 rfl) ?_
              refine lv_iload hx hb dX5_mixSources_45 (lv_at hl 4 rfl) ?_
              refine k_cSTl ⟨hx, hb, hml, hown, hts⟩ (c_X5_mix l p1 ((k_ms so p1 ro i).1)) (va_cwS 2 hts gX5_mixSources_X5_mix rfl rfl rfl (by decide +kernel) ⟨Nat.le_of_ble_eq_true rfl, Nat.le_of_ble_eq_true rfl⟩) (As := [.long p1, .int ((k_ms so p1 ro i).1)]) (rest := [.int (nI i), .ref (qr 0)]) rfl rfl hl.1 (Nat.le_of_ble_eq_true rfl) dX5_mixSources_47 ⟨Nat.le_of_ble_eq_true rfl, Nat.le_of_ble_eq_true rfl⟩ (fun r hr => ?_)
              subst hr
              refine k_cSUv (D := D) (κ := κ) (qc := (RX5, TX5, 2)) (ci := 5) (q0 := 0) (Wc := [wR κ qr ((k_ms so p1 ro i).2) wo]) (W' := fun _ => [wR κ qr (k_cptJ 400 ((k_ms so p1 ro i).2) (nI i) (k_mix p1 ((k_ms so p1 ro i).1))) wo]) (Wn := fun _ => [wR κ qr (k_cptJ 400 ((k_ms so p1 ro i).2) (nI i) (k_mix p1 ((k_ms so p1 ro i).1))) wo, wG κ q so le gr ne si ou bo n om ob]) ⟨hx, hb, hml, hown, hts⟩ (c_X5_put l D κ _ qr ((k_ms so p1 ro i).2) wo (nI i) (k_mix p1 ((k_ms so p1 ro i).1)) ) (cwV 2 hts gX5_mixSources_X5_put rfl rfl rfl (by decide +kernel) ⟨Nat.le_of_ble_eq_true rfl, Nat.le_of_ble_eq_true rfl⟩) hK hP hD hS hA [0] (by decide) rfl (List.flatten_singleton) (fun _ => (List.flatten_singleton)) rfl rfl (fun _ => rfl) (fun _ => rfl) (As := [.int (nI i), .long (k_mix p1 ((k_ms so p1 ro i).1))]) (rest := []) rfl rfl hl.1 (Nat.le_of_ble_eq_true rfl) dX5_mixSources_50 ⟨Nat.le_of_ble_eq_true rfl, Nat.le_of_ble_eq_true rfl⟩ (fun _ H locs hw9 hP hD hS => ?_)
              have hP : va_P D vwCl (List.flatten [wR κ qr (k_cptJ 400 ((k_ms so p1 ro i).2) (nI i) (k_mix p1 ((k_ms so p1 ro i).1))) wo, wG κ q so le gr ne si ou bo n om ob]) H := hP
              have hD : va_D A (List.flatten [wR κ qr (k_cptJ 400 ((k_ms so p1 ro i).2) (nI i) (k_mix p1 ((k_ms so p1 ro i).1))) wo, wG κ q so le gr ne si ou bo n om ob]) := hD
              refine lv_iinc (v := ((k_ms so p1 ro i).1) + (1)) (lv' := [(4, .int (((k_ms so p1 ro i).1) + (1))), (6, .int (k_cat 400 so (nI i))), (0, .ref (qr 0)), (1, .ref (q 0)), (2, .long p1), (5, .int (nI i))]) hx hb dX5_mixSources_53 hl (k := 4) rfl rfl (by decide) rfl (fun ls hl => ?_)
              refine lv_iinc (v := nI (i + 1)) (lv' := [(5, .int (nI (i + 1))), (4, .int (((k_ms so p1 ro i).1) + (1))), (6, .int (k_cat 400 so (nI i))), (0, .ref (qr 0)), (1, .ref (q 0)), (2, .long p1)]) hx hb dX5_mixSources_56 hl (k := 5) rfl (nI_1 _) (by decide) rfl (fun ls hl => ?_)
              refine lv_goto (tgt := 6) hx hb dX5_mixSources_59 (by decide) ?_
              have e9 : k_ms so p1 ro (i + 1) = ((k_ms so p1 ro i).1 + 1, k_cptJ 400 ((k_ms so p1 ro i).2) (nI i) (k_mix p1 ((k_ms so p1 ro i).1))) := by show k_msS so p1 i _ = _; unfold k_msS; rw [if_pos (Or.inr (Or.inr c_38))]
              exact ih (i + 1) H locs ls (by omega) (by rw [e9]; exact hP) (by rw [e9]; exact hD) hS (by rw [e9]; exact lv_sub hl [3, 4, 5, 1, 0] rfl)
  exact lp n 0 _ _ ls (by omega) hP hD hS (lv_sub hl [2, 3, 4, 1, 0] rfl)
theorem iwX5_workOut_5 : ∀ w ∈ wsX50, w ∈ wsX5_workOut := by decide +kernel
set_option maxHeartbeats 4000000 in
set_option maxRecDepth 100000 in
theorem c_X5_workOut (l : Launch) (D : va_G) (κ : Nat → ClassId) (sz : Nat) (qr : Nat → Nat) (ro : Nat → Int64) (wo : Int32) (q : Nat → Nat) (so le gr ne si ou bo : Nat → Int32) (n om ob : Nat) (p1 : Int64) (hn : n ≤ 400) (hom : om ≤ 40) (hob : ob ≤ om) : k_muv (S := Unit) l yX5_workOut wsX5_workOut 3 69 0 0 D κ [.ref (qr 0), .ref (q 0), .long p1] (List.flatten [wR κ qr ro wo, wG κ q so le gr ne si ou bo n om ob]) sz (fun _ => True) (fun u => List.flatten [wR κ qr (k_rw so le gr n 400 1 (k_ms so p1 (k_fillJ ro 0 400) n).2) 1, wG κ q so le gr ne si ou bo n om ob]) := by
  refine Met.ofW (cc := cX5_workOut) (maxL := 6) (ret := none) (by decide) rfl ?_
  intro p e s m args below meth c s₁ B hml hv
  obtain ⟨rfl, hsz, hK, hP, hD0⟩ := hv
  have hx := B.exec
  have hb := B.bytes
  have hr := B.returns
  have hts := atoms_spec (ws := wsX5_workOut) B.pre
  have hown : s.vm.findClass RX5 = some m.cls := findClass_of_methodNamed B.named
  have hlocks := B.notSynchronized
  subst hsz
  have hD := hD0.self (sz := s.heap.size)
  generalize hAe : va_A (List.flatten [wR κ qr ro wo, wG κ q so le gr ne si ou bo n om ob]) s.heap.size = A at hD ⊢
  have hA : ∀ q : Nat, s.heap.size ≤ q → A q := fun q h => by rw [← hAe]; exact Or.inr h
  have hS : va_S A s.heap s.heap [] := va_S.rf
  have hP : va_P D vwCl (List.flatten [wR κ qr ro wo, wG κ q so le gr ne si ou bo n om ob]) s.heap := hP
  have hl := lv_entry ([.ref (qr 0), .ref (q 0), .long p1]) (n := 6) (Nat.le_of_ble_eq_true rfl)
  rw [lg_entry_eq]
  generalize (lg_sl ([.ref (qr 0), .ref (q 0), .long p1]) ++ List.replicate (6 - (lg_sl ([.ref (qr 0), .ref (q 0), .long p1])).length) Slot.unset).toArray = ls at hl ⊢
  have hl : lv_has ls 6 [(0, .ref (qr 0)), (1, .ref (q 0)), (2, .long p1)] := hl
  refine lv_aload_n hx hb dX5_workOut_0 rfl (lv_at hl 0 rfl) ?_
  refine va_get (D := D) (ci := 5) (v := .ref (qr 1)) (C := RX5) (T := TX5) (N := 2) hx hb hts (iwX5_workOut_5) hown hK.1 hP 0 rfl rfl 0 (by decide) (hts (.fieldLink RX5 9 "InverterGraphs$Rows" "rows" "[J") (by decide +kernel)) (fun _ h9 => h9) rfl dX5_workOut_1 ?_
  refine lv_lconst (v := 0) hx hb dX5_workOut_4 (by decide) ?_
  refine k_cMSv (D := D) (κ := κ) (wn := fun _ => List.flatten [wR κ qr (k_fillJ ro 0 400) wo, wG κ q so le gr ne si ou bo n om ob]) ⟨hx, hb, hml, hown, hts⟩ (c_J7_fill_d0a16 l D κ _ (qr 1) 400 ro 0 (by omega)) (va_cwS 2 hts gX5_workOut_J7_fill_d0a16 rfl rfl rfl (by decide +kernel) ⟨Nat.le_of_ble_eq_true rfl, Nat.le_of_ble_eq_true rfl⟩) hK hP hD hS hA [1] (by decide) rfl (fun _ => rfl) (fun _ => rfl) (As := [.ref (qr 1), .long 0]) (rest := []) rfl rfl hl.1 (Nat.le_of_ble_eq_true rfl) dX5_workOut_5 ⟨Nat.le_of_ble_eq_true rfl, Nat.le_of_ble_eq_true rfl⟩ (fun u H locs hw9 hP hD hS => ?_)
  refine lv_aload_n hx hb dX5_workOut_8 rfl (lv_at hl 0 rfl) ?_
  refine lv_aload_n hx hb dX5_workOut_9 rfl (lv_at hl 1 rfl) ?_
  refine lv_lload_n hx hb dX5_workOut_10 rfl (lv_at hl 2 rfl) ?_
  refine k_cSUv (D := D) (κ := κ) (qc := (RX5, TX5, 2)) (ci := 5) (q0 := 0) (Wc := [wR κ qr (k_fillJ ro 0 400) wo, wG κ q so le gr ne si ou bo n om ob]) (W' := fun _ => [wR κ qr ((k_ms so p1 (k_fillJ ro 0 400) n).2) wo, wG κ q so le gr ne si ou bo n om ob]) (Wn := fun _ => [wR κ qr ((k_ms so p1 (k_fillJ ro 0 400) n).2) wo, wG κ q so le gr ne si ou bo n om ob]) ⟨hx, hb, hml, hown, hts⟩ (c_X5_mixSources l D κ _ qr (k_fillJ ro 0 400) wo q so le gr ne si ou bo n om ob p1 (by omega) (by omega) (by omega)) (cwV 2 hts gX5_workOut_X5_mixSources rfl rfl rfl (by decide +kernel) ⟨Nat.le_of_ble_eq_true rfl, Nat.le_of_ble_eq_true rfl⟩) hK hP hD hS hA [0, 1] (by decide) rfl rfl (fun _ => rfl) rfl rfl (fun _ => rfl) (fun _ => rfl) (As := [.ref (q 0), .long p1]) (rest := []) rfl rfl hl.1 (Nat.le_of_ble_eq_true rfl) dX5_workOut_11 ⟨Nat.le_of_ble_eq_true rfl, Nat.le_of_ble_eq_true rfl⟩ (fun _ H locs hw9 hP hD hS => ?_)
  have hP : va_P D vwCl (List.flatten [wR κ qr ((k_ms so p1 (k_fillJ ro 0 400) n).2) wo, wG κ q so le gr ne si ou bo n om ob]) H := hP
  have hD : va_D A (List.flatten [wR κ qr ((k_ms so p1 (k_fillJ ro 0 400) n).2) wo, wG κ q so le gr ne si ou bo n om ob]) := hD
  refine lv_iconst (v := 1) hx hb dX5_workOut_14 (by decide) ?_
  refine lv_istore (lv' := [(4, .int 1), (0, .ref (qr 0)), (1, .ref (q 0)), (2, .long p1)]) hx hb dX5_workOut_15 hl (by decide) rfl (fun ls hl => ?_)
  refine lv_iconst (v := 0) hx hb dX5_workOut_17 (by decide) ?_
  refine lv_istore (lv' := [(5, .int 0), (4, .int 1), (0, .ref (qr 0)), (1, .ref (q 0)), (2, .long p1)]) hx hb dX5_workOut_18 hl (by decide) rfl (fun ls hl => ?_)
  have lp : ∀ (k : Nat) (z : Int32) (x : Nat → Int64) (i : Nat) (H : Heap) (locs : List Loc) (ls : Array Slot), (i + k = 400) → ((k_rw so le gr n 400 1 ((k_ms so p1 (k_fillJ ro 0 400) n).2)) = k_rw so le gr n k z x) → va_P D vwCl (List.flatten [wR κ qr x wo, wG κ q so le gr ne si ou bo n om ob]) H → va_D A (List.flatten [wR κ qr x wo, wG κ q so le gr ne si ou bo n om ob]) → va_S A s.heap H locs → lv_has ls 6 [(0, .ref (qr 0)), (1, .ref (q 0)), (2, .long p1), (4, .int z), (5, .int (nI i))] → W p l e (headSpec wsX5_workOut ({ frames := 3, cells := 0, slots := 0, locals := 69 })).room s m ([.ref (qr 0), .ref (q 0), .long p1] : List Value).toArray below meth c H locs 0 0 (MQ below (va_Qv (S := Unit) (fun _ => True) (fun u => k_B D A (List.flatten [wR κ qr (k_rw so le gr n 400 1 (k_ms so p1 (k_fillJ ro 0 400) n).2) 1, wG κ q so le gr ne si ou bo n om ob])) A) ([.ref (qr 0), .ref (q 0), .long p1] : List Value).toArray s 0 0 A) (F0 m 20 ls []) := by
    intro k
    induction k with
    | zero =>
      intro z x i H locs ls hi hr9 hP hD hS hl
      refine lv_iload hx hb dX5_workOut_20 (lv_at hl 4 rfl) ?_
      refine lv_sipush (v := 400) hx hb dX5_workOut_22 (by decide) ?_
      refine lv_icmp_ge (tgt := 46) hx hb dX5_workOut_25 (by decide) (fun c_25 => ?_) (fun c_25 => ?_)
      · skip
        have c_25 : 400 ≤ i := (nI_leI (a := 400) (b := i) (by omega) (by omega)).mp c_25
        rw [show (k_rw so le gr n 400 1 ((k_ms so p1 (k_fillJ ro 0 400) n).2)) = x from (by rw [hr9, k_rw])]
        refine lv_aload_n hx hb dX5_workOut_46 rfl (lv_at hl 0 rfl) ?_
        refine lv_iconst (v := 1) hx hb dX5_workOut_47 (by decide) ?_
        refine va_put (D := D) (ci := 5) (v := .int 1) (ty := .boolean) (C := RX5) (T := TX5) (N := 2) hx hb hts (iwX5_workOut_5) tyX5 tyX5_ok nmX5 hown hK.1 hP hD hS 0 rfl rfl 1 (by decide) (hts (.fieldLink RX5 15 "InverterGraphs$Rows" "workedOut" "Z") (by decide +kernel)) (fun _ h9 => h9) rfl (by decide +kernel) rfl rfl (Nat.le_of_ble_eq_true rfl) dX5_workOut_48 (fun H locs hP hD hS => ?_)
        have hP : va_P D vwCl (List.flatten [wR κ qr x 1, wG κ q so le gr ne si ou bo n om ob]) H := hP
        have hD : va_D A (List.flatten [wR κ qr x 1, wG κ q so le gr ne si ou bo n om ob]) := hD
        exact W.vret hx hb hr (fun t ht hW => ⟨⟨(), rfl, trivial, by rw [ht]; exact hP, hD⟩, hS.F ht⟩) hS.2.2 dX5_workOut_51
      · skip
        have c_25 : ¬ (400 ≤ i) := fun h9 => c_25 ((nI_leI (a := 400) (b := i) (by omega) (by omega)).mpr h9)
        exfalso; omega
    | succ k ih =>
      intro z x i H locs ls hi hr9 hP hD hS hl
      refine lv_iload hx hb dX5_workOut_20 (lv_at hl 4 rfl) ?_
      refine lv_sipush (v := 400) hx hb dX5_workOut_22 (by decide) ?_
      refine lv_icmp_ge (tgt := 46) hx hb dX5_workOut_25 (by decide) (fun c_25 => ?_) (fun c_25 => ?_)
      · skip
        have c_25 : 400 ≤ i := (nI_leI (a := 400) (b := i) (by omega) (by omega)).mp c_25
        exfalso; omega
      · skip
        have c_25 : ¬ (400 ≤ i) := fun h9 => c_25 ((nI_leI (a := 400) (b := i) (by omega) (by omega)).mpr h9)
        refine lv_iload hx hb dX5_workOut_28 (lv_at hl 3 rfl) ?_
        refine lv_if_eq (tgt := 46) hx hb dX5_workOut_30 (by decide) (fun c_30 => ?_) (fun c_30 => ?_)
        · skip
          rw [show (k_rw so le gr n 400 1 ((k_ms so p1 (k_fillJ ro 0 400) n).2)) = x from (by rw [hr9, k_rw, if_pos c_30])]
          refine lv_aload_n hx hb dX5_workOut_46 rfl (lv_at hl 0 rfl) ?_
          refine lv_iconst (v := 1) hx hb dX5_workOut_47 (by decide) ?_
          refine va_put (D := D) (ci := 5) (v := .int 1) (ty := .boolean) (C := RX5) (T := TX5) (N := 2) hx hb hts (iwX5_workOut_5) tyX5 tyX5_ok nmX5 hown hK.1 hP hD hS 0 rfl rfl 1 (by decide) (hts (.fieldLink RX5 15 "InverterGraphs$Rows" "workedOut" "Z") (by decide +kernel)) (fun _ h9 => h9) rfl (by decide +kernel) rfl rfl (Nat.le_of_ble_eq_true rfl) dX5_workOut_48 (fun H locs hP hD hS => ?_)
          have hP : va_P D vwCl (List.flatten [wR κ qr x 1, wG κ q so le gr ne si ou bo n om ob]) H := hP
          have hD : va_D A (List.flatten [wR κ qr x 1, wG κ q so le gr ne si ou bo n om ob]) := hD
          exact W.vret hx hb hr (fun t ht hW => ⟨⟨(), rfl, trivial, by rw [ht]; exact hP, hD⟩, hS.F ht⟩) hS.2.2 dX5_workOut_51
        · skip
          refine lv_aload_n hx hb dX5_workOut_33 rfl (lv_at hl 0 rfl) ?_
          refine lv_aload_n hx hb dX5_workOut_34 rfl (lv_at hl 1 rfl) ?_
          refine k_cSUi (D := D) (κ := κ) (qc := (RX5, TX5, 2)) (ci := 5) (q0 := 0) (Wc := [wR κ qr x wo, wG κ q so le gr ne si ou bo n om ob]) (W' := fun _ => [wR κ qr ((k_pa so le gr x n).2) wo, wG κ q so le gr ne si ou bo n om ob]) (Wn := fun _ => [wR κ qr ((k_pa so le gr x n).2) wo, wG κ q so le gr ne si ou bo n om ob]) ⟨hx, hb, hml, hown, hts⟩ (c_X5_passAnds l D κ _ qr x wo q so le gr ne si ou bo n om ob  (by omega) (by omega) (by omega)) (cwV 1 hts gX5_workOut_X5_passAnds rfl rfl rfl (by decide +kernel) ⟨Nat.le_of_ble_eq_true rfl, Nat.le_of_ble_eq_true rfl⟩) hK hP hD hS hA [0, 1] (by decide) rfl rfl (fun _ => rfl) rfl rfl (fun _ => rfl) (fun _ => rfl) (As := [.ref (q 0)]) (rest := []) rfl rfl hl.1 (Nat.le_of_ble_eq_true rfl) dX5_workOut_35 ⟨Nat.le_of_ble_eq_true rfl, Nat.le_of_ble_eq_true rfl⟩ (fun r _ H locs hr hP hD hS => ?_)
          have hP : va_P D vwCl (List.flatten [wR κ qr ((k_pa so le gr x n).2) wo, wG κ q so le gr ne si ou bo n om ob]) H := hP
          have hD : va_D A (List.flatten [wR κ qr ((k_pa so le gr x n).2) wo, wG κ q so le gr ne si ou bo n om ob]) := hD
          subst hr
          refine lv_istore (lv' := [(4, .int ((k_pa so le gr x n).1)), (0, .ref (qr 0)), (1, .ref (q 0)), (2, .long p1), (5, .int (nI i))]) hx hb dX5_workOut_38 hl (by decide) rfl (fun ls hl => ?_)
          refine lv_iinc (v := nI (i + 1)) (lv' := [(5, .int (nI (i + 1))), (4, .int ((k_pa so le gr x n).1)), (0, .ref (qr 0)), (1, .ref (q 0)), (2, .long p1)]) hx hb dX5_workOut_40 hl (k := 4) rfl (nI_1 _) (by decide) rfl (fun ls hl => ?_)
          refine lv_goto (tgt := 20) hx hb dX5_workOut_43 (by decide) ?_
          exact ih ((k_pa so le gr x n).1) ((k_pa so le gr x n).2) (i + 1) H locs ls (by omega) (by rw [hr9, k_rw, if_neg c_30]) hP hD hS (lv_sub hl [2, 3, 4, 1, 0] rfl)
  exact lp 400 1 ((k_ms so p1 (k_fillJ ro 0 400) n).2) 0 H locs ls (by omega) rfl hP hD hS (lv_sub hl [2, 3, 4, 1, 0] rfl)
