/-! HISTORY: the ring and the copies that were made -/
abbrev KH : Type := (Nat → Int32) × (Nat → Int32) × (Nat → Int32) × (Nat → Int32) × (Nat → Int32) × (Nat → Int32) × (Nat → Int32) × Nat × Nat × Nat
abbrev KH.so (x : KH) : Nat → Int32 := x.1
abbrev KH.le (x : KH) : Nat → Int32 := x.2.1
abbrev KH.gr (x : KH) : Nat → Int32 := x.2.2.1
abbrev KH.ne (x : KH) : Nat → Int32 := x.2.2.2.1
abbrev KH.si (x : KH) : Nat → Int32 := x.2.2.2.2.1
abbrev KH.ou (x : KH) : Nat → Int32 := x.2.2.2.2.2.1
abbrev KH.bo (x : KH) : Nat → Int32 := x.2.2.2.2.2.2.1
abbrev KH.n (x : KH) : Nat := x.2.2.2.2.2.2.2.1
abbrev KH.om (x : KH) : Nat := x.2.2.2.2.2.2.2.2.1
abbrev KH.ob (x : KH) : Nat := x.2.2.2.2.2.2.2.2.2
def wGk (κ : Nat → ClassId) (q : Nat → Nat) (x : KH) : va_W := wG κ q x.so x.le x.gr x.ne x.si x.ou x.bo x.n x.om x.ob
def k_wk (κ : Nat → ClassId) (cs : Nat → Nat → Nat) (gs : Nat → KH) (k : Nat) : va_W := wGk κ (cs k) (gs k)
def wK (κ : Nat → ClassId) (cs : Nat → Nat → Nat) (gs : Nat → KH) (made : Nat) : va_W := ((List.range made).map (k_wk κ cs gs)).flatten
def k_rg (cs : Nat → Nat → Nat) (made : Nat) : Nat → Option Nat := fun k => if k < made then some (cs k 0) else none
def k_bG (x : KH) : Prop := x.n ≤ 400 ∧ x.om ≤ 40 ∧ x.ob ≤ x.om
/-- one graph is the other, as far as its cells reach -/
def k_eqG (x g : KH) : Prop := (x.n = g.n ∧ x.om = g.om ∧ x.ob = g.ob) ∧ (∀ j, j < 400 → x.so j = g.so j ∧ x.le j = g.le j ∧ x.gr j = g.gr j ∧ x.ne j = g.ne j ∧ x.si j = g.si j) ∧ (∀ j, j < 40 → x.ou j = g.ou j ∧ x.bo j = g.bo j)
/-- a graph copied onto another one -/
def k_onto (g x : KH) : KH := ⟨k_cp 400 g.so x.so, k_cp 400 g.le x.le, k_cp 400 g.gr x.gr, k_cp 400 g.ne x.ne, k_cp 400 g.si x.si, k_cp 40 g.ou x.ou, k_cp 40 g.bo x.bo, g.n, g.om, g.ob⟩
theorem k_onto_eq (g x : KH) : k_eqG (k_onto g x) g := ⟨⟨rfl, rfl, rfl⟩, fun j hj => ⟨if_pos hj, if_pos hj, if_pos hj, if_pos hj, if_pos hj⟩, fun j hj => ⟨if_pos hj, if_pos hj⟩⟩
def k_g0 : KH := ⟨k_cpt 400 (fun _ => 0) (nI 0) 0, k_cpt 400 (fun _ => 0) (nI 0) (-1), k_cpt 400 (fun _ => 0) (nI 0) (-1), k_cpt 400 (fun _ => 0) (nI 0) (-1), k_cpt 400 (fun _ => 0) (nI 0) (-1), fun _ => 0, fun _ => 0, 1, 0, 0⟩
theorem k_wK_push (κ : Nat → ClassId) (cs : Nat → Nat → Nat) (gs : Nat → KH) (made : Nat) (u : Nat → Nat) (x : KH) : wK κ (va_up cs made u) (va_up gs made x) (made + 1) = wK κ cs gs made ++ wGk κ u x := by
  unfold wK
  rw [List.range_succ, List.map_append, List.flatten_append]
  congr 1
  · congr 1
    refine List.map_congr_left (fun k hk => ?_)
    have hk2 : k ≠ made := by have := List.mem_range.mp hk; omega
    simp only [k_wk, va_up_ne _ _ hk2]
  · simp [k_wk, va_up_self]
theorem k_rg_push (cs : Nat → Nat → Nat) (made : Nat) (u : Nat → Nat) : va_up (k_rg cs made) made (some (va_up cs made u made 0)) = k_rg (va_up cs made u) (made + 1) := by
  funext k
  by_cases h : k = made
  · subst h; rw [va_up_self]; simp [k_rg]
  · rw [va_up_ne _ _ h]
    simp only [k_rg, va_up_ne _ _ h]
    by_cases h2 : k < made
    · rw [if_pos h2, if_pos (by omega)]
    · rw [if_neg h2, if_neg (by omega)]
theorem k_wK_mem {κ : Nat → ClassId} {cs : Nat → Nat → Nat} {gs : Nat → KH} {made k : Nat} {q : Nat × va_E} (h : k < made) (hq : q ∈ k_wk κ cs gs k) : q ∈ wK κ cs gs made := List.mem_flatten.mpr ⟨_, List.mem_map.mpr ⟨k, List.mem_range.mpr h, rfl⟩, hq⟩
theorem k_set2 {α : Type} (a b : α) (f : Nat → α) (m k : Nat) (x : α) : (a :: b :: (List.range m).map f).set (2 + k) x = a :: b :: (List.range m).map (va_up f k x) := by
  refine List.ext_getElem? (fun i => ?_)
  rw [List.getElem?_set]
  match i with
  | 0 => rw [if_neg (by omega)]; rfl
  | 1 => rw [if_neg (by omega)]; rfl
  | i + 2 =>
    simp only [List.getElem?_cons_succ, List.getElem?_map, List.length_cons, List.length_map, List.length_range]
    by_cases h : i = k
    · subst h
      rw [if_pos (by omega)]
      by_cases h2 : i < m
      · rw [if_pos (by omega), List.getElem?_range h2]; simp [va_up_self]
      · rw [if_neg (by omega), List.getElem?_eq_none (by simp; omega)]; rfl
    · rw [if_neg (by omega)]
      by_cases h2 : i < m
      · rw [List.getElem?_range h2]; simp [va_up_ne _ _ h]
      · rw [List.getElem?_eq_none (by simp; omega)]; rfl
theorem k_wk_up (κ : Nat → ClassId) (cs : Nat → Nat → Nat) (gs : Nat → KH) (k : Nat) (x : KH) : va_up (k_wk κ cs gs) k (wGk κ (cs k) x) = k_wk κ cs (va_up gs k x) := by
  funext j
  by_cases h : j = k
  · subst h; rw [va_up_self]; simp [k_wk, va_up_self]
  · rw [va_up_ne _ _ h]; simp [k_wk, va_up_ne _ _ h]
theorem k_at2 {α : Type} (a b : α) (f : Nat → α) {m k : Nat} (h : k < m) : (a :: b :: (List.range m).map f)[2 + k]? = some (f k) := by
  rw [show 2 + k = k + 1 + 1 by omega, List.getElem?_cons_succ, List.getElem?_cons_succ, List.getElem?_map, List.getElem?_range h]; rfl
theorem k_flat2 (κ : Nat → ClassId) (a b : va_W) (cs : Nat → Nat → Nat) (gs : Nat → KH) (m : Nat) : List.flatten (a :: b :: (List.range m).map (k_wk κ cs gs)) = List.flatten [a, b, wK κ cs gs m] := by
  simp only [List.flatten_cons, List.flatten_nil, List.append_nil, wK]
theorem k_min30 {k : Nat} (h : k < 1000) : k_min (nI k) 30 = nI (min k 30) := by
  unfold k_min
  have e : (30 : Int32) = nI 30 := rfl
  rw [e]
  by_cases h2 : 30 < k
  · rw [if_pos ((nI_ltI (by omega) (by omega)).mpr h2), Nat.min_eq_right (by omega)]
  · rw [if_neg (fun h9 => h2 ((nI_ltI (by omega) (by omega)).mp h9)), Nat.min_eq_left (by omega)]
theorem iwX2_keep_1 : ∀ w ∈ wsX10, w ∈ wsX2_keep := by decide +kernel
theorem iwX2_keep_2 : ∀ w ∈ wsX20, w ∈ wsX2_keep := by decide +kernel
set_option maxHeartbeats 4000000 in
set_option maxRecDepth 100000 in
theorem c_X2_keep (l : Launch) (D : va_G) (κ : Nat → ClassId) (sz : Nat) (qh : Nat → Nat) (cs : Nat → Nat → Nat) (gs : Nat → KH) (made pl kp : Nat) (q : Nat → Nat) (g : KH) (hg : k_bG g) (hgs : ∀ k, k < made → k_bG (gs k)) (hpl : pl < 30) (hpm : pl ≤ made) (hma : made ≤ 30) (hkp : kp ≤ 30) : k_muv (S := ((Nat → Nat → Nat) × (Nat → KH) × Nat)) l yX2_keep wsX2_keep 3 82 15 2817 D κ [.ref (qh 0), .ref (q 0)] (List.flatten [wH κ qh (k_rg cs made) pl kp, wG κ q g.so g.le g.gr g.ne g.si g.ou g.bo g.n g.om g.ob, wK κ cs gs made]) sz (fun u => (∀ k, k ≠ pl → u.2.1 k = gs k) ∧ k_eqG (u.2.1 pl) g ∧ pl < u.2.2 ∧ u.2.2 ≤ 30 ∧ (u.2.2 = made ∨ (u.2.2 = made + 1 ∧ pl = made))) (fun u => List.flatten [wH κ qh (k_rg u.1 u.2.2) (if pl + 1 < 30 then pl + 1 else 0) (min (kp + 1) 30), wG κ q g.so g.le g.gr g.ne g.si g.ou g.bo g.n g.om g.ob, wK κ u.1 u.2.1 u.2.2]) := by
  refine Met.ofW (cc := cX2_keep) (maxL := 3) (ret := none) (by decide) rfl ?_
  intro p e s m args below meth c s₁ B hml hv
  obtain ⟨rfl, hsz, hK, hP, hD0⟩ := hv
  have hx := B.exec
  have hb := B.bytes
  have hr := B.returns
  have hts := atoms_spec (ws := wsX2_keep) B.pre
  have hown : s.vm.findClass RX2 = some m.cls := findClass_of_methodNamed B.named
  have hlocks := B.notSynchronized
  subst hsz
  have hD := hD0.self (sz := s.heap.size)
  generalize hAe : va_A (List.flatten [wH κ qh (k_rg cs made) pl kp, wG κ q g.so g.le g.gr g.ne g.si g.ou g.bo g.n g.om g.ob, wK κ cs gs made]) s.heap.size = A at hD ⊢
  have hA : ∀ q : Nat, s.heap.size ≤ q → A q := fun q h => by rw [← hAe]; exact Or.inr h
  have hS : va_S A s.heap s.heap [] := va_S.rf
  have hP : va_P D vwCl (List.flatten [wH κ qh (k_rg cs made) pl kp, wG κ q g.so g.le g.gr g.ne g.si g.ou g.bo g.n g.om g.ob, wK κ cs gs made]) s.heap := hP
  have hl := lv_entry ([.ref (qh 0), .ref (q 0)]) (n := 3) (Nat.le_of_ble_eq_true rfl)
  rw [lg_entry_eq]
  generalize (lg_sl ([.ref (qh 0), .ref (q 0)]) ++ List.replicate (3 - (lg_sl ([.ref (qh 0), .ref (q 0)])).length) Slot.unset).toArray = ls at hl ⊢
  have hl : lv_has ls 3 [(0, .ref (qh 0)), (1, .ref (q 0))] := hl
  refine lv_aload_n hx hb dX2_keep_0 rfl (lv_at hl 0 rfl) ?_
  refine va_get (D := D) (ci := 2) (v := .int (nI pl)) (C := RX2) (T := TX2) (N := 3) hx hb hts (iwX2_keep_2) hown hK.1 hP 0 rfl rfl 1 (by decide) (hts (.fieldLink RX2 21 "InverterGraphs$History" "place" "I") (by decide +kernel)) (fun _ h9 => h9) rfl dX2_keep_1 ?_
  refine lv_if_lt (tgt := 19) hx hb dX2_keep_4 (by decide) (fun c_4 => ?_) (fun c_4 => ?_)
  · skip
    have c_4 : pl < 0 := (nI_ltI (a := pl) (b := 0) (by omega) (by omega)).mp c_4
    exfalso; omega
  · skip
    have c_4 : ¬ (pl < 0) := fun h9 => c_4 ((nI_ltI (a := pl) (b := 0) (by omega) (by omega)).mpr h9)
    refine lv_aload_n hx hb dX2_keep_7 rfl (lv_at hl 0 rfl) ?_
    refine va_get (D := D) (ci := 2) (v := .int (nI pl)) (C := RX2) (T := TX2) (N := 3) hx hb hts (iwX2_keep_2) hown hK.1 hP 0 rfl rfl 1 (by decide) (hts (.fieldLink RX2 21 "InverterGraphs$History" "place" "I") (by decide +kernel)) (fun _ h9 => h9) rfl dX2_keep_8 ?_
    refine lv_aload_n hx hb dX2_keep_11 rfl (lv_at hl 0 rfl) ?_
    refine va_get (D := D) (ci := 2) (v := .ref (qh 1)) (C := RX2) (T := TX2) (N := 3) hx hb hts (iwX2_keep_2) hown hK.1 hP 0 rfl rfl 0 (by decide) (hts (.fieldLink RX2 11 "InverterGraphs$History" "ring" "[LInverterGraphs$Graph;") (by decide +kernel)) (fun _ h9 => h9) rfl dX2_keep_12 ?_
    refine va_alen (D := D) hx hb hK.1 hP 1 3 rfl rfl (v := 30) rfl dX2_keep_15 ?_
    refine lv_icmp_lt (tgt := 20) hx hb dX2_keep_16 (by decide) (fun c_16 => ?_) (fun c_16 => ?_)
    · skip
      have c_16 : pl < 30 := (nI_ltI (a := pl) (b := 30) (by omega) (by omega)).mp c_16
      refine lv_aload_n hx hb dX2_keep_20 rfl (lv_at hl 0 rfl) ?_
      refine va_get (D := D) (ci := 2) (v := .ref (qh 1)) (C := RX2) (T := TX2) (N := 3) hx hb hts (iwX2_keep_2) hown hK.1 hP 0 rfl rfl 0 (by decide) (hts (.fieldLink RX2 11 "InverterGraphs$History" "ring" "[LInverterGraphs$Graph;") (by decide +kernel)) (fun _ h9 => h9) rfl dX2_keep_21 ?_
      refine lv_aload_n hx hb dX2_keep_24 rfl (lv_at hl 0 rfl) ?_
      refine va_get (D := D) (ci := 2) (v := .int (nI pl)) (C := RX2) (T := TX2) (N := 3) hx hb hts (iwX2_keep_2) hown hK.1 hP 0 rfl rfl 1 (by decide) (hts (.fieldLink RX2 21 "InverterGraphs$History" "place" "I") (by decide +kernel)) (fun _ h9 => h9) rfl dX2_keep_25 ?_
      have J : ∀ (cs1 : Nat → Nat → Nat) (gs1 : Nat → KH) (m1 : Nat) (H : Heap) (locs : List Loc) (ls : Array Slot), (pl < m1) → (m1 ≤ 30) → (∀ k, k < m1 → k_bG (gs1 k)) → (∀ k, k ≠ pl → gs1 k = gs k) → (m1 = made ∨ (m1 = made + 1 ∧ pl = made)) → va_P D vwCl (List.flatten [wH κ qh (k_rg cs1 m1) pl kp, wG κ q g.so g.le g.gr g.ne g.si g.ou g.bo g.n g.om g.ob, wK κ cs1 gs1 m1]) H → va_D A (List.flatten [wH κ qh (k_rg cs1 m1) pl kp, wG κ q g.so g.le g.gr g.ne g.si g.ou g.bo g.n g.om g.ob, wK κ cs1 gs1 m1]) → va_S A s.heap H locs → lv_has ls 3 [(2, .ref (cs1 pl 0)), (0, .ref (qh 0)), (1, .ref (q 0))] → W p l e (headSpec wsX2_keep ({ frames := 3, cells := 15, slots := 2817, locals := 82 })).room s m ([.ref (qh 0), .ref (q 0)] : List Value).toArray below meth c H locs 15 2817 (MQ below (va_Qv (S := ((Nat → Nat → Nat) × (Nat → KH) × Nat)) (fun u => (∀ k, k ≠ pl → u.2.1 k = gs k) ∧ k_eqG (u.2.1 pl) g ∧ pl < u.2.2 ∧ u.2.2 ≤ 30 ∧ (u.2.2 = made ∨ (u.2.2 = made + 1 ∧ pl = made))) (fun u => k_B D A (List.flatten [wH κ qh (k_rg u.1 u.2.2) (if pl + 1 < 30 then pl + 1 else 0) (min (kp + 1) 30), wG κ q g.so g.le g.gr g.ne g.si g.ou g.bo g.n g.om g.ob, wK κ u.1 u.2.1 u.2.2])) A) ([.ref (qh 0), .ref (q 0)] : List Value).toArray s 15 2817 A) (F0 m 52 ls []) := by
        intro cs1 gs1 m1 H locs ls h1 h2 h3 h4 h5 hP hD hS hl
        refine lv_aload_n hx hb dX2_keep_52 rfl (lv_at hl 0 rfl) ?_
        refine lv_aload_n hx hb dX2_keep_53 rfl (lv_at hl 2 rfl) ?_
        have hb1 := h3 pl h1
        rw [← k_flat2] at hP hD
        refine k_cSUv (D := D) (κ := κ) (qc := (RX1, TX1, 10)) (ci := 1) (q0 := 0) (Wl := (wH κ qh (k_rg cs1 m1) pl kp :: wG κ q g.so g.le g.gr g.ne g.si g.ou g.bo g.n g.om g.ob :: (List.range m1).map (k_wk κ cs1 gs1))) (Wc := [wGk κ (cs1 pl) (gs1 pl), wG κ q g.so g.le g.gr g.ne g.si g.ou g.bo g.n g.om g.ob]) (wc := List.flatten [wGk κ (cs1 pl) (gs1 pl), wG κ q g.so g.le g.gr g.ne g.si g.ou g.bo g.n g.om g.ob]) (W' := fun _ => [wGk κ (cs1 pl) (k_onto g (gs1 pl)), wG κ q g.so g.le g.gr g.ne g.si g.ou g.bo g.n g.om g.ob]) (Wn := fun _ => (wH κ qh (k_rg cs1 m1) pl kp :: wG κ q g.so g.le g.gr g.ne g.si g.ou g.bo g.n g.om g.ob :: (List.range m1).map (k_wk κ cs1 (va_up gs1 pl (k_onto g (gs1 pl)))))) ⟨hx, hb, hml, hown, hts⟩ (c_X1_copyFrom l D κ _ (cs1 pl) (gs1 pl).so (gs1 pl).le (gs1 pl).gr (gs1 pl).ne (gs1 pl).si (gs1 pl).ou (gs1 pl).bo (gs1 pl).n (gs1 pl).om (gs1 pl).ob q g.so g.le g.gr g.ne g.si g.ou g.bo g.n g.om g.ob hb1.1 hb1.2.1 hb1.2.2 hg.1 hg.2.1 hg.2.2) (cwV 1 hts gX2_keep_X1_copyFrom rfl rfl rfl (by decide +kernel) ⟨Nat.le_of_ble_eq_true rfl, Nat.le_of_ble_eq_true rfl⟩) hK hP hD hS hA [2 + pl, 1] (by simp only [va_nd]; simp; try omega) (by simp only [List.map_cons, List.map_nil]; rw [k_at2 _ _ _ (by omega)]; rfl) rfl (fun _ => rfl) rfl rfl (fun _ => rfl) (fun _ => by simp only [k_ps]; rw [k_set2, k_wk_up]; rfl) (As := [.ref (q 0)]) (rest := []) rfl rfl hl.1 (Nat.le_of_ble_eq_true rfl) dX2_keep_54 ⟨Nat.le_of_ble_eq_true rfl, Nat.le_of_ble_eq_true rfl⟩ (fun _ H locs _ hP hD hS => ?_)
        rw [k_flat2] at hP hD
        have hP : va_P D vwCl (List.flatten [wH κ qh (k_rg cs1 m1) pl kp, wG κ q g.so g.le g.gr g.ne g.si g.ou g.bo g.n g.om g.ob, wK κ cs1 (va_up gs1 pl (k_onto g (gs1 pl))) m1]) H := hP
        have hD : va_D A (List.flatten [wH κ qh (k_rg cs1 m1) pl kp, wG κ q g.so g.le g.gr g.ne g.si g.ou g.bo g.n g.om g.ob, wK κ cs1 (va_up gs1 pl (k_onto g (gs1 pl))) m1]) := hD
        refine lv_aload_n hx hb dX2_keep_57 rfl (lv_at hl 1 rfl) ?_
        refine lv_aload_n hx hb dX2_keep_58 rfl (lv_at hl 1 rfl) ?_
        refine va_get (D := D) (ci := 2) (v := .int (nI pl)) (C := RX2) (T := TX2) (N := 3) hx hb hts (iwX2_keep_2) hown hK.1 hP 0 rfl rfl 1 (by decide) (hts (.fieldLink RX2 21 "InverterGraphs$History" "place" "I") (by decide +kernel)) (fun _ h9 => h9) rfl dX2_keep_59 ?_
        refine lv_iconst (v := 1) hx hb dX2_keep_62 (by decide) ?_
        refine lv_iadd hx hb dX2_keep_63 ?_
        refine lv_topi (nm_r (nI_add pl 1) ?_)
        refine lv_aload_n hx hb dX2_keep_64 rfl (lv_at hl 1 rfl) ?_
        refine va_get (D := D) (ci := 2) (v := .ref (qh 1)) (C := RX2) (T := TX2) (N := 3) hx hb hts (iwX2_keep_2) hown hK.1 hP 0 rfl rfl 0 (by decide) (hts (.fieldLink RX2 11 "InverterGraphs$History" "ring" "[LInverterGraphs$Graph;") (by decide +kernel)) (fun _ h9 => h9) rfl dX2_keep_65 ?_
        refine va_alen (D := D) hx hb hK.1 hP 1 3 rfl rfl (v := 30) rfl dX2_keep_68 ?_
        refine lv_icmp_ge (tgt := 81) hx hb dX2_keep_69 (by decide) (fun c_69 => ?_) (fun c_69 => ?_)
        · skip
          have c_69 : 30 ≤ (pl + 1) := (nI_leI (a := 30) (b := (pl + 1)) (by omega) (by omega)).mp c_69
          refine lv_iconst (v := 0) hx hb dX2_keep_81 (by decide) ?_
          refine va_put (D := D) (ci := 2) (v := .int 0) (ty := .int) (C := RX2) (T := TX2) (N := 3) hx hb hts (iwX2_keep_2) tyX2 tyX2_ok nmX2 hown hK.1 hP hD hS 0 rfl rfl 1 (by decide) (hts (.fieldLink RX2 21 "InverterGraphs$History" "place" "I") (by decide +kernel)) (fun _ h9 => h9) rfl (by decide +kernel) rfl rfl (Nat.le_of_ble_eq_true rfl) dX2_keep_82 (fun H locs hP hD hS => ?_)
          have hP : va_P D vwCl (List.flatten [wH κ qh (k_rg cs1 m1) 0 kp, wG κ q g.so g.le g.gr g.ne g.si g.ou g.bo g.n g.om g.ob, wK κ cs1 (va_up gs1 pl (k_onto g (gs1 pl))) m1]) H := hP
          have hD : va_D A (List.flatten [wH κ qh (k_rg cs1 m1) 0 kp, wG κ q g.so g.le g.gr g.ne g.si g.ou g.bo g.n g.om g.ob, wK κ cs1 (va_up gs1 pl (k_onto g (gs1 pl))) m1]) := hD
          refine lv_aload_n hx hb dX2_keep_85 rfl (lv_at hl 1 rfl) ?_
          refine lv_aload_n hx hb dX2_keep_86 rfl (lv_at hl 1 rfl) ?_
          refine va_get (D := D) (ci := 2) (v := .int (nI kp)) (C := RX2) (T := TX2) (N := 3) hx hb hts (iwX2_keep_2) hown hK.1 hP 0 rfl rfl 2 (by decide) (hts (.fieldLink RX2 17 "InverterGraphs$History" "kept" "I") (by decide +kernel)) (fun _ h9 => h9) rfl dX2_keep_87 ?_
          refine lv_iconst (v := 1) hx hb dX2_keep_90 (by decide) ?_
          refine lv_iadd hx hb dX2_keep_91 ?_
          refine lv_topi (nm_r (nI_add kp 1) ?_)
          refine lv_aload_n hx hb dX2_keep_92 rfl (lv_at hl 1 rfl) ?_
          refine va_get (D := D) (ci := 2) (v := .ref (qh 1)) (C := RX2) (T := TX2) (N := 3) hx hb hts (iwX2_keep_2) hown hK.1 hP 0 rfl rfl 0 (by decide) (hts (.fieldLink RX2 11 "InverterGraphs$History" "ring" "[LInverterGraphs$Graph;") (by decide +kernel)) (fun _ h9 => h9) rfl dX2_keep_93 ?_
          refine va_alen (D := D) hx hb hK.1 hP 1 3 rfl rfl (v := 30) rfl dX2_keep_96 ?_
          refine va_mmin hx hb (by rw [hml]; exact hl.1.symm) hown (hts (.methodLink RX2 29 Lib.Math.min.name) (by decide +kernel)) (hts (.static Lib.Math.min.name) (by decide +kernel)) (hts (.initialized "java/lang/Math") (by decide +kernel)) (hts (.code Lib.Math.min.name Lib.Math.min.code 2 (some .int)) (by decide +kernel)) (Nat.le_of_ble_eq_true rfl) (Nat.le_of_ble_eq_true rfl) (Nat.le_of_ble_eq_true rfl) (Nat.le_of_ble_eq_true rfl) dX2_keep_97 ?_
          refine lv_topi (nm_r (k_min30 (show kp + 1 < 1000 by omega)) ?_)
          refine va_put (D := D) (ci := 2) (v := .int (nI (min (kp + 1) 30))) (ty := .int) (C := RX2) (T := TX2) (N := 3) hx hb hts (iwX2_keep_2) tyX2 tyX2_ok nmX2 hown hK.1 hP hD hS 0 rfl rfl 2 (by decide) (hts (.fieldLink RX2 17 "InverterGraphs$History" "kept" "I") (by decide +kernel)) (fun _ h9 => h9) rfl (by decide +kernel) rfl rfl (Nat.le_of_ble_eq_true rfl) dX2_keep_100 (fun H locs hP hD hS => ?_)
          have hP : va_P D vwCl (List.flatten [wH κ qh (k_rg cs1 m1) 0 (min (kp + 1) 30), wG κ q g.so g.le g.gr g.ne g.si g.ou g.bo g.n g.om g.ob, wK κ cs1 (va_up gs1 pl (k_onto g (gs1 pl))) m1]) H := hP
          have hD : va_D A (List.flatten [wH κ qh (k_rg cs1 m1) 0 (min (kp + 1) 30), wG κ q g.so g.le g.gr g.ne g.si g.ou g.bo g.n g.om g.ob, wK κ cs1 (va_up gs1 pl (k_onto g (gs1 pl))) m1]) := hD
          have hP : va_P D vwCl (List.flatten [wH κ qh (k_rg cs1 m1) (if pl + 1 < 30 then pl + 1 else 0) (min (kp + 1) 30), wG κ q g.so g.le g.gr g.ne g.si g.ou g.bo g.n g.om g.ob, wK κ cs1 (va_up gs1 pl (k_onto g (gs1 pl))) m1]) H := by rw [if_neg (by omega)]; exact hP
          have hD : va_D A (List.flatten [wH κ qh (k_rg cs1 m1) (if pl + 1 < 30 then pl + 1 else 0) (min (kp + 1) 30), wG κ q g.so g.le g.gr g.ne g.si g.ou g.bo g.n g.om g.ob, wK κ cs1 (va_up gs1 pl (k_onto g (gs1 pl))) m1]) := by rw [if_neg (by omega)]; exact hD
          exact W.vret hx hb hr (fun t ht hW => ⟨⟨(cs1, va_up gs1 pl (k_onto g (gs1 pl)), m1), rfl, ⟨fun k hk => (va_up_ne _ _ hk).trans (h4 k hk), by show k_eqG (va_up gs1 pl _ pl) g; rw [va_up_self]; exact k_onto_eq g _, h1, h2, h5⟩, by rw [ht]; exact hP, hD⟩, hS.F ht⟩) hS.2.2 dX2_keep_103
        · skip
          have c_69 : ¬ (30 ≤ (pl + 1)) := fun h9 => c_69 ((nI_leI (a := 30) (b := (pl + 1)) (by omega) (by omega)).mpr h9)
          refine lv_aload_n hx hb dX2_keep_72 rfl (lv_at hl 1 rfl) ?_
          refine va_get (D := D) (ci := 2) (v := .int (nI pl)) (C := RX2) (T := TX2) (N := 3) hx hb hts (iwX2_keep_2) hown hK.1 hP 0 rfl rfl 1 (by decide) (hts (.fieldLink RX2 21 "InverterGraphs$History" "place" "I") (by decide +kernel)) (fun _ h9 => h9) rfl dX2_keep_73 ?_
          refine lv_iconst (v := 1) hx hb dX2_keep_76 (by decide) ?_
          refine lv_iadd hx hb dX2_keep_77 ?_
          refine lv_topi (nm_r (nI_add pl 1) ?_)
          refine lv_goto (tgt := 82) hx hb dX2_keep_78 (by decide) ?_
          refine va_put (D := D) (ci := 2) (v := .int (nI (pl + 1))) (ty := .int) (C := RX2) (T := TX2) (N := 3) hx hb hts (iwX2_keep_2) tyX2 tyX2_ok nmX2 hown hK.1 hP hD hS 0 rfl rfl 1 (by decide) (hts (.fieldLink RX2 21 "InverterGraphs$History" "place" "I") (by decide +kernel)) (fun _ h9 => h9) rfl (by decide +kernel) rfl rfl (Nat.le_of_ble_eq_true rfl) dX2_keep_82 (fun H locs hP hD hS => ?_)
          have hP : va_P D vwCl (List.flatten [wH κ qh (k_rg cs1 m1) (pl + 1) kp, wG κ q g.so g.le g.gr g.ne g.si g.ou g.bo g.n g.om g.ob, wK κ cs1 (va_up gs1 pl (k_onto g (gs1 pl))) m1]) H := hP
          have hD : va_D A (List.flatten [wH κ qh (k_rg cs1 m1) (pl + 1) kp, wG κ q g.so g.le g.gr g.ne g.si g.ou g.bo g.n g.om g.ob, wK κ cs1 (va_up gs1 pl (k_onto g (gs1 pl))) m1]) := hD
          refine lv_aload_n hx hb dX2_keep_85 rfl (lv_at hl 1 rfl) ?_
          refine lv_aload_n hx hb dX2_keep_86 rfl (lv_at hl 1 rfl) ?_
          refine va_get (D := D) (ci := 2) (v := .int (nI kp)) (C := RX2) (T := TX2) (N := 3) hx hb hts (iwX2_keep_2) hown hK.1 hP 0 rfl rfl 2 (by decide) (hts (.fieldLink RX2 17 "InverterGraphs$History" "kept" "I") (by decide +kernel)) (fun _ h9 => h9) rfl dX2_keep_87 ?_
          refine lv_iconst (v := 1) hx hb dX2_keep_90 (by decide) ?_
          refine lv_iadd hx hb dX2_keep_91 ?_
          refine lv_topi (nm_r (nI_add kp 1) ?_)
          refine lv_aload_n hx hb dX2_keep_92 rfl (lv_at hl 1 rfl) ?_
          refine va_get (D := D) (ci := 2) (v := .ref (qh 1)) (C := RX2) (T := TX2) (N := 3) hx hb hts (iwX2_keep_2) hown hK.1 hP 0 rfl rfl 0 (by decide) (hts (.fieldLink RX2 11 "InverterGraphs$History" "ring" "[LInverterGraphs$Graph;") (by decide +kernel)) (fun _ h9 => h9) rfl dX2_keep_93 ?_
          refine va_alen (D := D) hx hb hK.1 hP 1 3 rfl rfl (v := 30) rfl dX2_keep_96 ?_
          refine va_mmin hx hb (by rw [hml]; exact hl.1.symm) hown (hts (.methodLink RX2 29 Lib.Math.min.name) (by decide +kernel)) (hts (.static Lib.Math.min.name) (by decide +kernel)) (hts (.initialized "java/lang/Math") (by decide +kernel)) (hts (.code Lib.Math.min.name Lib.Math.min.code 2 (some .int)) (by decide +kernel)) (Nat.le_of_ble_eq_true rfl) (Nat.le_of_ble_eq_true rfl) (Nat.le_of_ble_eq_true rfl) (Nat.le_of_ble_eq_true rfl) dX2_keep_97 ?_
          refine lv_topi (nm_r (k_min30 (show kp + 1 < 1000 by omega)) ?_)
          refine va_put (D := D) (ci := 2) (v := .int (nI (min (kp + 1) 30))) (ty := .int) (C := RX2) (T := TX2) (N := 3) hx hb hts (iwX2_keep_2) tyX2 tyX2_ok nmX2 hown hK.1 hP hD hS 0 rfl rfl 2 (by decide) (hts (.fieldLink RX2 17 "InverterGraphs$History" "kept" "I") (by decide +kernel)) (fun _ h9 => h9) rfl (by decide +kernel) rfl rfl (Nat.le_of_ble_eq_true rfl) dX2_keep_100 (fun H locs hP hD hS => ?_)
          have hP : va_P D vwCl (List.flatten [wH κ qh (k_rg cs1 m1) (pl + 1) (min (kp + 1) 30), wG κ q g.so g.le g.gr g.ne g.si g.ou g.bo g.n g.om g.ob, wK κ cs1 (va_up gs1 pl (k_onto g (gs1 pl))) m1]) H := hP
          have hD : va_D A (List.flatten [wH κ qh (k_rg cs1 m1) (pl + 1) (min (kp + 1) 30), wG κ q g.so g.le g.gr g.ne g.si g.ou g.bo g.n g.om g.ob, wK κ cs1 (va_up gs1 pl (k_onto g (gs1 pl))) m1]) := hD
          have hP : va_P D vwCl (List.flatten [wH κ qh (k_rg cs1 m1) (if pl + 1 < 30 then pl + 1 else 0) (min (kp + 1) 30), wG κ q g.so g.le g.gr g.ne g.si g.ou g.bo g.n g.om g.ob, wK κ cs1 (va_up gs1 pl (k_onto g (gs1 pl))) m1]) H := by rw [if_pos (by omega)]; exact hP
          have hD : va_D A (List.flatten [wH κ qh (k_rg cs1 m1) (if pl + 1 < 30 then pl + 1 else 0) (min (kp + 1) 30), wG κ q g.so g.le g.gr g.ne g.si g.ou g.bo g.n g.om g.ob, wK κ cs1 (va_up gs1 pl (k_onto g (gs1 pl))) m1]) := by rw [if_pos (by omega)]; exact hD
          exact W.vret hx hb hr (fun t ht hW => ⟨⟨(cs1, va_up gs1 pl (k_onto g (gs1 pl)), m1), rfl, ⟨fun k hk => (va_up_ne _ _ hk).trans (h4 k hk), by show k_eqG (va_up gs1 pl _ pl) g; rw [va_up_self]; exact k_onto_eq g _, h1, h2, h5⟩, by rw [ht]; exact hP, hD⟩, hS.F ht⟩) hS.2.2 dX2_keep_103
      refine va_aldq (D := D) hx hb hK.1 hP 1 3 rfl rfl (vp_in_nI (show pl < 30 by omega) (by omega)) dX2_keep_28 ?_
      rw [nI_clamp (show pl < 2 ^ 31 by omega)]
      by_cases hm9 : pl < made
      · skip
        rw [show va_rf (k_rg cs made pl) = .ref (cs pl 0) from by simp [k_rg, hm9, va_rf]]
        refine lv_astore_n (lv' := [(2, .ref (cs pl 0)), (0, .ref (qh 0)), (1, .ref (q 0))]) hx hb dX2_keep_29 rfl hl (by decide) rfl (fun ls hl => ?_)
        refine lv_aload_n hx hb dX2_keep_30 rfl (lv_at hl 0 rfl) ?_
        refine lv_ifnonnull (tgt := 52) hx hb dX2_keep_31 (by decide) ?_
        refine W.widen (k := 15) (n := 2817) (by omega) (by omega) ?_
        exact J cs gs made _ _ ls hm9 hma hgs (fun _ _ => rfl) (Or.inl rfl) hP hD hS (lv_sub hl [0, 1, 2] rfl)
      · skip
        rw [show va_rf (k_rg cs made pl) = .null from by simp [k_rg, hm9, va_rf]]
        refine lv_astore_nN (lv' := [(2, .null), (0, .ref (qh 0)), (1, .ref (q 0))]) hx hb dX2_keep_29 rfl hl (by decide) rfl (fun ls hl => ?_)
        refine lv_aload_nN hx hb dX2_keep_30 rfl (lv_at hl 0 rfl) ?_
        refine lv_ifnonnullN hx hb dX2_keep_31 ?_
        refine k_new (D := D) (κ := κ) (C := RX1) (T := TX1) (N := 10) (ci := 1) (fs := [.null, .null, .null, .null, .null, .null, .null, .int 0, .int 0, .int 0]) hx hb hts (iwX2_keep_1) tyX1 tyX1_ok hown (hts (.classLink RX2 9 RX1) (by decide +kernel)) (hts (.instantiable RX1 10) (by decide +kernel)) (hts (.initialized RX1) (by decide +kernel)) hK hP hD hS hA rfl (fun j hj => by rcases (show j = 0 ∨ j = 1 ∨ j = 2 ∨ j = 3 ∨ j = 4 ∨ j = 5 ∨ j = 6 ∨ j = 7 ∨ j = 8 ∨ j = 9 by omega) with rfl | rfl | rfl | rfl | rfl | rfl | rfl | rfl | rfl | rfl <;> rfl) (Nat.le_of_ble_eq_true rfl) (Nat.le_of_ble_eq_true rfl) dX2_keep_34 (fun q_34 H hP hD hS => ?_)
        have hP : va_P D vwCl (List.flatten [wH κ qh (k_rg cs made) pl kp, wG κ q g.so g.le g.gr g.ne g.si g.ou g.bo g.n g.om g.ob, wK κ cs gs made, wB q_34 1 [.null, .null, .null, .null, .null, .null, .null, .int 0, .int 0, .int 0]]) H := hP
        have hD : va_D A (List.flatten [wH κ qh (k_rg cs made) pl kp, wG κ q g.so g.le g.gr g.ne g.si g.ou g.bo g.n g.om g.ob, wK κ cs gs made, wB q_34 1 [.null, .null, .null, .null, .null, .null, .null, .int 0, .int 0, .int 0]]) := hD
        refine lv_dup hx hb dX2_keep_37 rfl ?_
        refine k_cIv (D := D) (κ := κ) (W0 := [wH κ qh (k_rg cs made) pl kp, wG κ q g.so g.le g.gr g.ne g.si g.ou g.bo g.n g.om g.ob, wK κ cs gs made, wB q_34 1 [.null, .null, .null, .null, .null, .null, .null, .int 0, .int 0, .int 0]]) (Wl := [wH κ qh (k_rg cs made) pl kp, wG κ q g.so g.le g.gr g.ne g.si g.ou g.bo g.n g.om g.ob, wK κ cs gs made]) (wc := wB q_34 1 [.null, .null, .null, .null, .null, .null, .null, .int 0, .int 0, .int 0]) (w' := fun u_38 => wG κ u_38 (k_cpt 400 (fun _ => 0) (nI 0) 0) (k_cpt 400 (fun _ => 0) (nI 0) (-1)) (k_cpt 400 (fun _ => 0) (nI 0) (-1)) (k_cpt 400 (fun _ => 0) (nI 0) (-1)) (k_cpt 400 (fun _ => 0) (nI 0) (-1)) (fun _ => 0) (fun _ => 0) 1 0 0) (Wn := fun u_38 => [wH κ qh (k_rg cs made) pl kp, wG κ q g.so g.le g.gr g.ne g.si g.ou g.bo g.n g.om g.ob, wK κ cs gs made, wG κ u_38 (k_cpt 400 (fun _ => 0) (nI 0) 0) (k_cpt 400 (fun _ => 0) (nI 0) (-1)) (k_cpt 400 (fun _ => 0) (nI 0) (-1)) (k_cpt 400 (fun _ => 0) (nI 0) (-1)) (k_cpt 400 (fun _ => 0) (nI 0) (-1)) (fun _ => 0) (fun _ => 0) 1 0 0]) ⟨hx, hb, hml, hown, hts⟩ (c_X1_init l D κ _ q_34) (cwI 0 hts gX2_keep_X1_init rfl rfl rfl (hts (.initialized RX1) (by decide +kernel)) (hts (.methodLink RX2 24 yX1_init) (by decide +kernel)) (hts (.instanceMethod yX1_init) (by decide +kernel)) rfl (by decide +kernel) ⟨Nat.le_of_ble_eq_true rfl, Nat.le_of_ble_eq_true rfl⟩) hK hP hD hS hA rfl (fun _ => rfl) (As := []) (rest := [.ref q_34]) rfl rfl hl.1 (Nat.le_of_ble_eq_true rfl) dX2_keep_38 ⟨Nat.le_of_ble_eq_true rfl, Nat.le_of_ble_eq_true rfl⟩ (fun u_38 H locs hw_38 hP_38 hD_38 hS => ?_)
        subst hw_38
        have hP : va_P D vwCl (List.flatten [wH κ qh (k_rg cs made) pl kp, wG κ q g.so g.le g.gr g.ne g.si g.ou g.bo g.n g.om g.ob, wK κ cs gs made, wG κ u_38 (k_cpt 400 (fun _ => 0) (nI 0) 0) (k_cpt 400 (fun _ => 0) (nI 0) (-1)) (k_cpt 400 (fun _ => 0) (nI 0) (-1)) (k_cpt 400 (fun _ => 0) (nI 0) (-1)) (k_cpt 400 (fun _ => 0) (nI 0) (-1)) (fun _ => 0) (fun _ => 0) 1 0 0]) H := hP_38
        have hD : va_D A (List.flatten [wH κ qh (k_rg cs made) pl kp, wG κ q g.so g.le g.gr g.ne g.si g.ou g.bo g.n g.om g.ob, wK κ cs gs made, wG κ u_38 (k_cpt 400 (fun _ => 0) (nI 0) 0) (k_cpt 400 (fun _ => 0) (nI 0) (-1)) (k_cpt 400 (fun _ => 0) (nI 0) (-1)) (k_cpt 400 (fun _ => 0) (nI 0) (-1)) (k_cpt 400 (fun _ => 0) (nI 0) (-1)) (fun _ => 0) (fun _ => 0) 1 0 0]) := hD_38
        have em : made = pl := by omega
        have e8 : List.flatten [wH κ qh (k_rg cs made) pl kp, wG κ q g.so g.le g.gr g.ne g.si g.ou g.bo g.n g.om g.ob, wK κ cs gs made, wG κ u_38 (k_cpt 400 (fun _ => 0) (nI 0) 0) (k_cpt 400 (fun _ => 0) (nI 0) (-1)) (k_cpt 400 (fun _ => 0) (nI 0) (-1)) (k_cpt 400 (fun _ => 0) (nI 0) (-1)) (k_cpt 400 (fun _ => 0) (nI 0) (-1)) (fun _ => 0) (fun _ => 0) 1 0 0] = List.flatten [wH κ qh (k_rg cs made) pl kp, wG κ q g.so g.le g.gr g.ne g.si g.ou g.bo g.n g.om g.ob, wK κ (va_up cs made u_38) (va_up gs made k_g0) (made + 1)] := by simp only [List.flatten_cons, List.flatten_nil, List.append_nil, k_wK_push]; rfl
        rw [e8] at hP hD
        have e7 := k_rg_push cs made u_38
        have hgb : ∀ k, k < made + 1 → k_bG (va_up gs made k_g0 k) := by
          intro k hk
          by_cases h : k = made
          · subst h; rw [va_up_self]; exact ⟨by decide, by decide, by decide⟩
          · rw [va_up_ne _ _ h]; exact hgs k (by omega)
        have hgn : ∀ k, k ≠ pl → va_up gs made k_g0 k = gs k := fun k h => va_up_ne _ _ (by omega)
        rw [show u_38 0 = va_up cs made u_38 made 0 by rw [va_up_self]]
        generalize va_up cs made u_38 = cs1 at e7 hP hD ⊢
        generalize va_up gs made k_g0 = gs1 at hgb hgn hP hD
        clear e8
        refine lv_astore_n (lv' := [(2, .ref (cs1 made 0)), (0, .ref (qh 0)), (1, .ref (q 0))]) hx hb dX2_keep_41 rfl hl (by decide) rfl (fun ls hl => ?_)
        refine lv_aload_n hx hb dX2_keep_42 rfl (lv_at hl 1 rfl) ?_
        refine va_get (D := D) (ci := 2) (v := .ref (qh 1)) (C := RX2) (T := TX2) (N := 3) hx hb hts (iwX2_keep_2) hown hK.1 hP 0 rfl rfl 0 (by decide) (hts (.fieldLink RX2 11 "InverterGraphs$History" "ring" "[LInverterGraphs$Graph;") (by decide +kernel)) (fun _ h9 => h9) rfl dX2_keep_43 ?_
        refine lv_aload_n hx hb dX2_keep_46 rfl (lv_at hl 1 rfl) ?_
        refine va_get (D := D) (ci := 2) (v := .int (nI pl)) (C := RX2) (T := TX2) (N := 3) hx hb hts (iwX2_keep_2) hown hK.1 hP 0 rfl rfl 1 (by decide) (hts (.fieldLink RX2 21 "InverterGraphs$History" "place" "I") (by decide +kernel)) (fun _ h9 => h9) rfl dX2_keep_47 ?_
        refine lv_aload_n hx hb dX2_keep_50 rfl (lv_at hl 0 rfl) ?_
        obtain ⟨qk, hqk⟩ := List.getElem?_of_mem (List.mem_flatten.mpr ⟨wK κ cs1 gs1 (made + 1), by simp, k_wK_mem (k := made) (by omega) (List.mem_cons_self (a := (cs1 made 0, (.inr (1, [.ref (cs1 made 1), .ref (cs1 made 2), .ref (cs1 made 3), .ref (cs1 made 4), .ref (cs1 made 5), .ref (cs1 made 6), .ref (cs1 made 7), .int (nI (gs1 made).n), .int (nI (gs1 made).om), .int (nI (gs1 made).ob)]) : va_E))) )⟩ : _ ∈ List.flatten [wH κ qh (k_rg cs made) pl kp, wG κ q g.so g.le g.gr g.ne g.si g.ou g.bo g.n g.om g.ob, wK κ cs1 gs1 (made + 1)])
        refine va_astq (D := D) hx hb hK.1 hP hD hS 1 3 qk 1 (r := (RX1, TX1, 10)) rfl rfl hqk rfl (vp_in_nI (show pl < 30 by omega) (by omega)) dX2_keep_51 (fun H locs hP hD hS => ?_)
        rw [nI_clamp (show pl < 2 ^ 31 by omega)] at hP hD
        have hP : va_P D vwCl (List.flatten [wH κ qh (va_up (k_rg cs made) pl (some (cs1 made 0))) pl kp, wG κ q g.so g.le g.gr g.ne g.si g.ou g.bo g.n g.om g.ob, wK κ cs1 gs1 (made + 1)]) H := hP
        have hD : va_D A (List.flatten [wH κ qh (va_up (k_rg cs made) pl (some (cs1 made 0))) pl kp, wG κ q g.so g.le g.gr g.ne g.si g.ou g.bo g.n g.om g.ob, wK κ cs1 gs1 (made + 1)]) := hD
        rw [← em, e7] at hP hD
        refine J cs1 gs1 (made + 1) _ _ ls (by omega) (by omega) hgb hgn (Or.inr ⟨rfl, em.symm⟩) (by rw [← em]; exact hP) (by rw [← em]; exact hD) hS (by rw [← em]; exact lv_sub hl [0, 1, 2] rfl)
    · skip
      have c_16 : ¬ (pl < 30) := fun h9 => c_16 ((nI_ltI (a := pl) (b := 30) (by omega) (by omega)).mpr h9)
      exfalso; omega
theorem va_up_id {α : Type} (f : Nat → α) (k : Nat) : va_up f k (f k) = f := by
  funext j
  by_cases h : j = k
  · subst h; rw [va_up_self]
  · rw [va_up_ne _ _ h]
theorem iwX2_takeBack_2 : ∀ w ∈ wsX20, w ∈ wsX2_takeBack := by decide +kernel
set_option maxHeartbeats 4000000 in
set_option maxRecDepth 100000 in
theorem c_X2_takeBack (l : Launch) (D : va_G) (κ : Nat → ClassId) (sz : Nat) (qh : Nat → Nat) (cs : Nat → Nat → Nat) (gs : Nat → KH) (made pl kp : Nat) (q : Nat → Nat) (g : KH) (hg : k_bG g) (hgs : ∀ k, k < made → k_bG (gs k)) (hpl : pl < 30) (hpm : pl ≤ made) (hma : made ≤ 30) (hkp : kp ≤ 30) (hlat : kp ≠ 0 → (if 0 < pl then pl - 1 else 29) < made) : k_mui (S := KH) l yX2_takeBack wsX2_takeBack 3 82 0 0 D κ [.ref (qh 0), .ref (q 0)] (List.flatten [wH κ qh (k_rg cs made) pl kp, wG κ q g.so g.le g.gr g.ne g.si g.ou g.bo g.n g.om g.ob, wK κ cs gs made]) sz (fun r u => (kp = 0 ∧ r = 0 ∧ u = g) ∨ (kp ≠ 0 ∧ r = 1 ∧ k_eqG u (gs (if 0 < pl then pl - 1 else 29)))) (fun u => List.flatten [wH κ qh (k_rg cs made) (if kp = 0 then pl else (if 0 < pl then pl - 1 else 29)) (kp - 1), wG κ q u.so u.le u.gr u.ne u.si u.ou u.bo u.n u.om u.ob, wK κ cs gs made]) := by
  refine Met.ofW (cc := cX2_takeBack) (maxL := 4) (ret := (some .boolean)) (by decide) rfl ?_
  intro p e s m args below meth c s₁ B hml hv
  obtain ⟨rfl, hsz, hK, hP, hD0⟩ := hv
  have hx := B.exec
  have hb := B.bytes
  have hr := B.returns
  have hts := atoms_spec (ws := wsX2_takeBack) B.pre
  have hown : s.vm.findClass RX2 = some m.cls := findClass_of_methodNamed B.named
  have hlocks := B.notSynchronized
  subst hsz
  have hD := hD0.self (sz := s.heap.size)
  generalize hAe : va_A (List.flatten [wH κ qh (k_rg cs made) pl kp, wG κ q g.so g.le g.gr g.ne g.si g.ou g.bo g.n g.om g.ob, wK κ cs gs made]) s.heap.size = A at hD ⊢
  have hA : ∀ q : Nat, s.heap.size ≤ q → A q := fun q h => by rw [← hAe]; exact Or.inr h
  have hS : va_S A s.heap s.heap [] := va_S.rf
  have hP : va_P D vwCl (List.flatten [wH κ qh (k_rg cs made) pl kp, wG κ q g.so g.le g.gr g.ne g.si g.ou g.bo g.n g.om g.ob, wK κ cs gs made]) s.heap := hP
  have hl := lv_entry ([.ref (qh 0), .ref (q 0)]) (n := 4) (Nat.le_of_ble_eq_true rfl)
  rw [lg_entry_eq]
  generalize (lg_sl ([.ref (qh 0), .ref (q 0)]) ++ List.replicate (4 - (lg_sl ([.ref (qh 0), .ref (q 0)])).length) Slot.unset).toArray = ls at hl ⊢
  have hl : lv_has ls 4 [(0, .ref (qh 0)), (1, .ref (q 0))] := hl
  refine lv_aload_n hx hb dX2_takeBack_0 rfl (lv_at hl 0 rfl) ?_
  refine va_get (D := D) (ci := 2) (v := .int (nI pl)) (C := RX2) (T := TX2) (N := 3) hx hb hts (iwX2_takeBack_2) hown hK.1 hP 0 rfl rfl 1 (by decide) (hts (.fieldLink RX2 21 "InverterGraphs$History" "place" "I") (by decide +kernel)) (fun _ h9 => h9) rfl dX2_takeBack_1 ?_
  refine lv_if_le (tgt := 16) hx hb dX2_takeBack_4 (by decide) (fun c_4 => ?_) (fun c_4 => ?_)
  · skip
    have c_4 : pl ≤ 0 := (nI_leI (a := pl) (b := 0) (by omega) (by omega)).mp c_4
    refine lv_aload_n hx hb dX2_takeBack_16 rfl (lv_at hl 0 rfl) ?_
    refine va_get (D := D) (ci := 2) (v := .ref (qh 1)) (C := RX2) (T := TX2) (N := 3) hx hb hts (iwX2_takeBack_2) hown hK.1 hP 0 rfl rfl 0 (by decide) (hts (.fieldLink RX2 11 "InverterGraphs$History" "ring" "[LInverterGraphs$Graph;") (by decide +kernel)) (fun _ h9 => h9) rfl dX2_takeBack_17 ?_
    refine va_alen (D := D) hx hb hK.1 hP 1 3 rfl rfl (v := 30) rfl dX2_takeBack_20 ?_
    refine lv_iconst (v := 1) hx hb dX2_takeBack_21 (by decide) ?_
    refine lv_isub hx hb dX2_takeBack_22 ?_
    refine lv_topi (nm_r (pk_sub (a := 30) (b := 1) (by omega)) ?_)
    refine lv_istore_n (lv' := [(2, .int (nI (30 - 1))), (0, .ref (qh 0)), (1, .ref (q 0))]) hx hb dX2_takeBack_23 rfl hl (by decide) rfl (fun ls hl => ?_)
    refine lv_aload_n hx hb dX2_takeBack_24 rfl (lv_at hl 1 rfl) ?_
    refine va_get (D := D) (ci := 2) (v := .int (nI kp)) (C := RX2) (T := TX2) (N := 3) hx hb hts (iwX2_takeBack_2) hown hK.1 hP 0 rfl rfl 2 (by decide) (hts (.fieldLink RX2 17 "InverterGraphs$History" "kept" "I") (by decide +kernel)) (fun _ h9 => h9) rfl dX2_takeBack_25 ?_
    have el : (if 0 < pl then pl - 1 else 29) = 30 - 1 := if_neg (by omega)
    refine lv_if_eq (tgt := 44) hx hb dX2_takeBack_28 (by decide) (fun c_28 => ?_) (fun c_28 => ?_)
    · skip
      have c_28 : kp = 0 := (nI_eq (a := kp) (b := 0) (by omega) (by omega)).mp c_28
      refine lv_iconst (v := 0) hx hb dX2_takeBack_44 (by decide) ?_
      obtain rfl : kp = 0 := c_28
      exact W.zret (ty := .boolean) (v := 0) hx hb hr rfl (fun t ht hW => ⟨⟨0, g, rfl, Or.inl ⟨rfl, rfl, rfl⟩, by rw [ht]; exact hP, hD⟩, hS.F ht⟩) hS.2.2 dX2_takeBack_45
    · skip
      have c_28 : ¬ (kp = 0) := fun h9 => c_28 ((nI_eq (a := kp) (b := 0) (by omega) (by omega)).mpr h9)
      refine lv_iload_n hx hb dX2_takeBack_31 rfl (lv_at hl 0 rfl) ?_
      refine lv_if_lt (tgt := 44) hx hb dX2_takeBack_32 (by decide) (fun c_32 => ?_) (fun c_32 => ?_)
      · skip
        have c_32 : (30 - 1) < 0 := (nI_ltI (a := (30 - 1)) (b := 0) (by omega) (by omega)).mp c_32
        exfalso; omega
      · skip
        have c_32 : ¬ ((30 - 1) < 0) := fun h9 => c_32 ((nI_ltI (a := (30 - 1)) (b := 0) (by omega) (by omega)).mpr h9)
        refine lv_iload_n hx hb dX2_takeBack_35 rfl (lv_at hl 0 rfl) ?_
        refine lv_aload_n hx hb dX2_takeBack_36 rfl (lv_at hl 1 rfl) ?_
        refine va_get (D := D) (ci := 2) (v := .ref (qh 1)) (C := RX2) (T := TX2) (N := 3) hx hb hts (iwX2_takeBack_2) hown hK.1 hP 0 rfl rfl 0 (by decide) (hts (.fieldLink RX2 11 "InverterGraphs$History" "ring" "[LInverterGraphs$Graph;") (by decide +kernel)) (fun _ h9 => h9) rfl dX2_takeBack_37 ?_
        refine va_alen (D := D) hx hb hK.1 hP 1 3 rfl rfl (v := 30) rfl dX2_takeBack_40 ?_
        refine lv_icmp_lt (tgt := 46) hx hb dX2_takeBack_41 (by decide) (fun c_41 => ?_) (fun c_41 => ?_)
        · skip
          have c_41 : (30 - 1) < 30 := (nI_ltI (a := (30 - 1)) (b := 30) (by omega) (by omega)).mp c_41
          have hlm : 30 - 1 < made := by rw [← el]; exact hlat c_28
          refine lv_aload_n hx hb dX2_takeBack_46 rfl (lv_at hl 1 rfl) ?_
          refine va_get (D := D) (ci := 2) (v := .ref (qh 1)) (C := RX2) (T := TX2) (N := 3) hx hb hts (iwX2_takeBack_2) hown hK.1 hP 0 rfl rfl 0 (by decide) (hts (.fieldLink RX2 11 "InverterGraphs$History" "ring" "[LInverterGraphs$Graph;") (by decide +kernel)) (fun _ h9 => h9) rfl dX2_takeBack_47 ?_
          refine lv_iload_n hx hb dX2_takeBack_50 rfl (lv_at hl 0 rfl) ?_
          refine va_aldq (D := D) hx hb hK.1 hP 1 3 rfl rfl (vp_in_nI (show 30 - 1 < 30 by omega) (by omega)) dX2_takeBack_51 ?_
          rw [nI_clamp (show 30 - 1 < 2 ^ 31 by omega)]
          rw [show va_rf (k_rg cs made (30 - 1)) = .ref (cs (30 - 1) 0) from by simp only [k_rg]; rw [if_pos hlm]; rfl]
          refine lv_astore_n (lv' := [(3, .ref (cs (30 - 1) 0)), (2, .int (nI (30 - 1))), (0, .ref (qh 0)), (1, .ref (q 0))]) hx hb dX2_takeBack_52 rfl hl (by decide) rfl (fun ls hl => ?_)
          refine lv_aload_n hx hb dX2_takeBack_53 rfl (lv_at hl 0 rfl) ?_
          refine lv_ifnonnull (tgt := 59) hx hb dX2_takeBack_54 (by decide) ?_
          refine lv_aload_n hx hb dX2_takeBack_59 rfl (lv_at hl 3 rfl) ?_
          refine lv_aload_n hx hb dX2_takeBack_60 rfl (lv_at hl 0 rfl) ?_
          have hb1 := hgs (30 - 1) hlm
          rw [← k_flat2] at hP hD
          refine k_cSUv (D := D) (κ := κ) (qc := (RX1, TX1, 10)) (ci := 1) (q0 := 0) (Wl := (wH κ qh (k_rg cs made) pl kp :: wG κ q g.so g.le g.gr g.ne g.si g.ou g.bo g.n g.om g.ob :: (List.range made).map (k_wk κ cs gs))) (Wc := [wG κ q g.so g.le g.gr g.ne g.si g.ou g.bo g.n g.om g.ob, wGk κ (cs (30 - 1)) (gs (30 - 1))]) (wc := List.flatten [wG κ q g.so g.le g.gr g.ne g.si g.ou g.bo g.n g.om g.ob, wGk κ (cs (30 - 1)) (gs (30 - 1))]) (W' := fun _ => [wGk κ q (k_onto (gs (30 - 1)) g), wGk κ (cs (30 - 1)) (gs (30 - 1))]) (Wn := fun _ => (wH κ qh (k_rg cs made) pl kp :: wGk κ q (k_onto (gs (30 - 1)) g) :: (List.range made).map (k_wk κ cs gs))) ⟨hx, hb, hml, hown, hts⟩ (c_X1_copyFrom l D κ _ q g.so g.le g.gr g.ne g.si g.ou g.bo g.n g.om g.ob (cs (30 - 1)) (gs (30 - 1)).so (gs (30 - 1)).le (gs (30 - 1)).gr (gs (30 - 1)).ne (gs (30 - 1)).si (gs (30 - 1)).ou (gs (30 - 1)).bo (gs (30 - 1)).n (gs (30 - 1)).om (gs (30 - 1)).ob hg.1 hg.2.1 hg.2.2 hb1.1 hb1.2.1 hb1.2.2) (cwV 1 hts gX2_takeBack_X1_copyFrom rfl rfl rfl (by decide +kernel) ⟨Nat.le_of_ble_eq_true rfl, Nat.le_of_ble_eq_true rfl⟩) hK hP hD hS hA [1, 2 + (30 - 1)] (by simp only [va_nd]; simp; try omega) (by simp only [List.map_cons, List.map_nil]; rw [k_at2 _ _ _ (by omega)]; rfl) rfl (fun _ => rfl) rfl rfl (fun _ => rfl) (fun _ => by simp only [k_ps]; rw [show ∀ (a b x : va_W) (t : List va_W), (a :: b :: t).set 1 x = a :: x :: t from fun _ _ _ _ => rfl, k_set2, k_wk_up, va_up_id]) (As := [.ref (cs (30 - 1) 0)]) (rest := []) rfl rfl hl.1 (Nat.le_of_ble_eq_true rfl) dX2_takeBack_61 ⟨Nat.le_of_ble_eq_true rfl, Nat.le_of_ble_eq_true rfl⟩ (fun _ H locs _ hP hD hS => ?_)
          rw [k_flat2] at hP hD
          have hP : va_P D vwCl (List.flatten [wH κ qh (k_rg cs made) pl kp, wG κ q ((k_onto (gs (30 - 1)) g).so) ((k_onto (gs (30 - 1)) g).le) ((k_onto (gs (30 - 1)) g).gr) ((k_onto (gs (30 - 1)) g).ne) ((k_onto (gs (30 - 1)) g).si) ((k_onto (gs (30 - 1)) g).ou) ((k_onto (gs (30 - 1)) g).bo) ((k_onto (gs (30 - 1)) g).n) ((k_onto (gs (30 - 1)) g).om) ((k_onto (gs (30 - 1)) g).ob), wK κ cs gs made]) H := hP
          have hD : va_D A (List.flatten [wH κ qh (k_rg cs made) pl kp, wG κ q ((k_onto (gs (30 - 1)) g).so) ((k_onto (gs (30 - 1)) g).le) ((k_onto (gs (30 - 1)) g).gr) ((k_onto (gs (30 - 1)) g).ne) ((k_onto (gs (30 - 1)) g).si) ((k_onto (gs (30 - 1)) g).ou) ((k_onto (gs (30 - 1)) g).bo) ((k_onto (gs (30 - 1)) g).n) ((k_onto (gs (30 - 1)) g).om) ((k_onto (gs (30 - 1)) g).ob), wK κ cs gs made]) := hD
          refine lv_aload_n hx hb dX2_takeBack_64 rfl (lv_at hl 2 rfl) ?_
          refine lv_iload_n hx hb dX2_takeBack_65 rfl (lv_at hl 1 rfl) ?_
          refine va_put (D := D) (ci := 2) (v := .int (nI (30 - 1))) (ty := .int) (C := RX2) (T := TX2) (N := 3) hx hb hts (iwX2_takeBack_2) tyX2 tyX2_ok nmX2 hown hK.1 hP hD hS 0 rfl rfl 1 (by decide) (hts (.fieldLink RX2 21 "InverterGraphs$History" "place" "I") (by decide +kernel)) (fun _ h9 => h9) rfl (by decide +kernel) rfl rfl (Nat.le_of_ble_eq_true rfl) dX2_takeBack_66 (fun H locs hP hD hS => ?_)
          have hP : va_P D vwCl (List.flatten [wH κ qh (k_rg cs made) (30 - 1) kp, wG κ q ((k_onto (gs (30 - 1)) g).so) ((k_onto (gs (30 - 1)) g).le) ((k_onto (gs (30 - 1)) g).gr) ((k_onto (gs (30 - 1)) g).ne) ((k_onto (gs (30 - 1)) g).si) ((k_onto (gs (30 - 1)) g).ou) ((k_onto (gs (30 - 1)) g).bo) ((k_onto (gs (30 - 1)) g).n) ((k_onto (gs (30 - 1)) g).om) ((k_onto (gs (30 - 1)) g).ob), wK κ cs gs made]) H := hP
          have hD : va_D A (List.flatten [wH κ qh (k_rg cs made) (30 - 1) kp, wG κ q ((k_onto (gs (30 - 1)) g).so) ((k_onto (gs (30 - 1)) g).le) ((k_onto (gs (30 - 1)) g).gr) ((k_onto (gs (30 - 1)) g).ne) ((k_onto (gs (30 - 1)) g).si) ((k_onto (gs (30 - 1)) g).ou) ((k_onto (gs (30 - 1)) g).bo) ((k_onto (gs (30 - 1)) g).n) ((k_onto (gs (30 - 1)) g).om) ((k_onto (gs (30 - 1)) g).ob), wK κ cs gs made]) := hD
          refine lv_aload_n hx hb dX2_takeBack_69 rfl (lv_at hl 2 rfl) ?_
          refine lv_dup hx hb dX2_takeBack_70 rfl ?_
          refine va_get (D := D) (ci := 2) (v := .int (nI kp)) (C := RX2) (T := TX2) (N := 3) hx hb hts (iwX2_takeBack_2) hown hK.1 hP 0 rfl rfl 2 (by decide) (hts (.fieldLink RX2 17 "InverterGraphs$History" "kept" "I") (by decide +kernel)) (fun _ h9 => h9) rfl dX2_takeBack_71 ?_
          refine lv_iconst (v := 1) hx hb dX2_takeBack_74 (by decide) ?_
          refine lv_isub hx hb dX2_takeBack_75 ?_
          refine lv_topi (nm_r (pk_sub (a := kp) (b := 1) (by omega)) ?_)
          refine va_put (D := D) (ci := 2) (v := .int (nI (kp - 1))) (ty := .int) (C := RX2) (T := TX2) (N := 3) hx hb hts (iwX2_takeBack_2) tyX2 tyX2_ok nmX2 hown hK.1 hP hD hS 0 rfl rfl 2 (by decide) (hts (.fieldLink RX2 17 "InverterGraphs$History" "kept" "I") (by decide +kernel)) (fun _ h9 => h9) rfl (by decide +kernel) rfl rfl (Nat.le_of_ble_eq_true rfl) dX2_takeBack_76 (fun H locs hP hD hS => ?_)
          have hP : va_P D vwCl (List.flatten [wH κ qh (k_rg cs made) (30 - 1) (kp - 1), wG κ q ((k_onto (gs (30 - 1)) g).so) ((k_onto (gs (30 - 1)) g).le) ((k_onto (gs (30 - 1)) g).gr) ((k_onto (gs (30 - 1)) g).ne) ((k_onto (gs (30 - 1)) g).si) ((k_onto (gs (30 - 1)) g).ou) ((k_onto (gs (30 - 1)) g).bo) ((k_onto (gs (30 - 1)) g).n) ((k_onto (gs (30 - 1)) g).om) ((k_onto (gs (30 - 1)) g).ob), wK κ cs gs made]) H := hP
          have hD : va_D A (List.flatten [wH κ qh (k_rg cs made) (30 - 1) (kp - 1), wG κ q ((k_onto (gs (30 - 1)) g).so) ((k_onto (gs (30 - 1)) g).le) ((k_onto (gs (30 - 1)) g).gr) ((k_onto (gs (30 - 1)) g).ne) ((k_onto (gs (30 - 1)) g).si) ((k_onto (gs (30 - 1)) g).ou) ((k_onto (gs (30 - 1)) g).bo) ((k_onto (gs (30 - 1)) g).n) ((k_onto (gs (30 - 1)) g).om) ((k_onto (gs (30 - 1)) g).ob), wK κ cs gs made]) := hD
          refine lv_iconst (v := 1) hx hb dX2_takeBack_79 (by decide) ?_
          have hP : va_P D vwCl (List.flatten [wH κ qh (k_rg cs made) (if kp = 0 then pl else (if 0 < pl then pl - 1 else 29)) (kp - 1), wG κ q ((k_onto (gs (30 - 1)) g).so) ((k_onto (gs (30 - 1)) g).le) ((k_onto (gs (30 - 1)) g).gr) ((k_onto (gs (30 - 1)) g).ne) ((k_onto (gs (30 - 1)) g).si) ((k_onto (gs (30 - 1)) g).ou) ((k_onto (gs (30 - 1)) g).bo) ((k_onto (gs (30 - 1)) g).n) ((k_onto (gs (30 - 1)) g).om) ((k_onto (gs (30 - 1)) g).ob), wK κ cs gs made]) H := by rw [if_neg c_28, el]; exact hP
          have hD : va_D A (List.flatten [wH κ qh (k_rg cs made) (if kp = 0 then pl else (if 0 < pl then pl - 1 else 29)) (kp - 1), wG κ q ((k_onto (gs (30 - 1)) g).so) ((k_onto (gs (30 - 1)) g).le) ((k_onto (gs (30 - 1)) g).gr) ((k_onto (gs (30 - 1)) g).ne) ((k_onto (gs (30 - 1)) g).si) ((k_onto (gs (30 - 1)) g).ou) ((k_onto (gs (30 - 1)) g).bo) ((k_onto (gs (30 - 1)) g).n) ((k_onto (gs (30 - 1)) g).om) ((k_onto (gs (30 - 1)) g).ob), wK κ cs gs made]) := by rw [if_neg c_28, el]; exact hD
          exact W.zret (ty := .boolean) (v := 1) hx hb hr rfl (fun t ht hW => ⟨⟨1, (k_onto (gs (30 - 1)) g), rfl, Or.inr ⟨c_28, rfl, by rw [el]; exact k_onto_eq _ _⟩, by rw [ht]; exact hP, hD⟩, hS.F ht⟩) hS.2.2 dX2_takeBack_80
        · skip
          have c_41 : ¬ ((30 - 1) < 30) := fun h9 => c_41 ((nI_ltI (a := (30 - 1)) (b := 30) (by omega) (by omega)).mpr h9)
          exfalso; omega
  · skip
    have c_4 : ¬ (pl ≤ 0) := fun h9 => c_4 ((nI_leI (a := pl) (b := 0) (by omega) (by omega)).mpr h9)
    refine lv_aload_n hx hb dX2_takeBack_7 rfl (lv_at hl 0 rfl) ?_
    refine va_get (D := D) (ci := 2) (v := .int (nI pl)) (C := RX2) (T := TX2) (N := 3) hx hb hts (iwX2_takeBack_2) hown hK.1 hP 0 rfl rfl 1 (by decide) (hts (.fieldLink RX2 21 "InverterGraphs$History" "place" "I") (by decide +kernel)) (fun _ h9 => h9) rfl dX2_takeBack_8 ?_
    refine lv_iconst (v := 1) hx hb dX2_takeBack_11 (by decide) ?_
    refine lv_isub hx hb dX2_takeBack_12 ?_
    refine lv_topi (nm_r (pk_sub (a := pl) (b := 1) (by omega)) ?_)
    refine lv_goto (tgt := 23) hx hb dX2_takeBack_13 (by decide) ?_
    refine lv_istore_n (lv' := [(2, .int (nI (pl - 1))), (0, .ref (qh 0)), (1, .ref (q 0))]) hx hb dX2_takeBack_23 rfl hl (by decide) rfl (fun ls hl => ?_)
    refine lv_aload_n hx hb dX2_takeBack_24 rfl (lv_at hl 1 rfl) ?_
    refine va_get (D := D) (ci := 2) (v := .int (nI kp)) (C := RX2) (T := TX2) (N := 3) hx hb hts (iwX2_takeBack_2) hown hK.1 hP 0 rfl rfl 2 (by decide) (hts (.fieldLink RX2 17 "InverterGraphs$History" "kept" "I") (by decide +kernel)) (fun _ h9 => h9) rfl dX2_takeBack_25 ?_
    have el : (if 0 < pl then pl - 1 else 29) = pl - 1 := if_pos (by omega)
    refine lv_if_eq (tgt := 44) hx hb dX2_takeBack_28 (by decide) (fun c_28 => ?_) (fun c_28 => ?_)
    · skip
      have c_28 : kp = 0 := (nI_eq (a := kp) (b := 0) (by omega) (by omega)).mp c_28
      refine lv_iconst (v := 0) hx hb dX2_takeBack_44 (by decide) ?_
      obtain rfl : kp = 0 := c_28
      exact W.zret (ty := .boolean) (v := 0) hx hb hr rfl (fun t ht hW => ⟨⟨0, g, rfl, Or.inl ⟨rfl, rfl, rfl⟩, by rw [ht]; exact hP, hD⟩, hS.F ht⟩) hS.2.2 dX2_takeBack_45
    · skip
      have c_28 : ¬ (kp = 0) := fun h9 => c_28 ((nI_eq (a := kp) (b := 0) (by omega) (by omega)).mpr h9)
      refine lv_iload_n hx hb dX2_takeBack_31 rfl (lv_at hl 0 rfl) ?_
      refine lv_if_lt (tgt := 44) hx hb dX2_takeBack_32 (by decide) (fun c_32 => ?_) (fun c_32 => ?_)
      · skip
        have c_32 : (pl - 1) < 0 := (nI_ltI (a := (pl - 1)) (b := 0) (by omega) (by omega)).mp c_32
        exfalso; omega
      · skip
        have c_32 : ¬ ((pl - 1) < 0) := fun h9 => c_32 ((nI_ltI (a := (pl - 1)) (b := 0) (by omega) (by omega)).mpr h9)
        refine lv_iload_n hx hb dX2_takeBack_35 rfl (lv_at hl 0 rfl) ?_
        refine lv_aload_n hx hb dX2_takeBack_36 rfl (lv_at hl 1 rfl) ?_
        refine va_get (D := D) (ci := 2) (v := .ref (qh 1)) (C := RX2) (T := TX2) (N := 3) hx hb hts (iwX2_takeBack_2) hown hK.1 hP 0 rfl rfl 0 (by decide) (hts (.fieldLink RX2 11 "InverterGraphs$History" "ring" "[LInverterGraphs$Graph;") (by decide +kernel)) (fun _ h9 => h9) rfl dX2_takeBack_37 ?_
        refine va_alen (D := D) hx hb hK.1 hP 1 3 rfl rfl (v := 30) rfl dX2_takeBack_40 ?_
        refine lv_icmp_lt (tgt := 46) hx hb dX2_takeBack_41 (by decide) (fun c_41 => ?_) (fun c_41 => ?_)
        · skip
          have c_41 : (pl - 1) < 30 := (nI_ltI (a := (pl - 1)) (b := 30) (by omega) (by omega)).mp c_41
          have hlm : pl - 1 < made := by rw [← el]; exact hlat c_28
          refine lv_aload_n hx hb dX2_takeBack_46 rfl (lv_at hl 1 rfl) ?_
          refine va_get (D := D) (ci := 2) (v := .ref (qh 1)) (C := RX2) (T := TX2) (N := 3) hx hb hts (iwX2_takeBack_2) hown hK.1 hP 0 rfl rfl 0 (by decide) (hts (.fieldLink RX2 11 "InverterGraphs$History" "ring" "[LInverterGraphs$Graph;") (by decide +kernel)) (fun _ h9 => h9) rfl dX2_takeBack_47 ?_
          refine lv_iload_n hx hb dX2_takeBack_50 rfl (lv_at hl 0 rfl) ?_
          refine va_aldq (D := D) hx hb hK.1 hP 1 3 rfl rfl (vp_in_nI (show pl - 1 < 30 by omega) (by omega)) dX2_takeBack_51 ?_
          rw [nI_clamp (show pl - 1 < 2 ^ 31 by omega)]
          rw [show va_rf (k_rg cs made (pl - 1)) = .ref (cs (pl - 1) 0) from by simp only [k_rg]; rw [if_pos hlm]; rfl]
          refine lv_astore_n (lv' := [(3, .ref (cs (pl - 1) 0)), (2, .int (nI (pl - 1))), (0, .ref (qh 0)), (1, .ref (q 0))]) hx hb dX2_takeBack_52 rfl hl (by decide) rfl (fun ls hl => ?_)
          refine lv_aload_n hx hb dX2_takeBack_53 rfl (lv_at hl 0 rfl) ?_
          refine lv_ifnonnull (tgt := 59) hx hb dX2_takeBack_54 (by decide) ?_
          refine lv_aload_n hx hb dX2_takeBack_59 rfl (lv_at hl 3 rfl) ?_
          refine lv_aload_n hx hb dX2_takeBack_60 rfl (lv_at hl 0 rfl) ?_
          have hb1 := hgs (pl - 1) hlm
          rw [← k_flat2] at hP hD
          refine k_cSUv (D := D) (κ := κ) (qc := (RX1, TX1, 10)) (ci := 1) (q0 := 0) (Wl := (wH κ qh (k_rg cs made) pl kp :: wG κ q g.so g.le g.gr g.ne g.si g.ou g.bo g.n g.om g.ob :: (List.range made).map (k_wk κ cs gs))) (Wc := [wG κ q g.so g.le g.gr g.ne g.si g.ou g.bo g.n g.om g.ob, wGk κ (cs (pl - 1)) (gs (pl - 1))]) (wc := List.flatten [wG κ q g.so g.le g.gr g.ne g.si g.ou g.bo g.n g.om g.ob, wGk κ (cs (pl - 1)) (gs (pl - 1))]) (W' := fun _ => [wGk κ q (k_onto (gs (pl - 1)) g), wGk κ (cs (pl - 1)) (gs (pl - 1))]) (Wn := fun _ => (wH κ qh (k_rg cs made) pl kp :: wGk κ q (k_onto (gs (pl - 1)) g) :: (List.range made).map (k_wk κ cs gs))) ⟨hx, hb, hml, hown, hts⟩ (c_X1_copyFrom l D κ _ q g.so g.le g.gr g.ne g.si g.ou g.bo g.n g.om g.ob (cs (pl - 1)) (gs (pl - 1)).so (gs (pl - 1)).le (gs (pl - 1)).gr (gs (pl - 1)).ne (gs (pl - 1)).si (gs (pl - 1)).ou (gs (pl - 1)).bo (gs (pl - 1)).n (gs (pl - 1)).om (gs (pl - 1)).ob hg.1 hg.2.1 hg.2.2 hb1.1 hb1.2.1 hb1.2.2) (cwV 1 hts gX2_takeBack_X1_copyFrom rfl rfl rfl (by decide +kernel) ⟨Nat.le_of_ble_eq_true rfl, Nat.le_of_ble_eq_true rfl⟩) hK hP hD hS hA [1, 2 + (pl - 1)] (by simp only [va_nd]; simp; try omega) (by simp only [List.map_cons, List.map_nil]; rw [k_at2 _ _ _ (by omega)]; rfl) rfl (fun _ => rfl) rfl rfl (fun _ => rfl) (fun _ => by simp only [k_ps]; rw [show ∀ (a b x : va_W) (t : List va_W), (a :: b :: t).set 1 x = a :: x :: t from fun _ _ _ _ => rfl, k_set2, k_wk_up, va_up_id]) (As := [.ref (cs (pl - 1) 0)]) (rest := []) rfl rfl hl.1 (Nat.le_of_ble_eq_true rfl) dX2_takeBack_61 ⟨Nat.le_of_ble_eq_true rfl, Nat.le_of_ble_eq_true rfl⟩ (fun _ H locs _ hP hD hS => ?_)
          rw [k_flat2] at hP hD
          have hP : va_P D vwCl (List.flatten [wH κ qh (k_rg cs made) pl kp, wG κ q ((k_onto (gs (pl - 1)) g).so) ((k_onto (gs (pl - 1)) g).le) ((k_onto (gs (pl - 1)) g).gr) ((k_onto (gs (pl - 1)) g).ne) ((k_onto (gs (pl - 1)) g).si) ((k_onto (gs (pl - 1)) g).ou) ((k_onto (gs (pl - 1)) g).bo) ((k_onto (gs (pl - 1)) g).n) ((k_onto (gs (pl - 1)) g).om) ((k_onto (gs (pl - 1)) g).ob), wK κ cs gs made]) H := hP
          have hD : va_D A (List.flatten [wH κ qh (k_rg cs made) pl kp, wG κ q ((k_onto (gs (pl - 1)) g).so) ((k_onto (gs (pl - 1)) g).le) ((k_onto (gs (pl - 1)) g).gr) ((k_onto (gs (pl - 1)) g).ne) ((k_onto (gs (pl - 1)) g).si) ((k_onto (gs (pl - 1)) g).ou) ((k_onto (gs (pl - 1)) g).bo) ((k_onto (gs (pl - 1)) g).n) ((k_onto (gs (pl - 1)) g).om) ((k_onto (gs (pl - 1)) g).ob), wK κ cs gs made]) := hD
          refine lv_aload_n hx hb dX2_takeBack_64 rfl (lv_at hl 2 rfl) ?_
          refine lv_iload_n hx hb dX2_takeBack_65 rfl (lv_at hl 1 rfl) ?_
          refine va_put (D := D) (ci := 2) (v := .int (nI (pl - 1))) (ty := .int) (C := RX2) (T := TX2) (N := 3) hx hb hts (iwX2_takeBack_2) tyX2 tyX2_ok nmX2 hown hK.1 hP hD hS 0 rfl rfl 1 (by decide) (hts (.fieldLink RX2 21 "InverterGraphs$History" "place" "I") (by decide +kernel)) (fun _ h9 => h9) rfl (by decide +kernel) rfl rfl (Nat.le_of_ble_eq_true rfl) dX2_takeBack_66 (fun H locs hP hD hS => ?_)
          have hP : va_P D vwCl (List.flatten [wH κ qh (k_rg cs made) (pl - 1) kp, wG κ q ((k_onto (gs (pl - 1)) g).so) ((k_onto (gs (pl - 1)) g).le) ((k_onto (gs (pl - 1)) g).gr) ((k_onto (gs (pl - 1)) g).ne) ((k_onto (gs (pl - 1)) g).si) ((k_onto (gs (pl - 1)) g).ou) ((k_onto (gs (pl - 1)) g).bo) ((k_onto (gs (pl - 1)) g).n) ((k_onto (gs (pl - 1)) g).om) ((k_onto (gs (pl - 1)) g).ob), wK κ cs gs made]) H := hP
          have hD : va_D A (List.flatten [wH κ qh (k_rg cs made) (pl - 1) kp, wG κ q ((k_onto (gs (pl - 1)) g).so) ((k_onto (gs (pl - 1)) g).le) ((k_onto (gs (pl - 1)) g).gr) ((k_onto (gs (pl - 1)) g).ne) ((k_onto (gs (pl - 1)) g).si) ((k_onto (gs (pl - 1)) g).ou) ((k_onto (gs (pl - 1)) g).bo) ((k_onto (gs (pl - 1)) g).n) ((k_onto (gs (pl - 1)) g).om) ((k_onto (gs (pl - 1)) g).ob), wK κ cs gs made]) := hD
          refine lv_aload_n hx hb dX2_takeBack_69 rfl (lv_at hl 2 rfl) ?_
          refine lv_dup hx hb dX2_takeBack_70 rfl ?_
          refine va_get (D := D) (ci := 2) (v := .int (nI kp)) (C := RX2) (T := TX2) (N := 3) hx hb hts (iwX2_takeBack_2) hown hK.1 hP 0 rfl rfl 2 (by decide) (hts (.fieldLink RX2 17 "InverterGraphs$History" "kept" "I") (by decide +kernel)) (fun _ h9 => h9) rfl dX2_takeBack_71 ?_
          refine lv_iconst (v := 1) hx hb dX2_takeBack_74 (by decide) ?_
          refine lv_isub hx hb dX2_takeBack_75 ?_
          refine lv_topi (nm_r (pk_sub (a := kp) (b := 1) (by omega)) ?_)
          refine va_put (D := D) (ci := 2) (v := .int (nI (kp - 1))) (ty := .int) (C := RX2) (T := TX2) (N := 3) hx hb hts (iwX2_takeBack_2) tyX2 tyX2_ok nmX2 hown hK.1 hP hD hS 0 rfl rfl 2 (by decide) (hts (.fieldLink RX2 17 "InverterGraphs$History" "kept" "I") (by decide +kernel)) (fun _ h9 => h9) rfl (by decide +kernel) rfl rfl (Nat.le_of_ble_eq_true rfl) dX2_takeBack_76 (fun H locs hP hD hS => ?_)
          have hP : va_P D vwCl (List.flatten [wH κ qh (k_rg cs made) (pl - 1) (kp - 1), wG κ q ((k_onto (gs (pl - 1)) g).so) ((k_onto (gs (pl - 1)) g).le) ((k_onto (gs (pl - 1)) g).gr) ((k_onto (gs (pl - 1)) g).ne) ((k_onto (gs (pl - 1)) g).si) ((k_onto (gs (pl - 1)) g).ou) ((k_onto (gs (pl - 1)) g).bo) ((k_onto (gs (pl - 1)) g).n) ((k_onto (gs (pl - 1)) g).om) ((k_onto (gs (pl - 1)) g).ob), wK κ cs gs made]) H := hP
          have hD : va_D A (List.flatten [wH κ qh (k_rg cs made) (pl - 1) (kp - 1), wG κ q ((k_onto (gs (pl - 1)) g).so) ((k_onto (gs (pl - 1)) g).le) ((k_onto (gs (pl - 1)) g).gr) ((k_onto (gs (pl - 1)) g).ne) ((k_onto (gs (pl - 1)) g).si) ((k_onto (gs (pl - 1)) g).ou) ((k_onto (gs (pl - 1)) g).bo) ((k_onto (gs (pl - 1)) g).n) ((k_onto (gs (pl - 1)) g).om) ((k_onto (gs (pl - 1)) g).ob), wK κ cs gs made]) := hD
          refine lv_iconst (v := 1) hx hb dX2_takeBack_79 (by decide) ?_
          have hP : va_P D vwCl (List.flatten [wH κ qh (k_rg cs made) (if kp = 0 then pl else (if 0 < pl then pl - 1 else 29)) (kp - 1), wG κ q ((k_onto (gs (pl - 1)) g).so) ((k_onto (gs (pl - 1)) g).le) ((k_onto (gs (pl - 1)) g).gr) ((k_onto (gs (pl - 1)) g).ne) ((k_onto (gs (pl - 1)) g).si) ((k_onto (gs (pl - 1)) g).ou) ((k_onto (gs (pl - 1)) g).bo) ((k_onto (gs (pl - 1)) g).n) ((k_onto (gs (pl - 1)) g).om) ((k_onto (gs (pl - 1)) g).ob), wK κ cs gs made]) H := by rw [if_neg c_28, el]; exact hP
          have hD : va_D A (List.flatten [wH κ qh (k_rg cs made) (if kp = 0 then pl else (if 0 < pl then pl - 1 else 29)) (kp - 1), wG κ q ((k_onto (gs (pl - 1)) g).so) ((k_onto (gs (pl - 1)) g).le) ((k_onto (gs (pl - 1)) g).gr) ((k_onto (gs (pl - 1)) g).ne) ((k_onto (gs (pl - 1)) g).si) ((k_onto (gs (pl - 1)) g).ou) ((k_onto (gs (pl - 1)) g).bo) ((k_onto (gs (pl - 1)) g).n) ((k_onto (gs (pl - 1)) g).om) ((k_onto (gs (pl - 1)) g).ob), wK κ cs gs made]) := by rw [if_neg c_28, el]; exact hD
          exact W.zret (ty := .boolean) (v := 1) hx hb hr rfl (fun t ht hW => ⟨⟨1, (k_onto (gs (pl - 1)) g), rfl, Or.inr ⟨c_28, rfl, by rw [el]; exact k_onto_eq _ _⟩, by rw [ht]; exact hP, hD⟩, hS.F ht⟩) hS.2.2 dX2_takeBack_80
        · skip
          have c_41 : ¬ ((pl - 1) < 30) := fun h9 => c_41 ((nI_ltI (a := (pl - 1)) (b := 30) (by omega) (by omega)).mpr h9)
          exfalso; omega
theorem iwX2_changesKept_2 : ∀ w ∈ wsX20, w ∈ wsX2_changesKept := by decide +kernel
set_option maxHeartbeats 4000000 in
set_option maxRecDepth 100000 in
theorem c_X2_changesKept (l : Launch) (D : va_G) (κ : Nat → ClassId) (qh : Nat → Nat) (f : Nat → Option Nat) (pl kp : Nat) : k_roi l yX2_changesKept wsX2_changesKept 0 0 D κ [.ref (qh 0)] (wH κ qh f pl kp) (fun r => r = nI kp) := by
  refine Met.ofW (cc := cX2_changesKept) (maxL := 1) (ret := (some .int)) (by decide) rfl ?_
  intro p e s m args below meth c s₁ B hml hv
  obtain ⟨rfl, hK, hP⟩ := hv
  have hx := B.exec
  have hb := B.bytes
  have hr := B.returns
  have hts := atoms_spec (ws := wsX2_changesKept) B.pre
  have hown : s.vm.findClass RX2 = some m.cls := findClass_of_methodNamed B.named
  have hlocks := B.notSynchronized
  have hP : va_P D vwCl (wH κ qh f pl kp) s.heap := hP
  have hl := lv_entry ([.ref (qh 0)]) (n := 1) (Nat.le_of_ble_eq_true rfl)
  rw [lg_entry_eq]
  generalize (lg_sl ([.ref (qh 0)]) ++ List.replicate (1 - (lg_sl ([.ref (qh 0)])).length) Slot.unset).toArray = ls at hl ⊢
  have hl : lv_has ls 1 [(0, .ref (qh 0))] := hl
  refine lv_aload_n hx hb dX2_changesKept_0 rfl (lv_at hl 0 rfl) ?_
  refine va_get (D := D) (ci := 2) (v := .int (nI kp)) (C := RX2) (T := TX2) (N := 3) hx hb hts (iwX2_changesKept_2) hown hK.1 hP 0 rfl rfl 2 (by decide) (hts (.fieldLink RX2 17 "InverterGraphs$History" "kept" "I") (by decide +kernel)) (fun _ h9 => h9) rfl dX2_changesKept_1 ?_
  exact W.iret (v := nI kp) hx hb hr (fun t ht _ => ⟨nI kp, rfl, rfl, ht⟩) (fun _ h9 => nomatch h9) dX2_changesKept_4
