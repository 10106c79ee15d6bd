/-! THE LAW'S START: the two sides are made, and agree -/
def w_c0 : KC := ((fun _ => 0), (fun _ => 0), (fun _ => 0), upd (fun _ => 0) 0 (-1), 1, (fun _ => 0), (fun _ => 0), 0)
def w_v0 : XV := (k_g0, ((fun _ _ => 0), (fun _ => k_g0), 0, 0, 0), (fun _ => 0), 0, (fun _ => 0), ((fun _ => 0), (fun _ => 0), 0))
theorem w_Z0 : p_Z w_v0 w_c0 (fun _ => 0) 0 (fun _ => 0) 0 := by
  refine ⟨⟨rfl, rfl, fun j hj => ?_, fun k hk => absurd hk (Nat.not_lt_zero k), fun k _ hk => absurd hk (Nat.not_lt_zero k), fun h => absurd h (Nat.lt_irrefl 0), Nat.le_refl 0⟩, ⟨⟨Nat.zero_lt_one, Nat.le_of_ble_eq_true rfl, Nat.zero_le _, rfl⟩, fun j _ => ⟨Nat.le_of_ble_eq_true rfl, Nat.le_of_ble_eq_true rfl⟩, fun j _ h => ?_, fun j _ h => ?_, fun k hk => absurd hk (Nat.not_lt_zero k), fun j hj _ => ?_, fun k hk => absurd hk (Nat.not_lt_zero k), fun _ => 0, rfl, fun j _ h => ?_⟩, ⟨rfl, Nat.zero_le _, Nat.le_of_ble_eq_true rfl, Nat.le_refl 0, Nat.zero_le _, fun k hk => absurd hk (Nat.not_lt_zero k), fun i hi => absurd hi (Nat.not_lt_zero i)⟩, rfl, Or.inl rfl, fun h => absurd h (by decide)⟩
  · have hj1 : j < 1 := hj
    obtain rfl : j = 0 := by omega
    exact ⟨by decide, by decide, by decide, by decide, by decide⟩
  · exact absurd (show (0 : Int32) = 2 from h) (by decide)
  · exact absurd (show (0 : Int32) = 3 from h) (by decide)
  · have hj1 : j < 1 := hj
    obtain rfl : j = 0 := by omega
    decide
  · exact absurd (show (0 : Int32) = 2 from h) (by decide)
theorem w_X0 (κ : Nat → ClassId) (c0 : Nat) (u : Nat → Nat → Nat) : List.flatten [wO c0 ((u 0) 0) ((u 1) 0) ((u 2) 0) ((u 3) 0) ((u 4) 0), wG κ (u 0) (k_cpt 400 (fun _ => 0) (nI 0) 0) (k_cpt 400 (fun _ => 0) (nI 0) (-1)) (k_cpt 400 (fun _ => 0) (nI 0) (-1)) (k_cpt 400 (fun _ => 0) (nI 0) (-1)) (k_cpt 400 (fun _ => 0) (nI 0) (-1)) (fun _ => 0) (fun _ => 0) 1 0 0, wH κ (u 1) (fun _ => none) 0 0, wR κ (u 2) (fun _ => 0) 0, wL κ (u 3) (fun _ => 0), wE κ (u 4) ((fun _ => 0), (fun _ => 0), 0)] = wX κ c0 (u 0) (u 1) (u 2) (u 3) (u 4) w_v0 := by
  have e : k_rg (fun _ _ => 0) 0 = fun _ => none := funext fun k => if_neg (Nat.not_lt_zero k)
  have e2 : wX κ c0 (u 0) (u 1) (u 2) (u 3) (u 4) w_v0 = List.flatten [wO c0 ((u 0) 0) ((u 1) 0) ((u 2) 0) ((u 3) 0) ((u 4) 0), wG κ (u 0) (k_cpt 400 (fun _ => 0) (nI 0) 0) (k_cpt 400 (fun _ => 0) (nI 0) (-1)) (k_cpt 400 (fun _ => 0) (nI 0) (-1)) (k_cpt 400 (fun _ => 0) (nI 0) (-1)) (k_cpt 400 (fun _ => 0) (nI 0) (-1)) (fun _ => 0) (fun _ => 0) 1 0 0, wH κ (u 1) (k_rg (fun _ _ => 0) 0) 0 0, wR κ (u 2) (fun _ => 0) 0, wL κ (u 3) (fun _ => 0), wE κ (u 4) ((fun _ => 0), (fun _ => 0), 0), []] := rfl
  rw [e2, e]
  simp only [List.flatten_cons, List.flatten_nil, List.append_nil]
set_option maxHeartbeats 4000000 in
set_option maxRecDepth 100000 in
/-- from the entry, for every script of at most 1536 ints, the law comes to its end with true -/
theorem whole_start {p : Program} {e : Env} {s : State} {m : MethodId} {below : List Frame} {meth : Method} {c : Code} (l : Launch) (hflags : l.flags = flags0) {b L : Nat} {xs : Nat → Int32} (hL : L ≤ 1536) (C0 : lw_At p s m meth c b L xs) : W p l e room_1 s m #[Value.ref b] below meth c s.heap [] 0 0 (lw_Z below #[Value.ref b] s) (entryFrame m ([Value.ref b] : List Value).toArray 8) := by
  have C1 := C0
  obtain ⟨hx, hb, hr, hml, hown, hts0, hXs, hbl, hlocks, hgv⟩ := C1
  have hts : ∀ w ∈ wsL_law, w.before #[Value.ref b] s = true := fun w hw => hts0 w (wsL_law_in w hw)
  obtain ⟨D, κ, hK⟩ := w_K hts0
  have hX := w_X hts0 hgv
  have hN := w_NC hgv
  have hAO := w_AO hts0
  have hst := w_st hflags
  have hA : ∀ q : Nat, s.heap.size ≤ q → (fun q : Nat => s.heap.size ≤ q) q := fun _ h => h
  have hown : s.vm.findClass RL = some m.cls := hown
  have hS : va_S (fun q : Nat => s.heap.size ≤ q) s.heap s.heap [] := va_S.rf
  have hP : va_P D vwCl (List.flatten []) s.heap := fun k q h => absurd h (by simp)
  have hD : va_D (fun q : Nat => s.heap.size ≤ q) (List.flatten []) := ⟨fun i j p q h => absurd h (by simp), fun k q h => absurd h (by simp)⟩
  have hl := lv_entry ([.ref b]) (n := 8) (Nat.le_of_ble_eq_true rfl)
  rw [lg_entry_eq]
  generalize (lg_sl ([.ref b]) ++ List.replicate (8 - (lg_sl ([.ref b])).length) Slot.unset).toArray = ls at hl ⊢
  have hl : lv_has ls 8 [(0, .ref b)] := hl
  refine k_new (D := D) (κ := κ) (C := RX6) (T := TX6) (N := 5) (ci := 6) (fs := [.null, .null, .null, .null, .null]) hx hb hts0 inX6 tyX6 tyX6_ok hown (hts0 (.classLink RL 8 RX6) (by decide +kernel)) (hts0 (.instantiable RX6 5) (by decide +kernel)) (hts0 (.initialized RX6) (by decide +kernel)) hK hP hD hS hA rfl (fun j hj => by rcases (show j = 0 ∨ j = 1 ∨ j = 2 ∨ j = 3 ∨ j = 4 by omega) with rfl | rfl | rfl | rfl | rfl <;> rfl) (Nat.le_of_ble_eq_true rfl) (Nat.le_of_ble_eq_true rfl) dL_law_0 (fun q0 H hP hD hS => ?_)
  have hP : va_P D vwCl (List.flatten [wB q0 6 [.null, .null, .null, .null, .null]]) H := hP
  have hD : va_D (fun q : Nat => s.heap.size ≤ q) (List.flatten [wB q0 6 [.null, .null, .null, .null, .null]]) := hD
  refine lv_dup hx hb dL_law_3 rfl ?_
  refine k_cIvO (D := D) (κ := κ) (W0 := [wB q0 6 [.null, .null, .null, .null, .null]]) (Wl := []) (wc := wB q0 6 [.null, .null, .null, .null, .null]) (Wn := fun u => [wX κ q0 (u 0) (u 1) (u 2) (u 3) (u 4) w_v0]) ⟨hx, hb, hml, hown, hts⟩ (c_X6_init l D κ _ q0) (cwI 0 hts gL_law_X6_init rfl rfl rfl (hts0 (.initialized RX6) (by decide +kernel)) (hts0 (.methodLink RL 64 yX6_init) (by decide +kernel)) (hts0 (.instanceMethod yX6_init) (by decide +kernel)) rfl (by decide +kernel) ⟨Nat.le_of_ble_eq_true rfl, Nat.le_of_ble_eq_true rfl⟩) hAO hK hP hD hS hA rfl (fun u => by rw [w_X0]; rfl) (As := []) (rest := [.ref q0]) rfl rfl hl.1 (Nat.le_of_ble_eq_true rfl) dL_law_4 ⟨Nat.le_of_ble_eq_true rfl, Nat.le_of_ble_eq_true rfl⟩ (fun u6 H locs _ hP hD hS => ?_)
  have hP : va_P D vwCl (List.flatten [wX κ q0 (u6 0) (u6 1) (u6 2) (u6 3) (u6 4) w_v0]) H := hP
  have hD : va_D (fun q : Nat => s.heap.size ≤ q) (List.flatten [wX κ q0 (u6 0) (u6 1) (u6 2) (u6 3) (u6 4) w_v0]) := hD
  refine lv_astore_n (lv' := [(1, .ref q0), (0, .ref b)]) hx hb dL_law_7 rfl hl (by decide) rfl (fun ls hl => ?_)
  refine k_new (D := D) (κ := κ) (C := RX7) (T := TX7) (N := 15) (ci := 7) (fs := [.int 0, .null, .null, .null, .null, .int 0, .null, .null, .int 0, .null, .int 0, .null, .int 0, .null, .null]) hx hb hts0 inX7 tyX7 tyX7_ok hown (hts0 (.classLink RL 65 RX7) (by decide +kernel)) (hts0 (.instantiable RX7 15) (by decide +kernel)) (hts0 (.initialized RX7) (by decide +kernel)) hK hP hD hS hA rfl (fun j hj => by rcases (show j = 0 ∨ j = 1 ∨ j = 2 ∨ j = 3 ∨ j = 4 ∨ j = 5 ∨ j = 6 ∨ j = 7 ∨ j = 8 ∨ j = 9 ∨ j = 10 ∨ j = 11 ∨ j = 12 ∨ j = 13 ∨ j = 14 by omega) with rfl | rfl | rfl | rfl | rfl | rfl | rfl | rfl | rfl | rfl | rfl | rfl | rfl | rfl | rfl <;> rfl) (Nat.le_of_ble_eq_true rfl) (Nat.le_of_ble_eq_true rfl) dL_law_8 (fun q7 H hP hD hS => ?_)
  have hP : va_P D vwCl (List.flatten [wX κ q0 (u6 0) (u6 1) (u6 2) (u6 3) (u6 4) w_v0, wB q7 7 [.int 0, .null, .null, .null, .null, .int 0, .null, .null, .int 0, .null, .int 0, .null, .int 0, .null, .null]]) H := hP
  have hD : va_D (fun q : Nat => s.heap.size ≤ q) (List.flatten [wX κ q0 (u6 0) (u6 1) (u6 2) (u6 3) (u6 4) w_v0, wB q7 7 [.int 0, .null, .null, .null, .null, .int 0, .null, .null, .int 0, .null, .int 0, .null, .int 0, .null, .null]]) := hD
  refine lv_dup hx hb dL_law_11 rfl ?_
  refine k_cIv (D := D) (κ := κ) (W0 := [wX κ q0 (u6 0) (u6 1) (u6 2) (u6 3) (u6 4) w_v0, wB q7 7 [.int 0, .null, .null, .null, .null, .int 0, .null, .null, .int 0, .null, .int 0, .null, .int 0, .null, .null]]) (Wl := [wX κ q0 (u6 0) (u6 1) (u6 2) (u6 3) (u6 4) w_v0]) (wc := wB q7 7 [.int 0, .null, .null, .null, .null, .int 0, .null, .null, .int 0, .null, .int 0, .null, .int 0, .null, .null]) (Wn := fun u => [wX κ q0 (u6 0) (u6 1) (u6 2) (u6 3) (u6 4) w_v0, wN κ u 0 w_c0 (fun _ => 0) 0 (fun _ => 0) 0 (fun _ => 0) (fun _ => 0)]) ⟨hx, hb, hml, hown, hts⟩ (c_X7_init l D κ _ q7) (cwI 0 hts gL_law_X7_init rfl rfl rfl (hts0 (.initialized RX7) (by decide +kernel)) (hts0 (.methodLink RL 67 yX7_init) (by decide +kernel)) (hts0 (.instanceMethod yX7_init) (by decide +kernel)) rfl (by decide +kernel) ⟨Nat.le_of_ble_eq_true rfl, Nat.le_of_ble_eq_true rfl⟩) hK hP hD hS hA rfl (fun u => rfl) (As := []) (rest := [.ref q7]) rfl rfl hl.1 (Nat.le_of_ble_eq_true rfl) dL_law_12 ⟨Nat.le_of_ble_eq_true rfl, Nat.le_of_ble_eq_true rfl⟩ (fun u7 H locs hu7 hP7 hD7 hS7 => ?_)
  obtain rfl : q7 = u7 0 := Eq.symm hu7
  have hP : va_P D vwCl (List.flatten [wX κ q0 (u6 0) (u6 1) (u6 2) (u6 3) (u6 4) w_v0, wN κ u7 0 w_c0 (fun _ => 0) 0 (fun _ => 0) 0 (fun _ => 0) (fun _ => 0)]) H := hP7
  have hD : va_D (fun q : Nat => s.heap.size ≤ q) (List.flatten [wX κ q0 (u6 0) (u6 1) (u6 2) (u6 3) (u6 4) w_v0, wN κ u7 0 w_c0 (fun _ => 0) 0 (fun _ => 0) 0 (fun _ => 0) (fun _ => 0)]) := hD7
  have hS : va_S (fun q : Nat => s.heap.size ≤ q) s.heap H locs := hS7
  refine lv_astore_n (lv' := [(2, .ref (u7 0)), (1, .ref q0), (0, .ref b)]) hx hb dL_law_15 rfl hl (by decide) rfl (fun ls hl => ?_)
  refine lv_iconst (v := nI 1) hx hb dL_law_16 (by decide) ?_
  refine k_newl (D := D) (κ := κ) (k := 1) hx hb (hts0 (.arrayClass .long) (by decide +kernel)) hK hP hD hS hA (by decide) (Nat.le_of_ble_eq_true rfl) (Nat.le_of_ble_eq_true rfl) dL_law_17 (fun qo H hP hD hS => ?_)
  refine lv_astore_n (lv' := [(3, .ref qo), (2, .ref (u7 0)), (1, .ref q0), (0, .ref b)]) hx hb dL_law_19 rfl hl (by decide) rfl (fun ls hl => ?_)
  refine lv_iconst (v := nI (3 * 0)) hx hb dL_law_20 (by decide) ?_
  refine lv_istore (lv' := [(4, .int (nI (3 * 0))), (3, .ref qo), (2, .ref (u7 0)), (1, .ref q0), (0, .ref b)]) hx hb dL_law_21 hl (by decide) rfl (fun ls hl => ?_)
  refine W.widen (k := 200 + 24 * 0) (n := 80000 + 2900 * 0) (Nat.le_of_ble_eq_true rfl) (Nat.le_of_ble_eq_true rfl) ?_
  have hP : va_P D vwCl (List.flatten [wJ κ qo 1 (fun _ => 0), wN κ u7 0 w_c0 (fun _ => 0) 0 (fun _ => 0) 0 (fun _ => 0) (fun _ => 0), wX κ q0 (u6 0) (u6 1) (u6 2) (u6 3) (u6 4) w_v0]) H := k_subS (W := [wX κ q0 (u6 0) (u6 1) (u6 2) (u6 3) (u6 4) w_v0, wN κ u7 0 w_c0 (fun _ => 0) 0 (fun _ => 0) 0 (fun _ => 0) (fun _ => 0), wJ κ qo 1 (fun _ => 0)]) hP [2, 1, 0] rfl
  have hD : va_D (fun q : Nat => s.heap.size ≤ q) (List.flatten [wJ κ qo 1 (fun _ => 0), wN κ u7 0 w_c0 (fun _ => 0) 0 (fun _ => 0) 0 (fun _ => 0) (fun _ => 0), wX κ q0 (u6 0) (u6 1) (u6 2) (u6 3) (u6 4) w_v0]) := k_subD (W := [wX κ q0 (u6 0) (u6 1) (u6 2) (u6 3) (u6 4) w_v0, wN κ u7 0 w_c0 (fun _ => 0) 0 (fun _ => 0) 0 (fun _ => 0) (fun _ => 0), wJ κ qo 1 (fun _ => 0)]) hD [2, 1, 0] (by decide) rfl
  exact law_loop hst C0 hK hX hN hL 600 0 (by omega) (by omega) w_v0 w_c0 (fun _ => 0) 0 (fun _ => 0) 0 0 (fun _ => 0) (fun _ => 0) (fun _ => 0) H locs ls w_Z0 hP hD hS (lv_sub hl [4, 3, 2, 1, 0] rfl)
