/-! THE LAW'S LOOP: one step of the script after another -/
set_option maxHeartbeats 4000000 in
set_option maxRecDepth 100000 in
theorem law_loop {p : Program} {l : Launch} {e : Env} {s : State} {m : MethodId} {below : List Frame} {meth : Method} {c : Code} {b L : Nat} {xs : Nat → Int32} {D : va_G} {κ : Nat → ClassId} (hst : l.stackTraces = false) (C0 : lw_At p s m meth c b L xs) (hK : k_K D κ s) (hX : k_X (fun q : Nat => s.heap.size ≤ q) s) (hN : k_NC s) (hL : L ≤ 1536) {q0 qo : Nat} {q qh qr ql qe qm : Nat → Nat} : ∀ (n t : Nat), t + n = 600 → 3 * t ≤ L → w_go p l e s m below meth c b D κ t q0 qo q qh qr ql qe qm (200 + 24 * t) (80000 + 2900 * t) 23
  | 0, t, h1, h2 => by omega
  | n + 1, t, h1, h2 => by
    intro v kc cp cn rm kn th lvm be fo H locs ls hZ hP hD hS hl
    have C1 := C0
    obtain ⟨hx, hb, hr, hml, hown, hts, hXs, hbl, hlocks, hgv⟩ := C1
    have hbA : ¬ (fun q : Nat => s.heap.size ≤ q) b := Nat.not_le.mpr hbl
    refine lv_iload hx hb dL_law_23 (lv_at hl 4 rfl) ?_
    refine lv_aload_n hx hb dL_law_25 rfl (lv_at hl 0 rfl) ?_
    refine va_slen hx hb hXs hbl hbA hS dL_law_26 ?_
    refine lv_iconst (v := 3) hx hb dL_law_27 (by decide) ?_
    refine lv_isub hx hb dL_law_28 ?_
    refine lv_icmp_gt (tgt := 1064) hx hb dL_law_29 (by decide) (fun c_29 => ?_) (fun c_29 => ?_)
    · refine va_forget (fun q hq => hS.2.2 q hq) ?_
      refine W.widen (k := 601024) (n := 7293034) (by omega) (by omega) ?_
      refine lv_iconst (v := 1) hx hb dL_law_1064 (by decide) ?_
      exact lw_ret hx hb hr hlocks dL_law_1065
    · have ht : 3 * t + 3 ≤ L := by
        have h9 : ¬ nI L - nI 3 < nI (3 * t) := c_29
        rw [Int32.lt_iff_toInt_lt, pk_sub_toInt (by omega) (by omega), nI_toInt (by omega)] at h9
        omega
      refine lv_aload_n hx hb dL_law_32 rfl (lv_at hl 0 rfl) ?_
      refine lv_iload hx hb dL_law_33 (lv_at hl 4 rfl) ?_
      refine va_sld hx hb hXs hbl hbA hS (vp_in_nI (show (3 * t) < L by omega) (by omega)) dL_law_35 ?_
      refine lv_bipush (v := 31) hx hb dL_law_36 (by decide) ?_
      refine lv_iand hx hb dL_law_38 ?_
      obtain ⟨j, hj, ej⟩ := pk_andE (xs (nI (3 * t)).toNatClampNeg) 5 (m := 31) (by decide)
      rw [ej]
      have hj2 : j < 32 := hj
      have ej2 : (nI j).toInt = (j : Int) := nI_toInt (by omega)
      have kk : w_go p l e s m below meth c b D κ t q0 qo q qh qr ql qe qm (200 + 24 * t + 24) (80000 + 2900 * t + 2900) 1058 := by
        intro v kc cp cn rm kn th lvm be fo H locs ls hZ hP hD hS hl
        have e1 : 200 + 24 * t + 24 = 200 + 24 * (t + 1) := by omega
        have e2 : 80000 + 2900 * t + 2900 = 80000 + 2900 * (t + 1) := by omega
        rw [e1, e2]
        refine lv_iinc (v := nI (3 * (t + 1))) (lv' := [(4, .int (nI (3 * (t + 1)))), (0, .ref b), (1, .ref q0), (2, .ref (qm 0)), (3, .ref qo)]) (k := 4) hx hb dL_law_1058 hl rfl (by show nI (3 * t) + nI 3 = _; rw [nI_add]; rfl) (by decide) rfl (fun ls hl => ?_)
        refine lv_goto (tgt := 23) hx hb dL_law_1061 (by decide) ?_
        exact law_loop hst C0 hK hX hN hL n (t + 1) (by omega) (by omega) v kc cp cn rm kn th lvm be fo H locs ls hZ hP hD hS (lv_sub hl [1, 2, 3, 4, 0] rfl)
      obtain ⟨⟨so, le, gr, ne, si, ou, bo, n9, om, ob⟩, ⟨cs, gs, made, pl, kp⟩, ro, wo, lv, e0⟩ := v
      by_cases h18 : j < 18
      · rcases (show j = 0 ∨ j = 1 ∨ j = 2 ∨ j = 3 ∨ j = 4 ∨ j = 5 ∨ j = 6 ∨ j = 7 ∨ j = 8 ∨ j = 9 ∨ j = 10 ∨ j = 11 ∨ j = 12 ∨ j = 13 ∨ j = 14 ∨ j = 15 ∨ j = 16 ∨ j = 17 by omega) with rfl | rfl | rfl | rfl | rfl | rfl | rfl | rfl | rfl | rfl | rfl | rfl | rfl | rfl | rfl | rfl | rfl | rfl
        · exact lv_tableIn (off := 85) (tgt := 124) hx hb dL_law_39 (by decide) (by decide) (by decide) (by decide) (law_c_input hst C0 hK hX hN hL ht hZ hP hD hS hl kk)
        · exact lv_tableIn (off := 129) (tgt := 168) hx hb dL_law_39 (by decide) (by decide) (by decide) (by decide) (law_c_and hst C0 hK hX hN hL ht hZ hP hD hS hl kk)
        · exact lv_tableIn (off := 197) (tgt := 236) hx hb dL_law_39 (by decide) (by decide) (by decide) (by decide) (law_c_output hst C0 hK hX hN hL ht hZ hP hD hS hl kk)
        · exact lv_tableIn (off := 253) (tgt := 292) hx hb dL_law_39 (by decide) (by decide) (by decide) (by decide) (law_c_outputAt hst C0 hK hX hN hL ht hZ hP hD hS hl kk)
        · exact lv_tableIn (off := 309) (tgt := 348) hx hb dL_law_39 (by decide) (by decide) (by decide) (by decide) (law_c_latch hst C0 hK hX hN hL ht hZ hP hD hS hl kk)
        · exact lv_tableIn (off := 365) (tgt := 404) hx hb dL_law_39 (by decide) (by decide) (by decide) (by decide) (law_c_next hst C0 hK hX hN hL ht hZ hP hD hS hl kk)
        · exact lv_tableIn (off := 440) (tgt := 479) hx hb dL_law_39 (by decide) (by decide) (by decide) (by decide) (law_c_nextOf hst C0 hK hX hN hL ht hZ hP hD hS hl kk)
        · exact lv_tableIn (off := 496) (tgt := 535) hx hb dL_law_39 (by decide) (by decide) (by decide) (by decide) (law_c_box hst C0 hK hX hN hL ht hZ hP hD hS hl kk)
        · exact lv_tableIn (off := 564) (tgt := 603) hx hb dL_law_39 (by decide) (by decide) (by decide) (by decide) (law_c_replace hst C0 hK hX hN hL ht hZ hP hD hS hl kk)
        · exact lv_tableIn (off := 632) (tgt := 671) hx hb dL_law_39 (by decide) (by decide) (by decide) (by decide) (law_c_sweep hst C0 hK hX hN hL ht hZ hP hD hS hl kk)
        · exact lv_tableIn (off := 645) (tgt := 684) hx hb dL_law_39 (by decide) (by decide) (by decide) (by decide) (law_c_undo hst C0 hK hX hN hL ht hZ hP hD hS hl kk)
        · exact lv_tableIn (off := 658) (tgt := 697) hx hb dL_law_39 (by decide) (by decide) (by decide) (by decide) (law_c_simulate hst C0 hK hX hN hL ht hZ hP hD hS hl kk)
        · exact lv_tableIn (off := 715) (tgt := 754) hx hb dL_law_39 (by decide) (by decide) (by decide) (by decide) (law_c_row hst C0 hK hX hN hL ht hZ hP hD hS hl kk)
        · exact lv_tableIn (off := 770) (tgt := 809) hx hb dL_law_39 (by decide) (by decide) (by decide) (by decide) (law_c_level hst C0 hK hX hN hL ht hZ hP hD hS hl kk)
        · exact lv_tableIn (off := 826) (tgt := 865) hx hb dL_law_39 (by decide) (by decide) (by decide) (by decide) (law_c_fan hst C0 hK hX hN hL ht hZ hP hD hS hl kk)
        · exact lv_tableIn (off := 882) (tgt := 921) hx hb dL_law_39 (by decide) (by decide) (by decide) (by decide) (law_c_node hst C0 hK hX hN hL ht hZ hP hD hS hl kk)
        · exact lv_tableIn (off := 950) (tgt := 989) hx hb dL_law_39 (by decide) (by decide) (by decide) (by decide) (law_c_size hst C0 hK hX hN hL ht hZ hP hD hS hl kk)
        · exact lv_tableIn (off := 963) (tgt := 1002) hx hb dL_law_39 (by decide) (by decide) (by decide) (by decide) (law_c_count hst C0 hK hX hN hL ht hZ hP hD hS hl kk)
      · refine lv_tableOut (tgt := 1058) hx hb dL_law_39 (Or.inr (by rw [ej2]; omega)) (by decide) ?_
        refine W.widen (k := 200 + 24 * t + 24) (n := 80000 + 2900 * t + 2900) (by omega) (by omega) ?_
        exact kk _ kc cp cn rm kn th lvm be fo H locs ls hZ hP hD hS hl
