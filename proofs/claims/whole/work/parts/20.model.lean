/-! THE REFERENCE: its state in numbers -/
abbrev KC : Type := (Nat → Int32) × (Nat → Nat) × (Nat → Nat) × (Nat → Int32) × Nat × (Nat → Nat) × (Nat → Int32) × Nat
abbrev mso (c : KC) : Nat → Int32 := c.1
abbrev mon (c : KC) : Nat → Nat := c.2.1
abbrev mtw (c : KC) : Nat → Nat := c.2.2.1
abbrev mst (c : KC) : Nat → Int32 := c.2.2.2.1
abbrev mnd (c : KC) : Nat := c.2.2.2.2.1
abbrev mou (c : KC) : Nat → Nat := c.2.2.2.2.2.1
abbrev mbo (c : KC) : Nat → Int32 := c.2.2.2.2.2.2.1
abbrev moc (c : KC) : Nat := c.2.2.2.2.2.2.2
def wN (κ : Nat → ClassId) (q : Nat → Nat) (th : Int32) (c : KC) (cp : Nat → Int32) (cn : Nat) (ro : Nat → Int64) (kn : Int32) (lv be : Nat → Int32) : va_W := [(q 0, .inr (7, [.int th, .ref (q 1), .ref (q 2), .ref (q 3), .ref (q 4), .int (nI (mnd c)), .ref (q 5), .ref (q 6), .int (nI (moc c)), .ref (q 7), .int (nI cn), .ref (q 8), .int kn, .ref (q 9), .ref (q 10)])), (q 1, .inl (κ 0, 400, .inl (mso c))), (q 2, .inl (κ 0, 400, .inl (fun j => nI (mon c j)))), (q 3, .inl (κ 0, 400, .inl (fun j => nI (mtw c j)))), (q 4, .inl (κ 0, 400, .inl (mst c))), (q 5, .inl (κ 0, 40, .inl (fun j => nI (mou c j)))), (q 6, .inl (κ 2, 40, .inl (mbo c))), (q 7, .inl (κ 0, 63000, .inl cp)), (q 8, .inl (κ 1, 400, .inr (.inl ro))), (q 9, .inl (κ 0, 400, .inl lv)), (q 10, .inl (κ 2, 400, .inl be))]
def k_un (f : Nat → Nat) (i x : Nat) : Nat → Nat := fun j => if j = i then x else f j
theorem k_un_eq (f : Nat → Nat) (i x : Nat) : upd (fun j => nI (f j)) i (nI x) = fun j => nI (k_un f i x j) := by
  funext j
  by_cases h : j = i
  · subst h; rw [pk_us]; simp [k_un]
  · rw [pk_un h]; simp [k_un, h]
section KAN
variable {p : Program} {l : Launch} {e : Env} {R : Room} {s : State} {m : MethodId} {args : Array Value} {below : List Frame} {meth : Method} {c : Code} {H H0 : Heap} {locs : List Loc} {cells slots : Nat} {Q : State → Prop} {A : Nat → Prop}
variable {cc : ByteArray} {pc a : Nat} {ls : Array Slot} {rest : List Value} {D : va_G} {cl : List vw_C} {tys : List (ClassId × FieldType)} {ws : va_W}
theorem k_iastN {j x : Nat} (hexec : p.tables.exec = Jvm.exec) (hb : c.code = cc) (hK : va_K D cl tys s) (hP : va_P D cl ws H) (hD : va_D A ws) (hS : va_S A H0 H locs) (q0 t0 : Nat) {cA : ClassId} {n : Nat} {f : Nat → Nat} (ha : ws[q0]? = some (a, .inl (cA, n, .inl (fun j => nI (f j))))) (ht : tys[t0]? = some (cA, .int)) (hj : j < n) (hn : n < 2 ^ 31) (hdg : decode cc pc = .ok (.iastore, 1))
    (kk : ∀ (H1 : Heap) (locs1 : List Loc), va_P D cl (ws.set q0 (a, .inl (cA, n, .inl (fun i => nI (k_un f j x i))))) H1 → va_D A (ws.set q0 (a, .inl (cA, n, .inl (fun i => nI (k_un f j x i))))) → va_S A H0 H1 locs1 → W p l e R s m args below meth c H1 locs1 cells slots Q (F0 m (pc + 1) ls rest)) : W p l e R s m args below meth c H locs cells slots Q (F0 m pc ls (.int (nI x) :: .int (nI j) :: .ref a :: rest)) :=
  k_iast hexec hb hK hP hD hS q0 t0 ha ht hj hn hdg (by rw [k_un_eq]; exact kk)
end KAN
/-- a sweep again and again, until it reports nothing -/
def k_it {σ : Type} (F : σ → Int32 × σ) : Nat → Int32 → σ → σ
  | 0, _, x => x
  | k + 1, z, x => if z = 0 then x else k_it F k (F x).1 (F x).2
termination_by k => k
/-- within k of them it stops, and at each of its states P holds -/
def k_itF {σ : Type} (F : σ → Int32 × σ) (P : σ → Prop) : Nat → Int32 → σ → Prop
  | 0, z, x => z = 0 ∧ P x
  | k + 1, z, x => P x ∧ (z = 0 ∨ k_itF F P k (F x).1 (F x).2)
def m_was (n : Nat) (x : Int32) : Int32 := if x < 0 then 0 else if nI n ≤ x then 0 else 1
theorem m_was_nI {n a : Nat} (hn : n ≤ 400) (ha : a < 2 ^ 31) : m_was n (nI a) = if a < n then 1 else 0 := by
  unfold m_was
  rw [if_neg (nI_pos ha)]
  by_cases h : a < n
  · rw [if_neg (fun h2 => absurd ((nI_leI (by omega) ha).mp h2) (by omega)), if_pos h]
  · rw [if_pos ((nI_leI (by omega) ha).mpr (by omega)), if_neg h]
def m_wrong (c : KC) (x : Int32) : Int32 := if x < 0 then 1 else if m_was (mnd c) (nI (x.toNatClampNeg / 2)) = 0 then 1 else if mso c (x.toNatClampNeg / 2) = 5 then 2 else 0
def m_wl (c : KC) (x : Int32) : Int32 := if x < 0 then 1 else if m_was (mnd c) (nI (x.toNatClampNeg / 2)) = 0 then 1 else if mso c (x.toNatClampNeg / 2) = 3 then 0 else 2
def m_new (z : Int32) (a b : Nat) (c : KC) : KC := (upd (mso c) (mnd c) z, k_un (mon c) (mnd c) a, k_un (mtw c) (mnd c) b, upd (mst c) (mnd c) (-1), mnd c + 1, mou c, mbo c, moc c)
def m_leave (i : Nat) (x : Int32) (c : KC) : KC := (upd (mso c) i 5, mon c, mtw c, upd (mst c) i x, mnd c, mou c, mbo c, moc c)
def m_isRep (c : KC) (a : Nat) : Int32 := if mso c (a / 2) = 5 then 1 else 0
/-- a literal's next stand-in -/
def m_stS (c : KC) (a : Nat) : Int32 := mst c (a / 2) ^^^ (nI a &&& 1)
def m_stop (c : KC) (a : Nat) : Prop := mso c (a / 2) ≠ 5 ∨ mst c (a / 2) < 0
def m_st (c : KC) : Nat → Nat → Nat
  | 0, a => a
  | k + 1, a => if mso c (a / 2) = 5 then (if mst c (a / 2) < 0 then a else m_st c k (m_stS c a).toNatClampNeg) else a
termination_by k => k
def m_stF (c : KC) : Nat → Nat → Prop
  | 0, a => a < 2 * mnd c ∧ m_stop c a
  | k + 1, a => a < 2 * mnd c ∧ (m_stop c a ∨ (m_stS c a = nI (m_stS c a).toNatClampNeg ∧ m_stF c k (m_stS c a).toNatClampNeg))
def m_hit (c : KC) (a b : Nat) (w : Int32) (i : Nat) : Int32 := (if (mso c) i = 2 then if nI i = w then 0 else if ((mon c) i) = a then if ((mtw c) i) = b then 1 else if ((mon c) i) = b then if ((mtw c) i) = a then 1 else 0 else 0 else if ((mon c) i) = b then if ((mtw c) i) = a then 1 else 0 else 0 else 0)
def m_sa (c : KC) (a b : Nat) (w : Int32) : Nat → Nat → Int32
  | 0, _ => -1
  | k + 1, i => if m_hit c a b w i = 0 then m_sa c a b w k (i + 1) else nI (2 * i)
def m_simple (c : KC) (a b : Nat) (w : Int32) : Int32 := if a = b then nI a else if a / 2 = b / 2 then 0 else if a = 0 then 0 else if b = 0 then 0 else if a = 1 then nI b else if b = 1 then nI a else m_sa c a b w (mnd c) 0
def m_cnt (c : KC) (x : Int32) : Nat → Int32
  | 0 => 0
  | i + 1 => if mso c i = x then m_cnt c x i + 1 else m_cnt c x i
def m_gr (lv : Nat → Int32) : Nat → Int32
  | 0 => 0
  | i + 1 => if m_gr lv i < lv i then lv i else m_gr lv i
def m_rowOf (ro : Nat → Int64) (a : Nat) : Int64 := if a % 2 = 0 then ro (a / 2) else ro (a / 2) ^^^ (-1)
def m_mix (sd k : Int64) : Int64 := (fun z : Int64 => z ^^^ k_lushr z 31) ((fun z : Int64 => (z ^^^ k_lushr z 27) * (-7723592293110705685)) ((fun z : Int64 => (z ^^^ k_lushr z 30) * (-4658895280553007687)) (sd + (k + 1) * (-7046029254386353131))))
theorem iwX7_thrown_7 : ∀ w ∈ wsX70, w ∈ wsX7_thrown := by decide +kernel
set_option maxHeartbeats 4000000 in
set_option maxRecDepth 100000 in
theorem c_X7_thrown (l : Launch) (D : va_G) (κ : Nat → ClassId) (q : Nat → Nat) (th : Int32) (kc : KC) (cp : Nat → Int32) (cn : Nat) (ro : Nat → Int64) (kn : Int32) (lv be : Nat → Int32)  (hnd : mnd kc ≤ 400) (hoc : moc kc ≤ 40) (hcn : cn ≤ 30) : k_roi l yX7_thrown wsX7_thrown 0 0 D κ [.ref (q 0)] (wN κ q th kc cp cn ro kn lv be) (fun r => r = th) := by
  refine Met.ofW (cc := cX7_thrown) (maxL := 1) (ret := (some .int)) (by decide) rfl ?_
  intro p e s m args below meth c s₁ B hml hv
  obtain ⟨rfl, hK, hP⟩ := hv
  have hx := B.exec
  have hb := B.bytes
  have hr := B.returns
  have hts := atoms_spec (ws := wsX7_thrown) B.pre
  have hown : s.vm.findClass RX7 = some m.cls := findClass_of_methodNamed B.named
  have hlocks := B.notSynchronized
  have hP : va_P D vwCl (wN κ q th kc cp cn ro kn lv be) s.heap := hP
  have hl := lv_entry ([.ref (q 0)]) (n := 1) (Nat.le_of_ble_eq_true rfl)
  rw [lg_entry_eq]
  generalize (lg_sl ([.ref (q 0)]) ++ List.replicate (1 - (lg_sl ([.ref (q 0)])).length) Slot.unset).toArray = ls at hl ⊢
  have hl : lv_has ls 1 [(0, .ref (q 0))] := hl
  refine lv_aload_n hx hb dX7_thrown_0 rfl (lv_at hl 0 rfl) ?_
  refine va_get (D := D) (ci := 7) (v := .int th) (C := RX7) (T := TX7) (N := 15) hx hb hts (iwX7_thrown_7) hown hK.1 hP 0 rfl rfl 0 (by decide) (hts (.fieldLink RX7 47 "InverterGraphsModel" "thrown" "I") (by decide +kernel)) (fun _ h9 => h9) rfl dX7_thrown_1 ?_
  exact W.iret (v := th) hx hb hr (fun t ht _ => ⟨th, rfl, rfl, ht⟩) (fun _ h9 => nomatch h9) dX7_thrown_4
theorem iwX7_was_7 : ∀ w ∈ wsX70, w ∈ wsX7_was := by decide +kernel
set_option maxHeartbeats 4000000 in
set_option maxRecDepth 100000 in
theorem c_X7_was (l : Launch) (D : va_G) (κ : Nat → ClassId) (q : Nat → Nat) (th : Int32) (kc : KC) (cp : Nat → Int32) (cn : Nat) (ro : Nat → Int64) (kn : Int32) (lv be : Nat → Int32) (p0 : Int32) (hnd : mnd kc ≤ 400) (hoc : moc kc ≤ 40) (hcn : cn ≤ 30) : k_roi l yX7_was wsX7_was 0 0 D κ [.ref (q 0), .int p0] (wN κ q th kc cp cn ro kn lv be) (fun r => r = m_was (mnd kc) p0) := by
  refine Met.ofW (cc := cX7_was) (maxL := 2) (ret := (some .boolean)) (by decide) rfl ?_
  intro p e s m args below meth c s₁ B hml hv
  obtain ⟨rfl, hK, hP⟩ := hv
  have hx := B.exec
  have hb := B.bytes
  have hr := B.returns
  have hts := atoms_spec (ws := wsX7_was) B.pre
  have hown : s.vm.findClass RX7 = some m.cls := findClass_of_methodNamed B.named
  have hlocks := B.notSynchronized
  have hP : va_P D vwCl (wN κ q th kc cp cn ro kn lv be) s.heap := hP
  have hl := lv_entry ([.ref (q 0), .int p0]) (n := 2) (Nat.le_of_ble_eq_true rfl)
  rw [lg_entry_eq]
  generalize (lg_sl ([.ref (q 0), .int p0]) ++ List.replicate (2 - (lg_sl ([.ref (q 0), .int p0])).length) Slot.unset).toArray = ls at hl ⊢
  have hl : lv_has ls 2 [(0, .ref (q 0)), (1, .int p0)] := hl
  refine lv_iload_n hx hb dX7_was_0 rfl (lv_at hl 1 rfl) ?_
  refine lv_if_lt (tgt := 16) hx hb dX7_was_1 (by decide) (fun c_1 => ?_) (fun c_1 => ?_)
  · skip
    refine lv_iconst (v := 0) hx hb dX7_was_16 (by decide) ?_
    exact W.zret (ty := .boolean) (v := 0) hx hb hr rfl (fun t ht _ => ⟨0, rfl, (by unfold m_was; rw [if_pos c_1]), ht⟩) (fun _ h9 => nomatch h9) dX7_was_17
  · skip
    refine lv_iload_n hx hb dX7_was_4 rfl (lv_at hl 1 rfl) ?_
    refine lv_aload_n hx hb dX7_was_5 rfl (lv_at hl 0 rfl) ?_
    refine va_get (D := D) (ci := 7) (v := .int (nI (mnd kc))) (C := RX7) (T := TX7) (N := 15) hx hb hts (iwX7_was_7) hown hK.1 hP 0 rfl rfl 5 (by decide) (hts (.fieldLink RX7 43 "InverterGraphsModel" "nodes" "I") (by decide +kernel)) (fun _ h9 => h9) rfl dX7_was_6 ?_
    refine lv_icmp_ge (tgt := 16) hx hb dX7_was_9 (by decide) (fun c_9 => ?_) (fun c_9 => ?_)
    · skip
      refine lv_iconst (v := 0) hx hb dX7_was_16 (by decide) ?_
      exact W.zret (ty := .boolean) (v := 0) hx hb hr rfl (fun t ht _ => ⟨0, rfl, (by unfold m_was; rw [if_neg c_1, if_pos c_9]), ht⟩) (fun _ h9 => nomatch h9) dX7_was_17
    · skip
      refine lv_iconst (v := 1) hx hb dX7_was_12 (by decide) ?_
      refine lv_goto (tgt := 17) hx hb dX7_was_13 (by decide) ?_
      exact W.zret (ty := .boolean) (v := 1) hx hb hr rfl (fun t ht _ => ⟨1, rfl, (by unfold m_was; rw [if_neg c_1, if_neg c_9]), ht⟩) (fun _ h9 => nomatch h9) dX7_was_17
theorem iwX7_wrong_7 : ∀ w ∈ wsX70, w ∈ wsX7_wrong := by decide +kernel
set_option maxHeartbeats 4000000 in
set_option maxRecDepth 100000 in
theorem c_X7_wrong (l : Launch) (D : va_G) (κ : Nat → ClassId) (q : Nat → Nat) (th : Int32) (kc : KC) (cp : Nat → Int32) (cn : Nat) (ro : Nat → Int64) (kn : Int32) (lv be : Nat → Int32) (p0 : Int32) (hnd : mnd kc ≤ 400) (hoc : moc kc ≤ 40) (hcn : cn ≤ 30) : k_roi l yX7_wrong wsX7_wrong 1 21 D κ [.ref (q 0), .int p0] (wN κ q th kc cp cn ro kn lv be) (fun r => r = m_wrong kc p0) := by
  refine Met.ofW (cc := cX7_wrong) (maxL := 2) (ret := (some .int)) (by decide) rfl ?_
  intro p e s m args below meth c s₁ B hml hv
  obtain ⟨rfl, hK, hP⟩ := hv
  have hx := B.exec
  have hb := B.bytes
  have hr := B.returns
  have hts := atoms_spec (ws := wsX7_wrong) B.pre
  have hown : s.vm.findClass RX7 = some m.cls := findClass_of_methodNamed B.named
  have hlocks := B.notSynchronized
  have hP : va_P D vwCl (wN κ q th kc cp cn ro kn lv be) s.heap := hP
  have hl := lv_entry ([.ref (q 0), .int p0]) (n := 2) (Nat.le_of_ble_eq_true rfl)
  rw [lg_entry_eq]
  generalize (lg_sl ([.ref (q 0), .int p0]) ++ List.replicate (2 - (lg_sl ([.ref (q 0), .int p0])).length) Slot.unset).toArray = ls at hl ⊢
  have hl : lv_has ls 2 [(0, .ref (q 0)), (1, .int p0)] := hl
  refine lv_iload_n hx hb dX7_wrong_0 rfl (lv_at hl 1 rfl) ?_
  refine lv_if_lt (tgt := 14) hx hb dX7_wrong_1 (by decide) (fun c_1 => ?_) (fun c_1 => ?_)
  · skip
    refine lv_iconst (v := 1) hx hb dX7_wrong_14 (by decide) ?_
    refine lv_goto (tgt := 35) hx hb dX7_wrong_15 (by decide) ?_
    exact W.iret (v := 1) hx hb hr (fun t ht _ => ⟨1, rfl, (by unfold m_wrong; rw [if_pos c_1]), ht⟩) (fun _ h9 => nomatch h9) dX7_wrong_35
  · skip
    obtain ⟨a, ha, rfl⟩ := nI_of c_1
    refine lv_aload_n hx hb dX7_wrong_4 rfl (lv_at hl 0 rfl) ?_
    refine lv_iload_n hx hb dX7_wrong_5 rfl (lv_at hl 1 rfl) ?_
    refine lv_iconst (v := 2) hx hb dX7_wrong_6 (by decide) ?_
    refine lv_idiv hx hb dX7_wrong_7 (by decide) ?_
    refine lv_topi (nm_r (pk_div (a := a) (d := 2) (by omega) (by omega) (by omega)) ?_)
    refine k_cRO (D := D) (κ := κ) (qc := (RX7, TX7, 15)) (ci := 7) (q0 := 0) ⟨hx, hb, hml, hown, hts⟩ (c_X7_was l D κ q th kc cp cn ro kn lv be (nI (a / 2)) (by omega) (by omega) (by omega) ) (cwV 1 hts gX7_wrong_X7_was rfl rfl rfl (by decide +kernel) ⟨Nat.le_of_ble_eq_true rfl, Nat.le_of_ble_eq_true rfl⟩) hK hP rfl rfl (As := [.int (nI (a / 2))]) (rest := []) rfl rfl hl.1 (Nat.le_of_ble_eq_true rfl) dX7_wrong_8 ⟨Nat.le_of_ble_eq_true rfl, Nat.le_of_ble_eq_true rfl⟩ (fun r hr => ?_)
    subst hr
    refine lv_if_ne (tgt := 18) hx hb dX7_wrong_11 (by decide) (fun c_11 => ?_) (fun c_11 => ?_)
    · skip
      rw [m_was_nI hnd (by omega)] at c_11
      have ha2 : a / 2 < mnd kc := by by_cases h9 : a / 2 < mnd kc; exact h9; rw [if_neg h9] at c_11; exact absurd rfl c_11
      have h11 : ¬ m_was (mnd kc) (nI (a / 2)) = 0 := by rw [m_was_nI hnd (by omega), if_pos ha2]; decide
      refine lv_aload_n hx hb dX7_wrong_18 rfl (lv_at hl 0 rfl) ?_
      refine va_get (D := D) (ci := 7) (v := .ref (q 1)) (C := RX7) (T := TX7) (N := 15) hx hb hts (iwX7_wrong_7) hown hK.1 hP 0 rfl rfl 1 (by decide) (hts (.fieldLink RX7 7 "InverterGraphsModel" "sorts" "[I") (by decide +kernel)) (fun _ h9 => h9) rfl dX7_wrong_19 ?_
      refine lv_iload_n hx hb dX7_wrong_22 rfl (lv_at hl 1 rfl) ?_
      refine lv_iconst (v := 2) hx hb dX7_wrong_23 (by decide) ?_
      refine lv_idiv hx hb dX7_wrong_24 (by decide) ?_
      refine lv_topi (nm_r (pk_div (a := a) (d := 2) (by omega) (by omega) (by omega)) ?_)
      refine k_iald (D := D) (j := a / 2) hx hb hK.1 hP 1 0 rfl rfl (by omega) (by omega) dX7_wrong_25 ?_
      refine lv_iconst (v := 5) hx hb dX7_wrong_26 (by decide) ?_
      refine lv_icmp_ne (tgt := 34) hx hb dX7_wrong_27 (by decide) (fun c_27 => ?_) (fun c_27 => ?_)
      · skip
        refine lv_iconst (v := 0) hx hb dX7_wrong_34 (by decide) ?_
        exact W.iret (v := 0) hx hb hr (fun t ht _ => ⟨0, rfl, (by unfold m_wrong; rw [if_neg (nI_pos ha), nI_clamp ha, if_neg h11, if_neg c_27]), ht⟩) (fun _ h9 => nomatch h9) dX7_wrong_35
      · skip
        refine lv_iconst (v := 2) hx hb dX7_wrong_30 (by decide) ?_
        refine lv_goto (tgt := 35) hx hb dX7_wrong_31 (by decide) ?_
        exact W.iret (v := 2) hx hb hr (fun t ht _ => ⟨2, rfl, (by unfold m_wrong; rw [if_neg (nI_pos ha), nI_clamp ha, if_neg h11, if_pos c_27]), ht⟩) (fun _ h9 => nomatch h9) dX7_wrong_35
    · skip
      refine lv_iconst (v := 1) hx hb dX7_wrong_14 (by decide) ?_
      refine lv_goto (tgt := 35) hx hb dX7_wrong_15 (by decide) ?_
      exact W.iret (v := 1) hx hb hr (fun t ht _ => ⟨1, rfl, (by unfold m_wrong; rw [if_neg (nI_pos ha), nI_clamp ha, if_pos c_11]), ht⟩) (fun _ h9 => nomatch h9) dX7_wrong_35
theorem iwX7_wrongLatch_7 : ∀ w ∈ wsX70, w ∈ wsX7_wrongLatch := by decide +kernel
set_option maxHeartbeats 4000000 in
set_option maxRecDepth 100000 in
theorem c_X7_wrongLatch (l : Launch) (D : va_G) (κ : Nat → ClassId) (q : Nat → Nat) (th : Int32) (kc : KC) (cp : Nat → Int32) (cn : Nat) (ro : Nat → Int64) (kn : Int32) (lv be : Nat → Int32) (p0 : Int32) (hnd : mnd kc ≤ 400) (hoc : moc kc ≤ 40) (hcn : cn ≤ 30) : k_roi l yX7_wrongLatch wsX7_wrongLatch 1 21 D κ [.ref (q 0), .int p0] (wN κ q th kc cp cn ro kn lv be) (fun r => r = m_wl kc p0) := by
  refine Met.ofW (cc := cX7_wrongLatch) (maxL := 2) (ret := (some .int)) (by decide) rfl ?_
  intro p e s m args below meth c s₁ B hml hv
  obtain ⟨rfl, hK, hP⟩ := hv
  have hx := B.exec
  have hb := B.bytes
  have hr := B.returns
  have hts := atoms_spec (ws := wsX7_wrongLatch) B.pre
  have hown : s.vm.findClass RX7 = some m.cls := findClass_of_methodNamed B.named
  have hlocks := B.notSynchronized
  have hP : va_P D vwCl (wN κ q th kc cp cn ro kn lv be) s.heap := hP
  have hl := lv_entry ([.ref (q 0), .int p0]) (n := 2) (Nat.le_of_ble_eq_true rfl)
  rw [lg_entry_eq]
  generalize (lg_sl ([.ref (q 0), .int p0]) ++ List.replicate (2 - (lg_sl ([.ref (q 0), .int p0])).length) Slot.unset).toArray = ls at hl ⊢
  have hl : lv_has ls 2 [(0, .ref (q 0)), (1, .int p0)] := hl
  refine lv_iload_n hx hb dX7_wrongLatch_0 rfl (lv_at hl 1 rfl) ?_
  refine lv_if_lt (tgt := 14) hx hb dX7_wrongLatch_1 (by decide) (fun c_1 => ?_) (fun c_1 => ?_)
  · skip
    refine lv_iconst (v := 1) hx hb dX7_wrongLatch_14 (by decide) ?_
    refine lv_goto (tgt := 35) hx hb dX7_wrongLatch_15 (by decide) ?_
    exact W.iret (v := 1) hx hb hr (fun t ht _ => ⟨1, rfl, (by unfold m_wl; rw [if_pos c_1]), ht⟩) (fun _ h9 => nomatch h9) dX7_wrongLatch_35
  · skip
    obtain ⟨a, ha, rfl⟩ := nI_of c_1
    refine lv_aload_n hx hb dX7_wrongLatch_4 rfl (lv_at hl 0 rfl) ?_
    refine lv_iload_n hx hb dX7_wrongLatch_5 rfl (lv_at hl 1 rfl) ?_
    refine lv_iconst (v := 2) hx hb dX7_wrongLatch_6 (by decide) ?_
    refine lv_idiv hx hb dX7_wrongLatch_7 (by decide) ?_
    refine lv_topi (nm_r (pk_div (a := a) (d := 2) (by omega) (by omega) (by omega)) ?_)
    refine k_cRO (D := D) (κ := κ) (qc := (RX7, TX7, 15)) (ci := 7) (q0 := 0) ⟨hx, hb, hml, hown, hts⟩ (c_X7_was l D κ q th kc cp cn ro kn lv be (nI (a / 2)) (by omega) (by omega) (by omega) ) (cwV 1 hts gX7_wrongLatch_X7_was rfl rfl rfl (by decide +kernel) ⟨Nat.le_of_ble_eq_true rfl, Nat.le_of_ble_eq_true rfl⟩) hK hP rfl rfl (As := [.int (nI (a / 2))]) (rest := []) rfl rfl hl.1 (Nat.le_of_ble_eq_true rfl) dX7_wrongLatch_8 ⟨Nat.le_of_ble_eq_true rfl, Nat.le_of_ble_eq_true rfl⟩ (fun r hr => ?_)
    subst hr
    refine lv_if_ne (tgt := 18) hx hb dX7_wrongLatch_11 (by decide) (fun c_11 => ?_) (fun c_11 => ?_)
    · skip
      rw [m_was_nI hnd (by omega)] at c_11
      have ha2 : a / 2 < mnd kc := by by_cases h9 : a / 2 < mnd kc; exact h9; rw [if_neg h9] at c_11; exact absurd rfl c_11
      have h11 : ¬ m_was (mnd kc) (nI (a / 2)) = 0 := by rw [m_was_nI hnd (by omega), if_pos ha2]; decide
      refine lv_aload_n hx hb dX7_wrongLatch_18 rfl (lv_at hl 0 rfl) ?_
      refine va_get (D := D) (ci := 7) (v := .ref (q 1)) (C := RX7) (T := TX7) (N := 15) hx hb hts (iwX7_wrongLatch_7) hown hK.1 hP 0 rfl rfl 1 (by decide) (hts (.fieldLink RX7 7 "InverterGraphsModel" "sorts" "[I") (by decide +kernel)) (fun _ h9 => h9) rfl dX7_wrongLatch_19 ?_
      refine lv_iload_n hx hb dX7_wrongLatch_22 rfl (lv_at hl 1 rfl) ?_
      refine lv_iconst (v := 2) hx hb dX7_wrongLatch_23 (by decide) ?_
      refine lv_idiv hx hb dX7_wrongLatch_24 (by decide) ?_
      refine lv_topi (nm_r (pk_div (a := a) (d := 2) (by omega) (by omega) (by omega)) ?_)
      refine k_iald (D := D) (j := a / 2) hx hb hK.1 hP 1 0 rfl rfl (by omega) (by omega) dX7_wrongLatch_25 ?_
      refine lv_iconst (v := 3) hx hb dX7_wrongLatch_26 (by decide) ?_
      refine lv_icmp_eq (tgt := 34) hx hb dX7_wrongLatch_27 (by decide) (fun c_27 => ?_) (fun c_27 => ?_)
      · skip
        refine lv_iconst (v := 0) hx hb dX7_wrongLatch_34 (by decide) ?_
        exact W.iret (v := 0) hx hb hr (fun t ht _ => ⟨0, rfl, (by unfold m_wl; rw [if_neg (nI_pos ha), nI_clamp ha, if_neg h11, if_pos c_27]), ht⟩) (fun _ h9 => nomatch h9) dX7_wrongLatch_35
      · skip
        refine lv_iconst (v := 2) hx hb dX7_wrongLatch_30 (by decide) ?_
        refine lv_goto (tgt := 35) hx hb dX7_wrongLatch_31 (by decide) ?_
        exact W.iret (v := 2) hx hb hr (fun t ht _ => ⟨2, rfl, (by unfold m_wl; rw [if_neg (nI_pos ha), nI_clamp ha, if_neg h11, if_neg c_27]), ht⟩) (fun _ h9 => nomatch h9) dX7_wrongLatch_35
    · skip
      refine lv_iconst (v := 1) hx hb dX7_wrongLatch_14 (by decide) ?_
      refine lv_goto (tgt := 35) hx hb dX7_wrongLatch_15 (by decide) ?_
      exact W.iret (v := 1) hx hb hr (fun t ht _ => ⟨1, rfl, (by unfold m_wl; rw [if_neg (nI_pos ha), nI_clamp ha, if_pos c_11]), ht⟩) (fun _ h9 => nomatch h9) dX7_wrongLatch_35
theorem iwX7_newNode_7 : ∀ w ∈ wsX70, w ∈ wsX7_newNode := by decide +kernel
set_option maxHeartbeats 4000000 in
set_option maxRecDepth 100000 in
theorem c_X7_newNode (l : Launch) (D : va_G) (κ : Nat → ClassId) (sz : Nat) (q : Nat → Nat) (th : Int32) (kc : KC) (cp : Nat → Int32) (cn : Nat) (ro : Nat → Int64) (kn : Int32) (lv be : Nat → Int32) (p0 : Int32) (p1 p2 : Nat) (hnd : mnd kc ≤ 400) (hoc : moc kc ≤ 40) (hcn : cn ≤ 30) (hn9 : mnd kc < 400) : k_mui (S := Unit) l yX7_newNode wsX7_newNode 0 0 0 0 D κ [.ref (q 0), .int p0, .int (nI p1), .int (nI p2)] (wN κ q th kc cp cn ro kn lv be) sz (fun r _ => r = nI (mnd kc)) (fun u => wN κ q th (m_new p0 p1 p2 kc) cp cn ro kn lv be) := by
  refine Met.ofW (cc := cX7_newNode) (maxL := 4) (ret := (some .int)) (by decide) rfl ?_
  intro p e s m args below meth c s₁ B hml hv
  obtain ⟨rfl, hsz, hK, hP, hD0⟩ := hv
  have hx := B.exec
  have hb := B.bytes
  have hr := B.returns
  have hts := atoms_spec (ws := wsX7_newNode) B.pre
  have hown : s.vm.findClass RX7 = some m.cls := findClass_of_methodNamed B.named
  have hlocks := B.notSynchronized
  subst hsz
  have hD := hD0.self (sz := s.heap.size)
  generalize hAe : va_A (wN κ q th kc cp cn ro kn lv be) s.heap.size = A at hD ⊢
  have hA : ∀ q : Nat, s.heap.size ≤ q → A q := fun q h => by rw [← hAe]; exact Or.inr h
  have hS : va_S A s.heap s.heap [] := va_S.rf
  have hP : va_P D vwCl (wN κ q th kc cp cn ro kn lv be) s.heap := hP
  have hl := lv_entry ([.ref (q 0), .int p0, .int (nI p1), .int (nI p2)]) (n := 4) (Nat.le_of_ble_eq_true rfl)
  rw [lg_entry_eq]
  generalize (lg_sl ([.ref (q 0), .int p0, .int (nI p1), .int (nI p2)]) ++ List.replicate (4 - (lg_sl ([.ref (q 0), .int p0, .int (nI p1), .int (nI p2)])).length) Slot.unset).toArray = ls at hl ⊢
  have hl : lv_has ls 4 [(0, .ref (q 0)), (1, .int p0), (2, .int (nI p1)), (3, .int (nI p2))] := hl
  refine lv_aload_n hx hb dX7_newNode_0 rfl (lv_at hl 0 rfl) ?_
  refine va_get (D := D) (ci := 7) (v := .ref (q 1)) (C := RX7) (T := TX7) (N := 15) hx hb hts (iwX7_newNode_7) hown hK.1 hP 0 rfl rfl 1 (by decide) (hts (.fieldLink RX7 7 "InverterGraphsModel" "sorts" "[I") (by decide +kernel)) (fun _ h9 => h9) rfl dX7_newNode_1 ?_
  refine lv_aload_n hx hb dX7_newNode_4 rfl (lv_at hl 0 rfl) ?_
  refine va_get (D := D) (ci := 7) (v := .int (nI (mnd kc))) (C := RX7) (T := TX7) (N := 15) hx hb hts (iwX7_newNode_7) hown hK.1 hP 0 rfl rfl 5 (by decide) (hts (.fieldLink RX7 43 "InverterGraphsModel" "nodes" "I") (by decide +kernel)) (fun _ h9 => h9) rfl dX7_newNode_5 ?_
  refine lv_iload_n hx hb dX7_newNode_8 rfl (lv_at hl 1 rfl) ?_
  refine k_iast (D := D) (j := mnd kc) hx hb hK.1 hP hD hS 1 0 rfl rfl (by omega) (by omega) dX7_newNode_9 (fun H locs hP hD hS => ?_)
  have hP : va_P D vwCl (wN κ q th (upd (mso kc) (mnd kc) p0, mon kc, mtw kc, mst kc, mnd kc, mou kc, mbo kc, moc kc) cp cn ro kn lv be) H := hP
  have hD : va_D A (wN κ q th (upd (mso kc) (mnd kc) p0, mon kc, mtw kc, mst kc, mnd kc, mou kc, mbo kc, moc kc) cp cn ro kn lv be) := hD
  refine lv_aload_n hx hb dX7_newNode_10 rfl (lv_at hl 0 rfl) ?_
  refine va_get (D := D) (ci := 7) (v := .ref (q 2)) (C := RX7) (T := TX7) (N := 15) hx hb hts (iwX7_newNode_7) hown hK.1 hP 0 rfl rfl 2 (by decide) (hts (.fieldLink RX7 13 "InverterGraphsModel" "ones" "[I") (by decide +kernel)) (fun _ h9 => h9) rfl dX7_newNode_11 ?_
  refine lv_aload_n hx hb dX7_newNode_14 rfl (lv_at hl 0 rfl) ?_
  refine va_get (D := D) (ci := 7) (v := .int (nI (mnd kc))) (C := RX7) (T := TX7) (N := 15) hx hb hts (iwX7_newNode_7) hown hK.1 hP 0 rfl rfl 5 (by decide) (hts (.fieldLink RX7 43 "InverterGraphsModel" "nodes" "I") (by decide +kernel)) (fun _ h9 => h9) rfl dX7_newNode_15 ?_
  refine lv_iload_n hx hb dX7_newNode_18 rfl (lv_at hl 2 rfl) ?_
  refine k_iastN (D := D) (j := mnd kc) (x := p1) hx hb hK.1 hP hD hS 2 0 rfl rfl (by omega) (by omega) dX7_newNode_19 (fun H locs hP hD hS => ?_)
  have hP : va_P D vwCl (wN κ q th (upd (mso kc) (mnd kc) p0, k_un (mon kc) (mnd kc) p1, mtw kc, mst kc, mnd kc, mou kc, mbo kc, moc kc) cp cn ro kn lv be) H := hP
  have hD : va_D A (wN κ q th (upd (mso kc) (mnd kc) p0, k_un (mon kc) (mnd kc) p1, mtw kc, mst kc, mnd kc, mou kc, mbo kc, moc kc) cp cn ro kn lv be) := hD
  refine lv_aload_n hx hb dX7_newNode_20 rfl (lv_at hl 0 rfl) ?_
  refine va_get (D := D) (ci := 7) (v := .ref (q 3)) (C := RX7) (T := TX7) (N := 15) hx hb hts (iwX7_newNode_7) hown hK.1 hP 0 rfl rfl 3 (by decide) (hts (.fieldLink RX7 16 "InverterGraphsModel" "twos" "[I") (by decide +kernel)) (fun _ h9 => h9) rfl dX7_newNode_21 ?_
  refine lv_aload_n hx hb dX7_newNode_24 rfl (lv_at hl 0 rfl) ?_
  refine va_get (D := D) (ci := 7) (v := .int (nI (mnd kc))) (C := RX7) (T := TX7) (N := 15) hx hb hts (iwX7_newNode_7) hown hK.1 hP 0 rfl rfl 5 (by decide) (hts (.fieldLink RX7 43 "InverterGraphsModel" "nodes" "I") (by decide +kernel)) (fun _ h9 => h9) rfl dX7_newNode_25 ?_
  refine lv_iload_n hx hb dX7_newNode_28 rfl (lv_at hl 3 rfl) ?_
  refine k_iastN (D := D) (j := mnd kc) (x := p2) hx hb hK.1 hP hD hS 3 0 rfl rfl (by omega) (by omega) dX7_newNode_29 (fun H locs hP hD hS => ?_)
  have hP : va_P D vwCl (wN κ q th (upd (mso kc) (mnd kc) p0, k_un (mon kc) (mnd kc) p1, k_un (mtw kc) (mnd kc) p2, mst kc, mnd kc, mou kc, mbo kc, moc kc) cp cn ro kn lv be) H := hP
  have hD : va_D A (wN κ q th (upd (mso kc) (mnd kc) p0, k_un (mon kc) (mnd kc) p1, k_un (mtw kc) (mnd kc) p2, mst kc, mnd kc, mou kc, mbo kc, moc kc) cp cn ro kn lv be) := hD
  refine lv_aload_n hx hb dX7_newNode_30 rfl (lv_at hl 0 rfl) ?_
  refine va_get (D := D) (ci := 7) (v := .ref (q 4)) (C := RX7) (T := TX7) (N := 15) hx hb hts (iwX7_newNode_7) hown hK.1 hP 0 rfl rfl 4 (by decide) (hts (.fieldLink RX7 19 "InverterGraphsModel" "stands" "[I") (by decide +kernel)) (fun _ h9 => h9) rfl dX7_newNode_31 ?_
  refine lv_aload_n hx hb dX7_newNode_34 rfl (lv_at hl 0 rfl) ?_
  refine va_get (D := D) (ci := 7) (v := .int (nI (mnd kc))) (C := RX7) (T := TX7) (N := 15) hx hb hts (iwX7_newNode_7) hown hK.1 hP 0 rfl rfl 5 (by decide) (hts (.fieldLink RX7 43 "InverterGraphsModel" "nodes" "I") (by decide +kernel)) (fun _ h9 => h9) rfl dX7_newNode_35 ?_
  refine lv_iconst (v := (-1)) hx hb dX7_newNode_38 (by decide) ?_
  refine k_iast (D := D) (j := mnd kc) hx hb hK.1 hP hD hS 4 0 rfl rfl (by omega) (by omega) dX7_newNode_39 (fun H locs hP hD hS => ?_)
  have hP : va_P D vwCl (wN κ q th (upd (mso kc) (mnd kc) p0, k_un (mon kc) (mnd kc) p1, k_un (mtw kc) (mnd kc) p2, upd (mst kc) (mnd kc) (-1), mnd kc, mou kc, mbo kc, moc kc) cp cn ro kn lv be) H := hP
  have hD : va_D A (wN κ q th (upd (mso kc) (mnd kc) p0, k_un (mon kc) (mnd kc) p1, k_un (mtw kc) (mnd kc) p2, upd (mst kc) (mnd kc) (-1), mnd kc, mou kc, mbo kc, moc kc) cp cn ro kn lv be) := hD
  refine lv_aload_n hx hb dX7_newNode_40 rfl (lv_at hl 0 rfl) ?_
  refine lv_dup hx hb dX7_newNode_41 rfl ?_
  refine va_get (D := D) (ci := 7) (v := .int (nI (mnd kc))) (C := RX7) (T := TX7) (N := 15) hx hb hts (iwX7_newNode_7) hown hK.1 hP 0 rfl rfl 5 (by decide) (hts (.fieldLink RX7 43 "InverterGraphsModel" "nodes" "I") (by decide +kernel)) (fun _ h9 => h9) rfl dX7_newNode_42 ?_
  refine lv_iconst (v := 1) hx hb dX7_newNode_45 (by decide) ?_
  refine lv_iadd hx hb dX7_newNode_46 ?_
  refine lv_topi (nm_r (nI_add (mnd kc) 1) ?_)
  refine va_put (D := D) (ci := 7) (v := .int (nI ((mnd kc) + 1))) (ty := .int) (C := RX7) (T := TX7) (N := 15) hx hb hts (iwX7_newNode_7) tyX7 tyX7_ok nmX7 hown hK.1 hP hD hS 0 rfl rfl 5 (by decide) (hts (.fieldLink RX7 43 "InverterGraphsModel" "nodes" "I") (by decide +kernel)) (fun _ h9 => h9) rfl (by decide +kernel) rfl rfl (Nat.le_of_ble_eq_true rfl) dX7_newNode_47 (fun H locs hP hD hS => ?_)
  have hP : va_P D vwCl (wN κ q th (upd (mso kc) (mnd kc) p0, k_un (mon kc) (mnd kc) p1, k_un (mtw kc) (mnd kc) p2, upd (mst kc) (mnd kc) (-1), (mnd kc) + 1, mou kc, mbo kc, moc kc) cp cn ro kn lv be) H := hP
  have hD : va_D A (wN κ q th (upd (mso kc) (mnd kc) p0, k_un (mon kc) (mnd kc) p1, k_un (mtw kc) (mnd kc) p2, upd (mst kc) (mnd kc) (-1), (mnd kc) + 1, mou kc, mbo kc, moc kc) cp cn ro kn lv be) := hD
  refine lv_aload_n hx hb dX7_newNode_50 rfl (lv_at hl 0 rfl) ?_
  refine va_get (D := D) (ci := 7) (v := .int (nI ((mnd kc) + 1))) (C := RX7) (T := TX7) (N := 15) hx hb hts (iwX7_newNode_7) hown hK.1 hP 0 rfl rfl 5 (by decide) (hts (.fieldLink RX7 43 "InverterGraphsModel" "nodes" "I") (by decide +kernel)) (fun _ h9 => h9) rfl dX7_newNode_51 ?_
  refine lv_iconst (v := 1) hx hb dX7_newNode_54 (by decide) ?_
  refine lv_isub hx hb dX7_newNode_55 ?_
  refine lv_topi (nm_r (pk_sub (a := (mnd kc) + 1) (b := 1) (by omega)) ?_)
  exact W.iret (v := nI (((mnd kc) + 1) - 1)) hx hb hr (fun t ht hW => ⟨⟨nI (((mnd kc) + 1) - 1), (), rfl, rfl, by rw [ht]; exact hP, hD⟩, hS.F ht⟩) hS.2.2 dX7_newNode_56
theorem iwX7_leave_7 : ∀ w ∈ wsX70, w ∈ wsX7_leave := by decide +kernel
set_option maxHeartbeats 4000000 in
set_option maxRecDepth 100000 in
theorem c_X7_leave (l : Launch) (D : va_G) (κ : Nat → ClassId) (sz : Nat) (q : Nat → Nat) (th : Int32) (kc : KC) (cp : Nat → Int32) (cn : Nat) (ro : Nat → Int64) (kn : Int32) (lv be : Nat → Int32) (p0 : Nat) (p1 : Int32) (hnd : mnd kc ≤ 400) (hoc : moc kc ≤ 40) (hcn : cn ≤ 30) (hp0 : p0 < 400) : k_muv (S := Unit) l yX7_leave wsX7_leave 0 0 0 0 D κ [.ref (q 0), .int (nI p0), .int p1] (wN κ q th kc cp cn ro kn lv be) sz (fun _ => True) (fun u => wN κ q th (m_leave p0 p1 kc) cp cn ro kn lv be) := by
  refine Met.ofW (cc := cX7_leave) (maxL := 3) (ret := none) (by decide) rfl ?_
  intro p e s m args below meth c s₁ B hml hv
  obtain ⟨rfl, hsz, hK, hP, hD0⟩ := hv
  have hx := B.exec
  have hb := B.bytes
  have hr := B.returns
  have hts := atoms_spec (ws := wsX7_leave) B.pre
  have hown : s.vm.findClass RX7 = some m.cls := findClass_of_methodNamed B.named
  have hlocks := B.notSynchronized
  subst hsz
  have hD := hD0.self (sz := s.heap.size)
  generalize hAe : va_A (wN κ q th kc cp cn ro kn lv be) s.heap.size = A at hD ⊢
  have hA : ∀ q : Nat, s.heap.size ≤ q → A q := fun q h => by rw [← hAe]; exact Or.inr h
  have hS : va_S A s.heap s.heap [] := va_S.rf
  have hP : va_P D vwCl (wN κ q th kc cp cn ro kn lv be) s.heap := hP
  have hl := lv_entry ([.ref (q 0), .int (nI p0), .int p1]) (n := 3) (Nat.le_of_ble_eq_true rfl)
  rw [lg_entry_eq]
  generalize (lg_sl ([.ref (q 0), .int (nI p0), .int p1]) ++ List.replicate (3 - (lg_sl ([.ref (q 0), .int (nI p0), .int p1])).length) Slot.unset).toArray = ls at hl ⊢
  have hl : lv_has ls 3 [(0, .ref (q 0)), (1, .int (nI p0)), (2, .int p1)] := hl
  refine lv_aload_n hx hb dX7_leave_0 rfl (lv_at hl 0 rfl) ?_
  refine va_get (D := D) (ci := 7) (v := .ref (q 1)) (C := RX7) (T := TX7) (N := 15) hx hb hts (iwX7_leave_7) hown hK.1 hP 0 rfl rfl 1 (by decide) (hts (.fieldLink RX7 7 "InverterGraphsModel" "sorts" "[I") (by decide +kernel)) (fun _ h9 => h9) rfl dX7_leave_1 ?_
  refine lv_iload_n hx hb dX7_leave_4 rfl (lv_at hl 1 rfl) ?_
  refine lv_iconst (v := 5) hx hb dX7_leave_5 (by decide) ?_
  refine k_iast (D := D) (j := p0) hx hb hK.1 hP hD hS 1 0 rfl rfl (by omega) (by omega) dX7_leave_6 (fun H locs hP hD hS => ?_)
  have hP : va_P D vwCl (wN κ q th (upd (mso kc) p0 5, mon kc, mtw kc, mst kc, mnd kc, mou kc, mbo kc, moc kc) cp cn ro kn lv be) H := hP
  have hD : va_D A (wN κ q th (upd (mso kc) p0 5, mon kc, mtw kc, mst kc, mnd kc, mou kc, mbo kc, moc kc) cp cn ro kn lv be) := hD
  refine lv_aload_n hx hb dX7_leave_7 rfl (lv_at hl 0 rfl) ?_
  refine va_get (D := D) (ci := 7) (v := .ref (q 4)) (C := RX7) (T := TX7) (N := 15) hx hb hts (iwX7_leave_7) hown hK.1 hP 0 rfl rfl 4 (by decide) (hts (.fieldLink RX7 19 "InverterGraphsModel" "stands" "[I") (by decide +kernel)) (fun _ h9 => h9) rfl dX7_leave_8 ?_
  refine lv_iload_n hx hb dX7_leave_11 rfl (lv_at hl 1 rfl) ?_
  refine lv_iload_n hx hb dX7_leave_12 rfl (lv_at hl 2 rfl) ?_
  refine k_iast (D := D) (j := p0) hx hb hK.1 hP hD hS 4 0 rfl rfl (by omega) (by omega) dX7_leave_13 (fun H locs hP hD hS => ?_)
  have hP : va_P D vwCl (wN κ q th (upd (mso kc) p0 5, mon kc, mtw kc, upd (mst kc) p0 p1, mnd kc, mou kc, mbo kc, moc kc) cp cn ro kn lv be) H := hP
  have hD : va_D A (wN κ q th (upd (mso kc) p0 5, mon kc, mtw kc, upd (mst kc) p0 p1, mnd kc, mou kc, mbo kc, moc kc) cp cn ro kn lv be) := hD
  exact W.vret hx hb hr (fun t ht hW => ⟨⟨(), rfl, trivial, by rw [ht]; exact hP, hD⟩, hS.F ht⟩) hS.2.2 dX7_leave_14
theorem iwX7_isReplaced_7 : ∀ w ∈ wsX70, w ∈ wsX7_isReplaced := by decide +kernel
set_option maxHeartbeats 4000000 in
set_option maxRecDepth 100000 in
theorem c_X7_isReplaced (l : Launch) (D : va_G) (κ : Nat → ClassId) (q : Nat → Nat) (th : Int32) (kc : KC) (cp : Nat → Int32) (cn : Nat) (ro : Nat → Int64) (kn : Int32) (lv be : Nat → Int32) (p0 : Nat) (hnd : mnd kc ≤ 400) (hoc : moc kc ≤ 40) (hcn : cn ≤ 30) (hp0 : p0 < 2 * mnd kc) : k_roi l yX7_isReplaced wsX7_isReplaced 0 0 D κ [.ref (q 0), .int (nI p0)] (wN κ q th kc cp cn ro kn lv be) (fun r => r = m_isRep kc p0) := by
  refine Met.ofW (cc := cX7_isReplaced) (maxL := 2) (ret := (some .boolean)) (by decide) rfl ?_
  intro p e s m args below meth c s₁ B hml hv
  obtain ⟨rfl, hK, hP⟩ := hv
  have hx := B.exec
  have hb := B.bytes
  have hr := B.returns
  have hts := atoms_spec (ws := wsX7_isReplaced) B.pre
  have hown : s.vm.findClass RX7 = some m.cls := findClass_of_methodNamed B.named
  have hlocks := B.notSynchronized
  have hP : va_P D vwCl (wN κ q th kc cp cn ro kn lv be) s.heap := hP
  have hl := lv_entry ([.ref (q 0), .int (nI p0)]) (n := 2) (Nat.le_of_ble_eq_true rfl)
  rw [lg_entry_eq]
  generalize (lg_sl ([.ref (q 0), .int (nI p0)]) ++ List.replicate (2 - (lg_sl ([.ref (q 0), .int (nI p0)])).length) Slot.unset).toArray = ls at hl ⊢
  have hl : lv_has ls 2 [(0, .ref (q 0)), (1, .int (nI p0))] := hl
  refine lv_aload_n hx hb dX7_isReplaced_0 rfl (lv_at hl 0 rfl) ?_
  refine va_get (D := D) (ci := 7) (v := .ref (q 1)) (C := RX7) (T := TX7) (N := 15) hx hb hts (iwX7_isReplaced_7) hown hK.1 hP 0 rfl rfl 1 (by decide) (hts (.fieldLink RX7 7 "InverterGraphsModel" "sorts" "[I") (by decide +kernel)) (fun _ h9 => h9) rfl dX7_isReplaced_1 ?_
  refine lv_iload_n hx hb dX7_isReplaced_4 rfl (lv_at hl 1 rfl) ?_
  refine lv_iconst (v := 2) hx hb dX7_isReplaced_5 (by decide) ?_
  refine lv_idiv hx hb dX7_isReplaced_6 (by decide) ?_
  refine lv_topi (nm_r (pk_div (a := p0) (d := 2) (by omega) (by omega) (by omega)) ?_)
  refine k_iald (D := D) (j := p0 / 2) hx hb hK.1 hP 1 0 rfl rfl (by omega) (by omega) dX7_isReplaced_7 ?_
  refine lv_iconst (v := 5) hx hb dX7_isReplaced_8 (by decide) ?_
  refine lv_icmp_ne (tgt := 16) hx hb dX7_isReplaced_9 (by decide) (fun c_9 => ?_) (fun c_9 => ?_)
  · skip
    refine lv_iconst (v := 0) hx hb dX7_isReplaced_16 (by decide) ?_
    exact W.zret (ty := .boolean) (v := 0) hx hb hr rfl (fun t ht _ => ⟨0, rfl, (by unfold m_isRep; rw [if_neg c_9]), ht⟩) (fun _ h9 => nomatch h9) dX7_isReplaced_17
  · skip
    refine lv_iconst (v := 1) hx hb dX7_isReplaced_12 (by decide) ?_
    refine lv_goto (tgt := 17) hx hb dX7_isReplaced_13 (by decide) ?_
    exact W.zret (ty := .boolean) (v := 1) hx hb hr rfl (fun t ht _ => ⟨1, rfl, (by unfold m_isRep; rw [if_pos c_9]), ht⟩) (fun _ h9 => nomatch h9) dX7_isReplaced_17
theorem iwX7_howMany_7 : ∀ w ∈ wsX70, w ∈ wsX7_howMany := by decide +kernel
set_option maxHeartbeats 4000000 in
set_option maxRecDepth 100000 in
theorem c_X7_howMany (l : Launch) (D : va_G) (κ : Nat → ClassId) (q : Nat → Nat) (th : Int32) (kc : KC) (cp : Nat → Int32) (cn : Nat) (ro : Nat → Int64) (kn : Int32) (lv be : Nat → Int32) (p0 : Int32) (hnd : mnd kc ≤ 400) (hoc : moc kc ≤ 40) (hcn : cn ≤ 30) : k_roi l yX7_howMany wsX7_howMany 0 0 D κ [.ref (q 0), .int p0] (wN κ q th kc cp cn ro kn lv be) (fun r => r = m_cnt kc p0 (mnd kc)) := by
  refine Met.ofW (cc := cX7_howMany) (maxL := 4) (ret := (some .int)) (by decide) rfl ?_
  intro p e s m args below meth c s₁ B hml hv
  obtain ⟨rfl, hK, hP⟩ := hv
  have hx := B.exec
  have hb := B.bytes
  have hr := B.returns
  have hts := atoms_spec (ws := wsX7_howMany) B.pre
  have hown : s.vm.findClass RX7 = some m.cls := findClass_of_methodNamed B.named
  have hlocks := B.notSynchronized
  have hP : va_P D vwCl (wN κ q th kc cp cn ro kn lv be) s.heap := hP
  have hl := lv_entry ([.ref (q 0), .int p0]) (n := 4) (Nat.le_of_ble_eq_true rfl)
  rw [lg_entry_eq]
  generalize (lg_sl ([.ref (q 0), .int p0]) ++ List.replicate (4 - (lg_sl ([.ref (q 0), .int p0])).length) Slot.unset).toArray = ls at hl ⊢
  have hl : lv_has ls 4 [(0, .ref (q 0)), (1, .int p0)] := hl
  refine lv_iconst (v := 0) hx hb dX7_howMany_0 (by decide) ?_
  refine lv_istore_n (lv' := [(2, .int 0), (0, .ref (q 0)), (1, .int p0)]) hx hb dX7_howMany_1 rfl hl (by decide) rfl (fun ls hl => ?_)
  refine lv_iconst (v := 0) hx hb dX7_howMany_2 (by decide) ?_
  refine lv_istore_n (lv' := [(3, .int 0), (2, .int 0), (0, .ref (q 0)), (1, .int p0)]) hx hb dX7_howMany_3 rfl hl (by decide) rfl (fun ls hl => ?_)
  have lp : ∀ (k i : Nat) (ls : Array Slot), (i + k = mnd kc) → lv_has ls 4 [(0, .ref (q 0)), (1, .int p0), (2, .int (m_cnt kc p0 i)), (3, .int (nI i))] → W p l e (headSpec wsX7_howMany ({ frames := 0, cells := 0, slots := 0, locals := 0 })).room s m ([.ref (q 0), .int p0] : List Value).toArray below meth c s.heap [] 0 0 (MQ below (vp_Si (fun r => r = m_cnt kc p0 (mnd kc))) ([.ref (q 0), .int p0] : List Value).toArray s 0 0 (fun _ => False)) (F0 m 4 ls []) := by
    intro k
    induction k with
    | zero =>
      intro i ls hi hl
      refine lv_iload_n hx hb dX7_howMany_4 rfl (lv_at hl 3 rfl) ?_
      refine lv_aload_n hx hb dX7_howMany_5 rfl (lv_at hl 0 rfl) ?_
      refine va_get (D := D) (ci := 7) (v := .int (nI (mnd kc))) (C := RX7) (T := TX7) (N := 15) hx hb hts (iwX7_howMany_7) hown hK.1 hP 0 rfl rfl 5 (by decide) (hts (.fieldLink RX7 43 "InverterGraphsModel" "nodes" "I") (by decide +kernel)) (fun _ h9 => h9) rfl dX7_howMany_6 ?_
      refine lv_icmp_ge (tgt := 36) hx hb dX7_howMany_9 (by decide) (fun c_9 => ?_) (fun c_9 => ?_)
      · skip
        have c_9 : (mnd kc) ≤ i := (nI_leI (a := (mnd kc)) (b := i) (by omega) (by omega)).mp c_9
        have e9 : mnd kc = i := by omega
        subst e9
        refine lv_iload_n hx hb dX7_howMany_36 rfl (lv_at hl 2 rfl) ?_
        exact W.iret (v := m_cnt kc p0 (mnd kc)) hx hb hr (fun t ht _ => ⟨m_cnt kc p0 (mnd kc), rfl, rfl, ht⟩) (fun _ h9 => nomatch h9) dX7_howMany_37
      · skip
        have c_9 : ¬ ((mnd kc) ≤ i) := fun h9 => c_9 ((nI_leI (a := (mnd kc)) (b := i) (by omega) (by omega)).mpr h9)
        exfalso; omega
    | succ k ih =>
      intro i ls hi hl
      refine lv_iload_n hx hb dX7_howMany_4 rfl (lv_at hl 3 rfl) ?_
      refine lv_aload_n hx hb dX7_howMany_5 rfl (lv_at hl 0 rfl) ?_
      refine va_get (D := D) (ci := 7) (v := .int (nI (mnd kc))) (C := RX7) (T := TX7) (N := 15) hx hb hts (iwX7_howMany_7) hown hK.1 hP 0 rfl rfl 5 (by decide) (hts (.fieldLink RX7 43 "InverterGraphsModel" "nodes" "I") (by decide +kernel)) (fun _ h9 => h9) rfl dX7_howMany_6 ?_
      refine lv_icmp_ge (tgt := 36) hx hb dX7_howMany_9 (by decide) (fun c_9 => ?_) (fun c_9 => ?_)
      · skip
        have c_9 : (mnd kc) ≤ i := (nI_leI (a := (mnd kc)) (b := i) (by omega) (by omega)).mp c_9
        exfalso; omega
      · skip
        have c_9 : ¬ ((mnd kc) ≤ i) := fun h9 => c_9 ((nI_leI (a := (mnd kc)) (b := i) (by omega) (by omega)).mpr h9)
        refine lv_aload_n hx hb dX7_howMany_12 rfl (lv_at hl 0 rfl) ?_
        refine va_get (D := D) (ci := 7) (v := .ref (q 1)) (C := RX7) (T := TX7) (N := 15) hx hb hts (iwX7_howMany_7) hown hK.1 hP 0 rfl rfl 1 (by decide) (hts (.fieldLink RX7 7 "InverterGraphsModel" "sorts" "[I") (by decide +kernel)) (fun _ h9 => h9) rfl dX7_howMany_13 ?_
        refine lv_iload_n hx hb dX7_howMany_16 rfl (lv_at hl 3 rfl) ?_
        refine k_iald (D := D) (j := i) hx hb hK.1 hP 1 0 rfl rfl (by omega) (by omega) dX7_howMany_17 ?_
        refine lv_iload_n hx hb dX7_howMany_18 rfl (lv_at hl 1 rfl) ?_
        refine lv_icmp_ne (tgt := 28) hx hb dX7_howMany_19 (by decide) (fun c_19 => ?_) (fun c_19 => ?_)
        · skip
          refine lv_iload_n hx hb dX7_howMany_28 rfl (lv_at hl 2 rfl) ?_
          refine lv_istore_n (lv' := [(2, .int (m_cnt kc p0 i)), (0, .ref (q 0)), (1, .int p0), (3, .int (nI i))]) hx hb dX7_howMany_29 rfl hl (by decide) rfl (fun ls hl => ?_)
          refine lv_iinc (v := nI (i + 1)) (lv' := [(3, .int (nI (i + 1))), (2, .int (m_cnt kc p0 i)), (0, .ref (q 0)), (1, .int p0)]) hx hb dX7_howMany_30 hl (k := 3) rfl (nI_1 _) (by decide) rfl (fun ls hl => ?_)
          refine lv_goto (tgt := 4) hx hb dX7_howMany_33 (by decide) ?_
          exact ih (i + 1) ls (by omega) (by rw [show m_cnt kc p0 (i + 1) = m_cnt kc p0 i from by rw [m_cnt, if_neg c_19]]; exact lv_sub hl [2, 3, 1, 0] rfl)
        · skip
          refine lv_iload_n hx hb dX7_howMany_22 rfl (lv_at hl 2 rfl) ?_
          refine lv_iconst (v := 1) hx hb dX7_howMany_23 (by decide) ?_
          refine lv_iadd hx hb dX7_howMany_24 ?_
          refine lv_goto (tgt := 29) hx hb dX7_howMany_25 (by decide) ?_
          refine lv_istore_n (lv' := [(2, .int ((m_cnt kc p0 i) + 1)), (0, .ref (q 0)), (1, .int p0), (3, .int (nI i))]) hx hb dX7_howMany_29 rfl hl (by decide) rfl (fun ls hl => ?_)
          refine lv_iinc (v := nI (i + 1)) (lv' := [(3, .int (nI (i + 1))), (2, .int ((m_cnt kc p0 i) + 1)), (0, .ref (q 0)), (1, .int p0)]) hx hb dX7_howMany_30 hl (k := 3) rfl (nI_1 _) (by decide) rfl (fun ls hl => ?_)
          refine lv_goto (tgt := 4) hx hb dX7_howMany_33 (by decide) ?_
          exact ih (i + 1) ls (by omega) (by rw [show m_cnt kc p0 (i + 1) = m_cnt kc p0 i + 1 from by rw [m_cnt, if_pos c_19]]; exact lv_sub hl [2, 3, 1, 0] rfl)
  exact lp (mnd kc) 0 ls (by omega) (lv_sub hl [2, 3, 1, 0] rfl)
theorem iwX7_greatest_7 : ∀ w ∈ wsX70, w ∈ wsX7_greatest := by decide +kernel
set_option maxHeartbeats 4000000 in
set_option maxRecDepth 100000 in
theorem c_X7_greatest (l : Launch) (D : va_G) (κ : Nat → ClassId) (q : Nat → Nat) (th : Int32) (kc : KC) (cp : Nat → Int32) (cn : Nat) (ro : Nat → Int64) (kn : Int32) (lv be : Nat → Int32)  (hnd : mnd kc ≤ 400) (hoc : moc kc ≤ 40) (hcn : cn ≤ 30) : k_roi l yX7_greatest wsX7_greatest 0 0 D κ [.ref (q 0)] (wN κ q th kc cp cn ro kn lv be) (fun r => r = m_gr lv (mnd kc)) := by
  refine Met.ofW (cc := cX7_greatest) (maxL := 3) (ret := (some .int)) (by decide) rfl ?_
  intro p e s m args below meth c s₁ B hml hv
  obtain ⟨rfl, hK, hP⟩ := hv
  have hx := B.exec
  have hb := B.bytes
  have hr := B.returns
  have hts := atoms_spec (ws := wsX7_greatest) B.pre
  have hown : s.vm.findClass RX7 = some m.cls := findClass_of_methodNamed B.named
  have hlocks := B.notSynchronized
  have hP : va_P D vwCl (wN κ q th kc cp cn ro kn lv be) s.heap := hP
  have hl := lv_entry ([.ref (q 0)]) (n := 3) (Nat.le_of_ble_eq_true rfl)
  rw [lg_entry_eq]
  generalize (lg_sl ([.ref (q 0)]) ++ List.replicate (3 - (lg_sl ([.ref (q 0)])).length) Slot.unset).toArray = ls at hl ⊢
  have hl : lv_has ls 3 [(0, .ref (q 0))] := hl
  refine lv_iconst (v := 0) hx hb dX7_greatest_0 (by decide) ?_
  refine lv_istore_n (lv' := [(1, .int 0), (0, .ref (q 0))]) hx hb dX7_greatest_1 rfl hl (by decide) rfl (fun ls hl => ?_)
  refine lv_iconst (v := 0) hx hb dX7_greatest_2 (by decide) ?_
  refine lv_istore_n (lv' := [(2, .int 0), (1, .int 0), (0, .ref (q 0))]) hx hb dX7_greatest_3 rfl hl (by decide) rfl (fun ls hl => ?_)
  have lp : ∀ (k i : Nat) (ls : Array Slot), (i + k = mnd kc) → lv_has ls 3 [(0, .ref (q 0)), (1, .int (m_gr lv i)), (2, .int (nI i))] → W p l e (headSpec wsX7_greatest ({ frames := 0, cells := 0, slots := 0, locals := 0 })).room s m ([.ref (q 0)] : List Value).toArray below meth c s.heap [] 0 0 (MQ below (vp_Si (fun r => r = m_gr lv (mnd kc))) ([.ref (q 0)] : List Value).toArray s 0 0 (fun _ => False)) (F0 m 4 ls []) := by
    intro k
    induction k with
    | zero =>
      intro i ls hi hl
      refine lv_iload_n hx hb dX7_greatest_4 rfl (lv_at hl 2 rfl) ?_
      refine lv_aload_n hx hb dX7_greatest_5 rfl (lv_at hl 0 rfl) ?_
      refine va_get (D := D) (ci := 7) (v := .int (nI (mnd kc))) (C := RX7) (T := TX7) (N := 15) hx hb hts (iwX7_greatest_7) hown hK.1 hP 0 rfl rfl 5 (by decide) (hts (.fieldLink RX7 43 "InverterGraphsModel" "nodes" "I") (by decide +kernel)) (fun _ h9 => h9) rfl dX7_greatest_6 ?_
      refine lv_icmp_ge (tgt := 39) hx hb dX7_greatest_9 (by decide) (fun c_9 => ?_) (fun c_9 => ?_)
      · skip
        have c_9 : (mnd kc) ≤ i := (nI_leI (a := (mnd kc)) (b := i) (by omega) (by omega)).mp c_9
        have e9 : mnd kc = i := by omega
        subst e9
        refine lv_iload_n hx hb dX7_greatest_39 rfl (lv_at hl 1 rfl) ?_
        exact W.iret (v := m_gr lv (mnd kc)) hx hb hr (fun t ht _ => ⟨m_gr lv (mnd kc), rfl, rfl, ht⟩) (fun _ h9 => nomatch h9) dX7_greatest_40
      · skip
        have c_9 : ¬ ((mnd kc) ≤ i) := fun h9 => c_9 ((nI_leI (a := (mnd kc)) (b := i) (by omega) (by omega)).mpr h9)
        exfalso; omega
    | succ k ih =>
      intro i ls hi hl
      refine lv_iload_n hx hb dX7_greatest_4 rfl (lv_at hl 2 rfl) ?_
      refine lv_aload_n hx hb dX7_greatest_5 rfl (lv_at hl 0 rfl) ?_
      refine va_get (D := D) (ci := 7) (v := .int (nI (mnd kc))) (C := RX7) (T := TX7) (N := 15) hx hb hts (iwX7_greatest_7) hown hK.1 hP 0 rfl rfl 5 (by decide) (hts (.fieldLink RX7 43 "InverterGraphsModel" "nodes" "I") (by decide +kernel)) (fun _ h9 => h9) rfl dX7_greatest_6 ?_
      refine lv_icmp_ge (tgt := 39) hx hb dX7_greatest_9 (by decide) (fun c_9 => ?_) (fun c_9 => ?_)
      · skip
        have c_9 : (mnd kc) ≤ i := (nI_leI (a := (mnd kc)) (b := i) (by omega) (by omega)).mp c_9
        exfalso; omega
      · skip
        have c_9 : ¬ ((mnd kc) ≤ i) := fun h9 => c_9 ((nI_leI (a := (mnd kc)) (b := i) (by omega) (by omega)).mpr h9)
        refine lv_aload_n hx hb dX7_greatest_12 rfl (lv_at hl 0 rfl) ?_
        refine va_get (D := D) (ci := 7) (v := .ref (q 9)) (C := RX7) (T := TX7) (N := 15) hx hb hts (iwX7_greatest_7) hown hK.1 hP 0 rfl rfl 13 (by decide) (hts (.fieldLink RX7 37 "InverterGraphsModel" "levels" "[I") (by decide +kernel)) (fun _ h9 => h9) rfl dX7_greatest_13 ?_
        refine lv_iload_n hx hb dX7_greatest_16 rfl (lv_at hl 2 rfl) ?_
        refine k_iald (D := D) (j := i) hx hb hK.1 hP 9 0 rfl rfl (by omega) (by omega) dX7_greatest_17 ?_
        refine lv_iload_n hx hb dX7_greatest_18 rfl (lv_at hl 1 rfl) ?_
        refine lv_icmp_le (tgt := 31) hx hb dX7_greatest_19 (by decide) (fun c_19 => ?_) (fun c_19 => ?_)
        · skip
          refine lv_iload_n hx hb dX7_greatest_31 rfl (lv_at hl 1 rfl) ?_
          refine lv_istore_n (lv' := [(1, .int (m_gr lv i)), (0, .ref (q 0)), (2, .int (nI i))]) hx hb dX7_greatest_32 rfl hl (by decide) rfl (fun ls hl => ?_)
          refine lv_iinc (v := nI (i + 1)) (lv' := [(2, .int (nI (i + 1))), (1, .int (m_gr lv i)), (0, .ref (q 0))]) hx hb dX7_greatest_33 hl (k := 2) rfl (nI_1 _) (by decide) rfl (fun ls hl => ?_)
          refine lv_goto (tgt := 4) hx hb dX7_greatest_36 (by decide) ?_
          exact ih (i + 1) ls (by omega) (by rw [show m_gr lv (i + 1) = m_gr lv i from by rw [m_gr, if_neg (fun h9 => absurd c_19 (Int32.not_le.mpr h9))]]; exact lv_sub hl [2, 1, 0] rfl)
        · skip
          refine lv_aload_n hx hb dX7_greatest_22 rfl (lv_at hl 0 rfl) ?_
          refine va_get (D := D) (ci := 7) (v := .ref (q 9)) (C := RX7) (T := TX7) (N := 15) hx hb hts (iwX7_greatest_7) hown hK.1 hP 0 rfl rfl 13 (by decide) (hts (.fieldLink RX7 37 "InverterGraphsModel" "levels" "[I") (by decide +kernel)) (fun _ h9 => h9) rfl dX7_greatest_23 ?_
          refine lv_iload_n hx hb dX7_greatest_26 rfl (lv_at hl 2 rfl) ?_
          refine k_iald (D := D) (j := i) hx hb hK.1 hP 9 0 rfl rfl (by omega) (by omega) dX7_greatest_27 ?_
          refine lv_goto (tgt := 32) hx hb dX7_greatest_28 (by decide) ?_
          refine lv_istore_n (lv' := [(1, .int (lv i)), (0, .ref (q 0)), (2, .int (nI i))]) hx hb dX7_greatest_32 rfl hl (by decide) rfl (fun ls hl => ?_)
          refine lv_iinc (v := nI (i + 1)) (lv' := [(2, .int (nI (i + 1))), (1, .int (lv i)), (0, .ref (q 0))]) hx hb dX7_greatest_33 hl (k := 2) rfl (nI_1 _) (by decide) rfl (fun ls hl => ?_)
          refine lv_goto (tgt := 4) hx hb dX7_greatest_36 (by decide) ?_
          exact ih (i + 1) ls (by omega) (by rw [show m_gr lv (i + 1) = lv i from by rw [m_gr, if_pos (Int32.not_le.mp c_19)]]; exact lv_sub hl [2, 1, 0] rfl)
  exact lp (mnd kc) 0 ls (by omega) (lv_sub hl [2, 1, 0] rfl)
theorem iwX7_rowOf_7 : ∀ w ∈ wsX70, w ∈ wsX7_rowOf := by decide +kernel
set_option maxHeartbeats 4000000 in
set_option maxRecDepth 100000 in
theorem c_X7_rowOf (l : Launch) (D : va_G) (κ : Nat → ClassId) (q : Nat → Nat) (th : Int32) (kc : KC) (cp : Nat → Int32) (cn : Nat) (ro : Nat → Int64) (kn : Int32) (lv be : Nat → Int32) (p0 : Nat) (hnd : mnd kc ≤ 400) (hoc : moc kc ≤ 40) (hcn : cn ≤ 30) (hp0 : p0 < 2 * mnd kc) : k_rol l yX7_rowOf wsX7_rowOf 0 0 D κ [.ref (q 0), .int (nI p0)] (wN κ q th kc cp cn ro kn lv be) (fun r => r = m_rowOf ro p0) := by
  refine Met.ofW (cc := cX7_rowOf) (maxL := 2) (ret := (some .long)) (by decide) rfl ?_
  intro p e s m args below meth c s₁ B hml hv
  obtain ⟨rfl, hK, hP⟩ := hv
  have hx := B.exec
  have hb := B.bytes
  have hr := B.returns
  have hts := atoms_spec (ws := wsX7_rowOf) B.pre
  have hown : s.vm.findClass RX7 = some m.cls := findClass_of_methodNamed B.named
  have hlocks := B.notSynchronized
  have hP : va_P D vwCl (wN κ q th kc cp cn ro kn lv be) s.heap := hP
  have hl := lv_entry ([.ref (q 0), .int (nI p0)]) (n := 2) (Nat.le_of_ble_eq_true rfl)
  rw [lg_entry_eq]
  generalize (lg_sl ([.ref (q 0), .int (nI p0)]) ++ List.replicate (2 - (lg_sl ([.ref (q 0), .int (nI p0)])).length) Slot.unset).toArray = ls at hl ⊢
  have hl : lv_has ls 2 [(0, .ref (q 0)), (1, .int (nI p0))] := hl
  refine lv_iload_n hx hb dX7_rowOf_0 rfl (lv_at hl 1 rfl) ?_
  refine lv_iconst (v := 2) hx hb dX7_rowOf_1 (by decide) ?_
  refine lv_irem hx hb dX7_rowOf_2 (by decide) ?_
  refine lv_topi (nm_r (pk_rem (a := p0) (d := 2) (by omega) (by omega) (by omega)) ?_)
  refine lv_if_ne (tgt := 17) hx hb dX7_rowOf_3 (by decide) (fun c_3 => ?_) (fun c_3 => ?_)
  · skip
    have c_3 : ¬ ((p0 % 2) = 0) := fun h9 => c_3 ((nI_eq (a := (p0 % 2)) (b := 0) (by omega) (by omega)).mpr h9)
    refine lv_aload_n hx hb dX7_rowOf_17 rfl (lv_at hl 0 rfl) ?_
    refine va_get (D := D) (ci := 7) (v := .ref (q 8)) (C := RX7) (T := TX7) (N := 15) hx hb hts (iwX7_rowOf_7) hown hK.1 hP 0 rfl rfl 11 (by decide) (hts (.fieldLink RX7 33 "InverterGraphsModel" "rows" "[J") (by decide +kernel)) (fun _ h9 => h9) rfl dX7_rowOf_18 ?_
    refine lv_iload_n hx hb dX7_rowOf_21 rfl (lv_at hl 1 rfl) ?_
    refine lv_iconst (v := 2) hx hb dX7_rowOf_22 (by decide) ?_
    refine lv_idiv hx hb dX7_rowOf_23 (by decide) ?_
    refine lv_topi (nm_r (pk_div (a := p0) (d := 2) (by omega) (by omega) (by omega)) ?_)
    refine k_lald (D := D) (j := p0 / 2) hx hb hK.1 hP 8 1 rfl rfl (by omega) (by omega) dX7_rowOf_24 ?_
    refine lv_ldc2 (v := (-1)) hx hb hown (hts (.constantLong RX7 108 (-1)) (by decide +kernel)) dX7_rowOf_25 ?_
    refine lv_lxor hx hb dX7_rowOf_28 ?_
    exact W.lret (v := (ro (p0 / 2)) ^^^ (-1)) hx hb hr (fun t ht _ => ⟨(ro (p0 / 2)) ^^^ (-1), rfl, (by unfold m_rowOf; rw [if_neg c_3]), ht⟩) (fun _ h9 => nomatch h9) dX7_rowOf_29
  · skip
    have c_3 : (p0 % 2) = 0 := (nI_eq (a := (p0 % 2)) (b := 0) (by omega) (by omega)).mp c_3
    refine lv_aload_n hx hb dX7_rowOf_6 rfl (lv_at hl 0 rfl) ?_
    refine va_get (D := D) (ci := 7) (v := .ref (q 8)) (C := RX7) (T := TX7) (N := 15) hx hb hts (iwX7_rowOf_7) hown hK.1 hP 0 rfl rfl 11 (by decide) (hts (.fieldLink RX7 33 "InverterGraphsModel" "rows" "[J") (by decide +kernel)) (fun _ h9 => h9) rfl dX7_rowOf_7 ?_
    refine lv_iload_n hx hb dX7_rowOf_10 rfl (lv_at hl 1 rfl) ?_
    refine lv_iconst (v := 2) hx hb dX7_rowOf_11 (by decide) ?_
    refine lv_idiv hx hb dX7_rowOf_12 (by decide) ?_
    refine lv_topi (nm_r (pk_div (a := p0) (d := 2) (by omega) (by omega) (by omega)) ?_)
    refine k_lald (D := D) (j := p0 / 2) hx hb hK.1 hP 8 1 rfl rfl (by omega) (by omega) dX7_rowOf_13 ?_
    refine lv_goto (tgt := 29) hx hb dX7_rowOf_14 (by decide) ?_
    exact W.lret (v := ro (p0 / 2)) hx hb hr (fun t ht _ => ⟨ro (p0 / 2), rfl, (by unfold m_rowOf; rw [if_pos c_3]), ht⟩) (fun _ h9 => nomatch h9) dX7_rowOf_29
set_option maxHeartbeats 4000000 in
set_option maxRecDepth 100000 in
theorem c_X7_mix (l : Launch) (p0 p1 : Int64) : k_stl l yX7_mix wsX7_mix 0 0 [.long p0, .long p1] (fun r => r = m_mix p0 p1) := by
  refine Met.ofW (cc := cX7_mix) (maxL := 6) (ret := (some .long)) (by decide) rfl ?_
  intro p e s m args below meth c s₁ B hml hv
  obtain ⟨rfl, -⟩ := hv
  have hx := B.exec
  have hb := B.bytes
  have hr := B.returns
  have hts := atoms_spec (ws := wsX7_mix) B.pre
  have hown : s.vm.findClass RX7 = some m.cls := findClass_of_methodNamed B.named
  have hlocks := B.notSynchronized
  have hl := lv_entry ([.long p0, .long p1]) (n := 6) (Nat.le_of_ble_eq_true rfl)
  rw [lg_entry_eq]
  generalize (lg_sl ([.long p0, .long p1]) ++ List.replicate (6 - (lg_sl ([.long p0, .long p1])).length) Slot.unset).toArray = ls at hl ⊢
  have hl : lv_has ls 6 [(0, .long p0), (2, .long p1)] := hl
  refine lv_lload_n hx hb dX7_mix_0 rfl (lv_at hl 0 rfl) ?_
  refine lv_lload_n hx hb dX7_mix_1 rfl (lv_at hl 1 rfl) ?_
  refine lv_lconst (v := 1) hx hb dX7_mix_2 (by decide) ?_
  refine lv_ladd hx hb dX7_mix_3 ?_
  refine lv_ldc2 (v := (-7046029254386353131)) hx hb hown (hts (.constantLong RX7 102 (-7046029254386353131)) (by decide +kernel)) dX7_mix_4 ?_
  refine lv_lmul hx hb dX7_mix_7 ?_
  refine lv_ladd hx hb dX7_mix_8 ?_
  refine lv_lstore (lv' := [(4, .long (p0 + ((p1 + 1) * (-7046029254386353131)))), (0, .long p0), (2, .long p1)]) hx hb dX7_mix_9 hl (by decide) rfl (fun ls hl => ?_)
  refine lv_lload hx hb dX7_mix_11 (lv_at hl 0 rfl) ?_
  refine lv_lload hx hb dX7_mix_13 (lv_at hl 0 rfl) ?_
  refine lv_bipush (v := 30) hx hb dX7_mix_15 (by decide) ?_
  refine lv_lushr (v := k_lushr (p0 + ((p1 + 1) * (-7046029254386353131))) 30) hx hb dX7_mix_17 rfl ?_
  refine lv_lxor hx hb dX7_mix_18 ?_
  refine lv_ldc2 (v := (-4658895280553007687)) hx hb hown (hts (.constantLong RX7 104 (-4658895280553007687)) (by decide +kernel)) dX7_mix_19 ?_
  refine lv_lmul hx hb dX7_mix_22 ?_
  refine lv_lstore (lv' := [(4, .long (((p0 + ((p1 + 1) * (-7046029254386353131))) ^^^ (k_lushr (p0 + ((p1 + 1) * (-7046029254386353131))) 30)) * (-4658895280553007687))), (0, .long p0), (2, .long p1)]) hx hb dX7_mix_23 hl (by decide) rfl (fun ls hl => ?_)
  refine lv_lload hx hb dX7_mix_25 (lv_at hl 0 rfl) ?_
  refine lv_lload hx hb dX7_mix_27 (lv_at hl 0 rfl) ?_
  refine lv_bipush (v := 27) hx hb dX7_mix_29 (by decide) ?_
  refine lv_lushr (v := k_lushr (((p0 + ((p1 + 1) * (-7046029254386353131))) ^^^ (k_lushr (p0 + ((p1 + 1) * (-7046029254386353131))) 30)) * (-4658895280553007687)) 27) hx hb dX7_mix_31 rfl ?_
  refine lv_lxor hx hb dX7_mix_32 ?_
  refine lv_ldc2 (v := (-7723592293110705685)) hx hb hown (hts (.constantLong RX7 106 (-7723592293110705685)) (by decide +kernel)) dX7_mix_33 ?_
  refine lv_lmul hx hb dX7_mix_36 ?_
  refine lv_lstore (lv' := [(4, .long (((((p0 + ((p1 + 1) * (-7046029254386353131))) ^^^ (k_lushr (p0 + ((p1 + 1) * (-7046029254386353131))) 30)) * (-4658895280553007687)) ^^^ (k_lushr (((p0 + ((p1 + 1) * (-7046029254386353131))) ^^^ (k_lushr (p0 + ((p1 + 1) * (-7046029254386353131))) 30)) * (-4658895280553007687)) 27)) * (-7723592293110705685))), (0, .long p0), (2, .long p1)]) hx hb dX7_mix_37 hl (by decide) rfl (fun ls hl => ?_)
  refine lv_lload hx hb dX7_mix_39 (lv_at hl 0 rfl) ?_
  refine lv_lload hx hb dX7_mix_41 (lv_at hl 0 rfl) ?_
  refine lv_bipush (v := 31) hx hb dX7_mix_43 (by decide) ?_
  refine lv_lushr (v := k_lushr (((((p0 + ((p1 + 1) * (-7046029254386353131))) ^^^ (k_lushr (p0 + ((p1 + 1) * (-7046029254386353131))) 30)) * (-4658895280553007687)) ^^^ (k_lushr (((p0 + ((p1 + 1) * (-7046029254386353131))) ^^^ (k_lushr (p0 + ((p1 + 1) * (-7046029254386353131))) 30)) * (-4658895280553007687)) 27)) * (-7723592293110705685)) 31) hx hb dX7_mix_45 rfl ?_
  refine lv_lxor hx hb dX7_mix_46 ?_
  exact W.lret (v := (((((p0 + ((p1 + 1) * (-7046029254386353131))) ^^^ (k_lushr (p0 + ((p1 + 1) * (-7046029254386353131))) 30)) * (-4658895280553007687)) ^^^ (k_lushr (((p0 + ((p1 + 1) * (-7046029254386353131))) ^^^ (k_lushr (p0 + ((p1 + 1) * (-7046029254386353131))) 30)) * (-4658895280553007687)) 27)) * (-7723592293110705685)) ^^^ (k_lushr (((((p0 + ((p1 + 1) * (-7046029254386353131))) ^^^ (k_lushr (p0 + ((p1 + 1) * (-7046029254386353131))) 30)) * (-4658895280553007687)) ^^^ (k_lushr (((p0 + ((p1 + 1) * (-7046029254386353131))) ^^^ (k_lushr (p0 + ((p1 + 1) * (-7046029254386353131))) 30)) * (-4658895280553007687)) 27)) * (-7723592293110705685)) 31)) hx hb hr (fun t ht _ => ⟨(((((p0 + ((p1 + 1) * (-7046029254386353131))) ^^^ (k_lushr (p0 + ((p1 + 1) * (-7046029254386353131))) 30)) * (-4658895280553007687)) ^^^ (k_lushr (((p0 + ((p1 + 1) * (-7046029254386353131))) ^^^ (k_lushr (p0 + ((p1 + 1) * (-7046029254386353131))) 30)) * (-4658895280553007687)) 27)) * (-7723592293110705685)) ^^^ (k_lushr (((((p0 + ((p1 + 1) * (-7046029254386353131))) ^^^ (k_lushr (p0 + ((p1 + 1) * (-7046029254386353131))) 30)) * (-4658895280553007687)) ^^^ (k_lushr (((p0 + ((p1 + 1) * (-7046029254386353131))) ^^^ (k_lushr (p0 + ((p1 + 1) * (-7046029254386353131))) 30)) * (-4658895280553007687)) 27)) * (-7723592293110705685)) 31), rfl, rfl, ht⟩) (fun _ h9 => nomatch h9) dX7_mix_47
theorem iwX7_simple_7 : ∀ w ∈ wsX70, w ∈ wsX7_simple := by decide +kernel
set_option maxHeartbeats 4000000 in
set_option maxRecDepth 100000 in
theorem c_X7_simple (l : Launch) (D : va_G) (κ : Nat → ClassId) (q : Nat → Nat) (th : Int32) (kc : KC) (cp : Nat → Int32) (cn : Nat) (ro : Nat → Int64) (kn : Int32) (lv be : Nat → Int32) (p0 p1 : Nat) (p2 : Int32) (hnd : mnd kc ≤ 400) (hoc : moc kc ≤ 40) (hcn : cn ≤ 30) (hp0 : p0 < 2 * mnd kc) (hp1 : p1 < 2 * mnd kc) (hlt : ∀ j, j < mnd kc → mso kc j = 2 → mon kc j < 2 * mnd kc ∧ mtw kc j < 2 * mnd kc) : k_roi l yX7_simple wsX7_simple 0 0 D κ [.ref (q 0), .int (nI p0), .int (nI p1), .int p2] (wN κ q th kc cp cn ro kn lv be) (fun r => r = m_simple kc p0 p1 p2) := by
  refine Met.ofW (cc := cX7_simple) (maxL := 6) (ret := (some .int)) (by decide) rfl ?_
  intro p e s m args below meth c s₁ B hml hv
  obtain ⟨rfl, hK, hP⟩ := hv
  have hx := B.exec
  have hb := B.bytes
  have hr := B.returns
  have hts := atoms_spec (ws := wsX7_simple) B.pre
  have hown : s.vm.findClass RX7 = some m.cls := findClass_of_methodNamed B.named
  have hlocks := B.notSynchronized
  have hP : va_P D vwCl (wN κ q th kc cp cn ro kn lv be) s.heap := hP
  have hl := lv_entry ([.ref (q 0), .int (nI p0), .int (nI p1), .int p2]) (n := 6) (Nat.le_of_ble_eq_true rfl)
  rw [lg_entry_eq]
  generalize (lg_sl ([.ref (q 0), .int (nI p0), .int (nI p1), .int p2]) ++ List.replicate (6 - (lg_sl ([.ref (q 0), .int (nI p0), .int (nI p1), .int p2])).length) Slot.unset).toArray = ls at hl ⊢
  have hl : lv_has ls 6 [(0, .ref (q 0)), (1, .int (nI p0)), (2, .int (nI p1)), (3, .int p2)] := hl
  refine lv_iload_n hx hb dX7_simple_0 rfl (lv_at hl 1 rfl) ?_
  refine lv_iload_n hx hb dX7_simple_1 rfl (lv_at hl 2 rfl) ?_
  refine lv_icmp_ne (tgt := 7) hx hb dX7_simple_2 (by decide) (fun c_2 => ?_) (fun c_2 => ?_)
  · skip
    have c_2 : ¬ (p0 = p1) := fun h9 => c_2 ((nI_eq (a := p0) (b := p1) (by omega) (by omega)).mpr h9)
    refine lv_iload_n hx hb dX7_simple_7 rfl (lv_at hl 1 rfl) ?_
    refine lv_iconst (v := 2) hx hb dX7_simple_8 (by decide) ?_
    refine lv_idiv hx hb dX7_simple_9 (by decide) ?_
    refine lv_topi (nm_r (pk_div (a := p0) (d := 2) (by omega) (by omega) (by omega)) ?_)
    refine lv_iload_n hx hb dX7_simple_10 rfl (lv_at hl 2 rfl) ?_
    refine lv_iconst (v := 2) hx hb dX7_simple_11 (by decide) ?_
    refine lv_idiv hx hb dX7_simple_12 (by decide) ?_
    refine lv_topi (nm_r (pk_div (a := p1) (d := 2) (by omega) (by omega) (by omega)) ?_)
    refine lv_icmp_eq (tgt := 24) hx hb dX7_simple_13 (by decide) (fun c_13 => ?_) (fun c_13 => ?_)
    · skip
      have c_13 : (p0 / 2) = (p1 / 2) := (nI_eq (a := (p0 / 2)) (b := (p1 / 2)) (by omega) (by omega)).mp c_13
      refine lv_iconst (v := 0) hx hb dX7_simple_24 (by decide) ?_
      exact W.iret (v := 0) hx hb hr (fun t ht _ => ⟨0, rfl, (by unfold m_simple; rw [if_neg c_2, if_pos c_13]), ht⟩) (fun _ h9 => nomatch h9) dX7_simple_25
    · skip
      have c_13 : ¬ ((p0 / 2) = (p1 / 2)) := fun h9 => c_13 ((nI_eq (a := (p0 / 2)) (b := (p1 / 2)) (by omega) (by omega)).mpr h9)
      refine lv_iload_n hx hb dX7_simple_16 rfl (lv_at hl 1 rfl) ?_
      refine lv_if_eq (tgt := 24) hx hb dX7_simple_17 (by decide) (fun c_17 => ?_) (fun c_17 => ?_)
      · skip
        have c_17 : p0 = 0 := (nI_eq (a := p0) (b := 0) (by omega) (by omega)).mp c_17
        refine lv_iconst (v := 0) hx hb dX7_simple_24 (by decide) ?_
        exact W.iret (v := 0) hx hb hr (fun t ht _ => ⟨0, rfl, (by unfold m_simple; rw [if_neg c_2, if_neg c_13, if_pos c_17]), ht⟩) (fun _ h9 => nomatch h9) dX7_simple_25
      · skip
        have c_17 : ¬ (p0 = 0) := fun h9 => c_17 ((nI_eq (a := p0) (b := 0) (by omega) (by omega)).mpr h9)
        refine lv_iload_n hx hb dX7_simple_20 rfl (lv_at hl 2 rfl) ?_
        refine lv_if_ne (tgt := 26) hx hb dX7_simple_21 (by decide) (fun c_21 => ?_) (fun c_21 => ?_)
        · skip
          have c_21 : ¬ (p1 = 0) := fun h9 => c_21 ((nI_eq (a := p1) (b := 0) (by omega) (by omega)).mpr h9)
          refine lv_iload_n hx hb dX7_simple_26 rfl (lv_at hl 1 rfl) ?_
          refine lv_iconst (v := 1) hx hb dX7_simple_27 (by decide) ?_
          refine lv_icmp_eq (tgt := 36) hx hb dX7_simple_28 (by decide) (fun c_28 => ?_) (fun c_28 => ?_)
          · skip
            have c_28 : p0 = 1 := (nI_eq (a := p0) (b := 1) (by omega) (by omega)).mp c_28
            refine lv_iload_n hx hb dX7_simple_36 rfl (lv_at hl 1 rfl) ?_
            refine lv_iconst (v := 1) hx hb dX7_simple_37 (by decide) ?_
            refine lv_icmp_ne (tgt := 45) hx hb dX7_simple_38 (by decide) (fun c_38 => ?_) (fun c_38 => ?_)
            · skip
              have c_38 : ¬ (p0 = 1) := fun h9 => c_38 ((nI_eq (a := p0) (b := 1) (by omega) (by omega)).mpr h9)
              exfalso; exact c_38 c_28
            · skip
              have c_38 : p0 = 1 := (nI_eq (a := p0) (b := 1) (by omega) (by omega)).mp c_38
              refine lv_iload_n hx hb dX7_simple_41 rfl (lv_at hl 2 rfl) ?_
              refine lv_goto (tgt := 46) hx hb dX7_simple_42 (by decide) ?_
              exact W.iret (v := nI p1) hx hb hr (fun t ht _ => ⟨nI p1, rfl, (by unfold m_simple; rw [if_neg c_2, if_neg c_13, if_neg c_17, if_neg c_21, if_pos c_28]), ht⟩) (fun _ h9 => nomatch h9) dX7_simple_46
          · skip
            have c_28 : ¬ (p0 = 1) := fun h9 => c_28 ((nI_eq (a := p0) (b := 1) (by omega) (by omega)).mpr h9)
            refine lv_iload_n hx hb dX7_simple_31 rfl (lv_at hl 2 rfl) ?_
            refine lv_iconst (v := 1) hx hb dX7_simple_32 (by decide) ?_
            refine lv_icmp_ne (tgt := 47) hx hb dX7_simple_33 (by decide) (fun c_33 => ?_) (fun c_33 => ?_)
            · skip
              have c_33 : ¬ (p1 = 1) := fun h9 => c_33 ((nI_eq (a := p1) (b := 1) (by omega) (by omega)).mpr h9)
              refine lv_iconst (v := 0) hx hb dX7_simple_47 (by decide) ?_
              refine lv_istore (lv' := [(4, .int 0), (0, .ref (q 0)), (1, .int (nI p0)), (2, .int (nI p1)), (3, .int p2)]) hx hb dX7_simple_48 hl (by decide) rfl (fun ls hl => ?_)
              have lp : ∀ (k i : Nat) (ls : Array Slot), (i + k = mnd kc) → (m_sa kc p0 p1 p2 k i = m_simple kc p0 p1 p2) → lv_has ls 6 [(0, .ref (q 0)), (1, .int (nI p0)), (2, .int (nI p1)), (3, .int p2), (4, .int (nI i))] → W p l e (headSpec wsX7_simple ({ frames := 0, cells := 0, slots := 0, locals := 0 })).room s m ([.ref (q 0), .int (nI p0), .int (nI p1), .int p2] : List Value).toArray below meth c s.heap [] 0 0 (MQ below (vp_Si (fun r => r = m_simple kc p0 p1 p2)) ([.ref (q 0), .int (nI p0), .int (nI p1), .int p2] : List Value).toArray s 0 0 (fun _ => False)) (F0 m 50 ls []) := by
                intro k
                induction k with
                | zero =>
                  intro i ls hi hr9 hl
                  refine lv_iload hx hb dX7_simple_50 (lv_at hl 4 rfl) ?_
                  refine lv_aload_n hx hb dX7_simple_52 rfl (lv_at hl 0 rfl) ?_
                  refine va_get (D := D) (ci := 7) (v := .int (nI (mnd kc))) (C := RX7) (T := TX7) (N := 15) hx hb hts (iwX7_simple_7) hown hK.1 hP 0 rfl rfl 5 (by decide) (hts (.fieldLink RX7 43 "InverterGraphsModel" "nodes" "I") (by decide +kernel)) (fun _ h9 => h9) rfl dX7_simple_53 ?_
                  refine lv_icmp_ge (tgt := 143) hx hb dX7_simple_56 (by decide) (fun c_56 => ?_) (fun c_56 => ?_)
                  · skip
                    have c_56 : (mnd kc) ≤ i := (nI_leI (a := (mnd kc)) (b := i) (by omega) (by omega)).mp c_56
                    refine lv_iconst (v := (-1)) hx hb dX7_simple_143 (by decide) ?_
                    exact W.iret (v := (-1)) hx hb hr (fun t ht _ => ⟨(-1), rfl, hr9, ht⟩) (fun _ h9 => nomatch h9) dX7_simple_144
                  · skip
                    have c_56 : ¬ ((mnd kc) ≤ i) := fun h9 => c_56 ((nI_leI (a := (mnd kc)) (b := i) (by omega) (by omega)).mpr h9)
                    exfalso; omega
                | succ k ih =>
                  intro i ls hi hr9 hl
                  refine lv_iload hx hb dX7_simple_50 (lv_at hl 4 rfl) ?_
                  refine lv_aload_n hx hb dX7_simple_52 rfl (lv_at hl 0 rfl) ?_
                  refine va_get (D := D) (ci := 7) (v := .int (nI (mnd kc))) (C := RX7) (T := TX7) (N := 15) hx hb hts (iwX7_simple_7) hown hK.1 hP 0 rfl rfl 5 (by decide) (hts (.fieldLink RX7 43 "InverterGraphsModel" "nodes" "I") (by decide +kernel)) (fun _ h9 => h9) rfl dX7_simple_53 ?_
                  refine lv_icmp_ge (tgt := 143) hx hb dX7_simple_56 (by decide) (fun c_56 => ?_) (fun c_56 => ?_)
                  · skip
                    have c_56 : (mnd kc) ≤ i := (nI_leI (a := (mnd kc)) (b := i) (by omega) (by omega)).mp c_56
                    exfalso; omega
                  · skip
                    have c_56 : ¬ ((mnd kc) ≤ i) := fun h9 => c_56 ((nI_leI (a := (mnd kc)) (b := i) (by omega) (by omega)).mpr h9)
                    refine lv_aload_n hx hb dX7_simple_59 rfl (lv_at hl 0 rfl) ?_
                    refine va_get (D := D) (ci := 7) (v := .ref (q 1)) (C := RX7) (T := TX7) (N := 15) hx hb hts (iwX7_simple_7) hown hK.1 hP 0 rfl rfl 1 (by decide) (hts (.fieldLink RX7 7 "InverterGraphsModel" "sorts" "[I") (by decide +kernel)) (fun _ h9 => h9) rfl dX7_simple_60 ?_
                    refine lv_iload hx hb dX7_simple_63 (lv_at hl 4 rfl) ?_
                    refine k_iald (D := D) (j := i) hx hb hK.1 hP 1 0 rfl rfl (by omega) (by omega) dX7_simple_65 ?_
                    refine lv_iconst (v := 2) hx hb dX7_simple_66 (by decide) ?_
                    have J_67 : ∀ z : Int32, z = (if (mso kc) i = 2 then if nI i = p2 then 0 else if ((mon kc) i) = p0 then if ((mtw kc) i) = p1 then 1 else if ((mon kc) i) = p1 then if ((mtw kc) i) = p0 then 1 else 0 else 0 else if ((mon kc) i) = p1 then if ((mtw kc) i) = p0 then 1 else 0 else 0 else 0) → W p l e (headSpec wsX7_simple ({ frames := 0, cells := 0, slots := 0, locals := 0 })).room s m ([.ref (q 0), .int (nI p0), .int (nI p1), .int p2] : List Value).toArray below meth c s.heap [] 0 0 (MQ below (vp_Si (fun r => r = m_simple kc p0 p1 p2)) ([.ref (q 0), .int (nI p0), .int (nI p1), .int p2] : List Value).toArray s 0 0 (fun _ => False)) (F0 m 125 ls [.int z]) := by
                      intro z ez
                      subst ez
                      refine lv_istore (lv' := [(5, .int (if (mso kc) i = 2 then if nI i = p2 then 0 else if ((mon kc) i) = p0 then if ((mtw kc) i) = p1 then 1 else if ((mon kc) i) = p1 then if ((mtw kc) i) = p0 then 1 else 0 else 0 else if ((mon kc) i) = p1 then if ((mtw kc) i) = p0 then 1 else 0 else 0 else 0)), (0, .ref (q 0)), (1, .int (nI p0)), (2, .int (nI p1)), (3, .int p2), (4, .int (nI i))]) hx hb dX7_simple_125 hl (by decide) rfl (fun ls hl => ?_)
                      refine lv_iload hx hb dX7_simple_127 (lv_at hl 0 rfl) ?_
                      refine lv_if_eq (tgt := 137) hx hb dX7_simple_129 (by decide) (fun c_129 => ?_) (fun c_129 => ?_)
                      · skip
                        refine lv_iinc (v := nI (i + 1)) (lv' := [(4, .int (nI (i + 1))), (5, .int (if (mso kc) i = 2 then if nI i = p2 then 0 else if ((mon kc) i) = p0 then if ((mtw kc) i) = p1 then 1 else if ((mon kc) i) = p1 then if ((mtw kc) i) = p0 then 1 else 0 else 0 else if ((mon kc) i) = p1 then if ((mtw kc) i) = p0 then 1 else 0 else 0 else 0)), (0, .ref (q 0)), (1, .int (nI p0)), (2, .int (nI p1)), (3, .int p2)]) hx hb dX7_simple_137 hl (k := 5) rfl (nI_1 _) (by decide) rfl (fun ls hl => ?_)
                        refine lv_goto (tgt := 50) hx hb dX7_simple_140 (by decide) ?_
                        exact ih (i + 1) ls (by omega) (by rw [← hr9, m_sa, if_pos (show m_hit kc p0 p1 p2 i = 0 from c_129)]) (lv_sub hl [2, 3, 4, 5, 0] rfl)
                      · skip
                        refine lv_iconst (v := 2) hx hb dX7_simple_132 (by decide) ?_
                        refine lv_iload hx hb dX7_simple_133 (lv_at hl 5 rfl) ?_
                        refine lv_imul hx hb dX7_simple_135 ?_
                        refine lv_topi (nm_r (pk_mul 2 i) ?_)
                        exact W.iret (v := nI (2 * i)) hx hb hr (fun t ht _ => ⟨nI (2 * i), rfl, (by rw [← hr9, m_sa, if_neg (show ¬ m_hit kc p0 p1 p2 i = 0 from c_129)]), ht⟩) (fun _ h9 => nomatch h9) dX7_simple_136
                    refine lv_icmp_ne (tgt := 124) hx hb dX7_simple_67 (by decide) (fun c_67 => ?_) (fun c_67 => ?_)
                    · skip
                      refine lv_iconst (v := 0) hx hb dX7_simple_124 (by decide) ?_
                      exact J_67 _ (by rw [if_neg c_67])
                    · skip
                      have hx9 := hlt i (by omega) c_67
                      refine lv_iload hx hb dX7_simple_70 (lv_at hl 4 rfl) ?_
                      refine lv_iload_n hx hb dX7_simple_72 rfl (lv_at hl 3 rfl) ?_
                      refine lv_icmp_eq (tgt := 124) hx hb dX7_simple_73 (by decide) (fun c_73 => ?_) (fun c_73 => ?_)
                      · skip
                        refine lv_iconst (v := 0) hx hb dX7_simple_124 (by decide) ?_
                        exact J_67 _ (by rw [if_pos c_67, if_pos c_73])
                      · skip
                        refine lv_aload_n hx hb dX7_simple_76 rfl (lv_at hl 0 rfl) ?_
                        refine va_get (D := D) (ci := 7) (v := .ref (q 2)) (C := RX7) (T := TX7) (N := 15) hx hb hts (iwX7_simple_7) hown hK.1 hP 0 rfl rfl 2 (by decide) (hts (.fieldLink RX7 13 "InverterGraphsModel" "ones" "[I") (by decide +kernel)) (fun _ h9 => h9) rfl dX7_simple_77 ?_
                        refine lv_iload hx hb dX7_simple_80 (lv_at hl 4 rfl) ?_
                        refine k_iald (D := D) (j := i) hx hb hK.1 hP 2 0 rfl rfl (by omega) (by omega) dX7_simple_82 ?_
                        refine lv_iload_n hx hb dX7_simple_83 rfl (lv_at hl 1 rfl) ?_
                        refine lv_icmp_ne (tgt := 98) hx hb dX7_simple_84 (by decide) (fun c_84 => ?_) (fun c_84 => ?_)
                        · skip
                          have c_84 : ¬ (((mon kc) i) = p0) := fun h9 => c_84 ((nI_eq (a := ((mon kc) i)) (b := p0) (by omega) (by omega)).mpr h9)
                          refine lv_aload_n hx hb dX7_simple_98 rfl (lv_at hl 0 rfl) ?_
                          refine va_get (D := D) (ci := 7) (v := .ref (q 2)) (C := RX7) (T := TX7) (N := 15) hx hb hts (iwX7_simple_7) hown hK.1 hP 0 rfl rfl 2 (by decide) (hts (.fieldLink RX7 13 "InverterGraphsModel" "ones" "[I") (by decide +kernel)) (fun _ h9 => h9) rfl dX7_simple_99 ?_
                          refine lv_iload hx hb dX7_simple_102 (lv_at hl 4 rfl) ?_
                          refine k_iald (D := D) (j := i) hx hb hK.1 hP 2 0 rfl rfl (by omega) (by omega) dX7_simple_104 ?_
                          refine lv_iload_n hx hb dX7_simple_105 rfl (lv_at hl 2 rfl) ?_
                          refine lv_icmp_ne (tgt := 124) hx hb dX7_simple_106 (by decide) (fun c_106 => ?_) (fun c_106 => ?_)
                          · skip
                            have c_106 : ¬ (((mon kc) i) = p1) := fun h9 => c_106 ((nI_eq (a := ((mon kc) i)) (b := p1) (by omega) (by omega)).mpr h9)
                            refine lv_iconst (v := 0) hx hb dX7_simple_124 (by decide) ?_
                            exact J_67 _ (by rw [if_pos c_67, if_neg c_73, if_neg c_84, if_neg c_106])
                          · skip
                            have c_106 : ((mon kc) i) = p1 := (nI_eq (a := ((mon kc) i)) (b := p1) (by omega) (by omega)).mp c_106
                            refine lv_aload_n hx hb dX7_simple_109 rfl (lv_at hl 0 rfl) ?_
                            refine va_get (D := D) (ci := 7) (v := .ref (q 3)) (C := RX7) (T := TX7) (N := 15) hx hb hts (iwX7_simple_7) hown hK.1 hP 0 rfl rfl 3 (by decide) (hts (.fieldLink RX7 16 "InverterGraphsModel" "twos" "[I") (by decide +kernel)) (fun _ h9 => h9) rfl dX7_simple_110 ?_
                            refine lv_iload hx hb dX7_simple_113 (lv_at hl 4 rfl) ?_
                            refine k_iald (D := D) (j := i) hx hb hK.1 hP 3 0 rfl rfl (by omega) (by omega) dX7_simple_115 ?_
                            refine lv_iload_n hx hb dX7_simple_116 rfl (lv_at hl 1 rfl) ?_
                            refine lv_icmp_ne (tgt := 124) hx hb dX7_simple_117 (by decide) (fun c_117 => ?_) (fun c_117 => ?_)
                            · skip
                              have c_117 : ¬ (((mtw kc) i) = p0) := fun h9 => c_117 ((nI_eq (a := ((mtw kc) i)) (b := p0) (by omega) (by omega)).mpr h9)
                              refine lv_iconst (v := 0) hx hb dX7_simple_124 (by decide) ?_
                              exact J_67 _ (by rw [if_pos c_67, if_neg c_73, if_neg c_84, if_pos c_106, if_neg c_117])
                            · skip
                              have c_117 : ((mtw kc) i) = p0 := (nI_eq (a := ((mtw kc) i)) (b := p0) (by omega) (by omega)).mp c_117
                              refine lv_iconst (v := 1) hx hb dX7_simple_120 (by decide) ?_
                              refine lv_goto (tgt := 125) hx hb dX7_simple_121 (by decide) ?_
                              exact J_67 _ (by rw [if_pos c_67, if_neg c_73, if_neg c_84, if_pos c_106, if_pos c_117])
                        · skip
                          have c_84 : ((mon kc) i) = p0 := (nI_eq (a := ((mon kc) i)) (b := p0) (by omega) (by omega)).mp c_84
                          refine lv_aload_n hx hb dX7_simple_87 rfl (lv_at hl 0 rfl) ?_
                          refine va_get (D := D) (ci := 7) (v := .ref (q 3)) (C := RX7) (T := TX7) (N := 15) hx hb hts (iwX7_simple_7) hown hK.1 hP 0 rfl rfl 3 (by decide) (hts (.fieldLink RX7 16 "InverterGraphsModel" "twos" "[I") (by decide +kernel)) (fun _ h9 => h9) rfl dX7_simple_88 ?_
                          refine lv_iload hx hb dX7_simple_91 (lv_at hl 4 rfl) ?_
                          refine k_iald (D := D) (j := i) hx hb hK.1 hP 3 0 rfl rfl (by omega) (by omega) dX7_simple_93 ?_
                          refine lv_iload_n hx hb dX7_simple_94 rfl (lv_at hl 2 rfl) ?_
                          refine lv_icmp_eq (tgt := 120) hx hb dX7_simple_95 (by decide) (fun c_95 => ?_) (fun c_95 => ?_)
                          · skip
                            have c_95 : ((mtw kc) i) = p1 := (nI_eq (a := ((mtw kc) i)) (b := p1) (by omega) (by omega)).mp c_95
                            refine lv_iconst (v := 1) hx hb dX7_simple_120 (by decide) ?_
                            refine lv_goto (tgt := 125) hx hb dX7_simple_121 (by decide) ?_
                            exact J_67 _ (by rw [if_pos c_67, if_neg c_73, if_pos c_84, if_pos c_95])
                          · skip
                            have c_95 : ¬ (((mtw kc) i) = p1) := fun h9 => c_95 ((nI_eq (a := ((mtw kc) i)) (b := p1) (by omega) (by omega)).mpr h9)
                            refine lv_aload_n hx hb dX7_simple_98 rfl (lv_at hl 0 rfl) ?_
                            refine va_get (D := D) (ci := 7) (v := .ref (q 2)) (C := RX7) (T := TX7) (N := 15) hx hb hts (iwX7_simple_7) hown hK.1 hP 0 rfl rfl 2 (by decide) (hts (.fieldLink RX7 13 "InverterGraphsModel" "ones" "[I") (by decide +kernel)) (fun _ h9 => h9) rfl dX7_simple_99 ?_
                            refine lv_iload hx hb dX7_simple_102 (lv_at hl 4 rfl) ?_
                            refine k_iald (D := D) (j := i) hx hb hK.1 hP 2 0 rfl rfl (by omega) (by omega) dX7_simple_104 ?_
                            refine lv_iload_n hx hb dX7_simple_105 rfl (lv_at hl 2 rfl) ?_
                            refine lv_icmp_ne (tgt := 124) hx hb dX7_simple_106 (by decide) (fun c_106 => ?_) (fun c_106 => ?_)
                            · skip
                              have c_106 : ¬ (((mon kc) i) = p1) := fun h9 => c_106 ((nI_eq (a := ((mon kc) i)) (b := p1) (by omega) (by omega)).mpr h9)
                              refine lv_iconst (v := 0) hx hb dX7_simple_124 (by decide) ?_
                              exact J_67 _ (by rw [if_pos c_67, if_neg c_73, if_pos c_84, if_neg c_95, if_neg c_106])
                            · skip
                              have c_106 : ((mon kc) i) = p1 := (nI_eq (a := ((mon kc) i)) (b := p1) (by omega) (by omega)).mp c_106
                              refine lv_aload_n hx hb dX7_simple_109 rfl (lv_at hl 0 rfl) ?_
                              refine va_get (D := D) (ci := 7) (v := .ref (q 3)) (C := RX7) (T := TX7) (N := 15) hx hb hts (iwX7_simple_7) hown hK.1 hP 0 rfl rfl 3 (by decide) (hts (.fieldLink RX7 16 "InverterGraphsModel" "twos" "[I") (by decide +kernel)) (fun _ h9 => h9) rfl dX7_simple_110 ?_
                              refine lv_iload hx hb dX7_simple_113 (lv_at hl 4 rfl) ?_
                              refine k_iald (D := D) (j := i) hx hb hK.1 hP 3 0 rfl rfl (by omega) (by omega) dX7_simple_115 ?_
                              refine lv_iload_n hx hb dX7_simple_116 rfl (lv_at hl 1 rfl) ?_
                              refine lv_icmp_ne (tgt := 124) hx hb dX7_simple_117 (by decide) (fun c_117 => ?_) (fun c_117 => ?_)
                              · skip
                                have c_117 : ¬ (((mtw kc) i) = p0) := fun h9 => c_117 ((nI_eq (a := ((mtw kc) i)) (b := p0) (by omega) (by omega)).mpr h9)
                                refine lv_iconst (v := 0) hx hb dX7_simple_124 (by decide) ?_
                                exact J_67 _ (by rw [if_pos c_67, if_neg c_73, if_pos c_84, if_neg c_95, if_pos c_106, if_neg c_117])
                              · skip
                                have c_117 : ((mtw kc) i) = p0 := (nI_eq (a := ((mtw kc) i)) (b := p0) (by omega) (by omega)).mp c_117
                                refine lv_iconst (v := 1) hx hb dX7_simple_120 (by decide) ?_
                                refine lv_goto (tgt := 125) hx hb dX7_simple_121 (by decide) ?_
                                exact J_67 _ (by rw [if_pos c_67, if_neg c_73, if_pos c_84, if_neg c_95, if_pos c_106, if_pos c_117])
              exact lp (mnd kc) 0 ls (by omega) (by unfold m_simple; rw [if_neg c_2, if_neg c_13, if_neg c_17, if_neg c_21, if_neg c_28, if_neg c_33]) (lv_sub hl [1, 2, 3, 4, 0] rfl)
            · skip
              have c_33 : p1 = 1 := (nI_eq (a := p1) (b := 1) (by omega) (by omega)).mp c_33
              refine lv_iload_n hx hb dX7_simple_36 rfl (lv_at hl 1 rfl) ?_
              refine lv_iconst (v := 1) hx hb dX7_simple_37 (by decide) ?_
              refine lv_icmp_ne (tgt := 45) hx hb dX7_simple_38 (by decide) (fun c_38 => ?_) (fun c_38 => ?_)
              · skip
                have c_38 : ¬ (p0 = 1) := fun h9 => c_38 ((nI_eq (a := p0) (b := 1) (by omega) (by omega)).mpr h9)
                refine lv_iload_n hx hb dX7_simple_45 rfl (lv_at hl 1 rfl) ?_
                exact W.iret (v := nI p0) hx hb hr (fun t ht _ => ⟨nI p0, rfl, (by unfold m_simple; rw [if_neg c_2, if_neg c_13, if_neg c_17, if_neg c_21, if_neg c_28, if_pos c_33]), ht⟩) (fun _ h9 => nomatch h9) dX7_simple_46
              · skip
                have c_38 : p0 = 1 := (nI_eq (a := p0) (b := 1) (by omega) (by omega)).mp c_38
                exfalso; exact c_28 c_38
        · skip
          have c_21 : p1 = 0 := (nI_eq (a := p1) (b := 0) (by omega) (by omega)).mp c_21
          refine lv_iconst (v := 0) hx hb dX7_simple_24 (by decide) ?_
          exact W.iret (v := 0) hx hb hr (fun t ht _ => ⟨0, rfl, (by unfold m_simple; rw [if_neg c_2, if_neg c_13, if_neg c_17, if_pos c_21]), ht⟩) (fun _ h9 => nomatch h9) dX7_simple_25
  · skip
    have c_2 : p0 = p1 := (nI_eq (a := p0) (b := p1) (by omega) (by omega)).mp c_2
    refine lv_iload_n hx hb dX7_simple_5 rfl (lv_at hl 1 rfl) ?_
    exact W.iret (v := nI p0) hx hb hr (fun t ht _ => ⟨nI p0, rfl, (by unfold m_simple; rw [if_pos c_2]), ht⟩) (fun _ h9 => nomatch h9) dX7_simple_6
