/-! WORLDS: the lists of cells of the class's and the reference's objects; arrays read and written at counted places -/
section KA
variable {p : Program} {l : Launch} {e : Env} {R : Room} {s : State} {m : MethodId} {args : Array Value} {below : List Frame} {meth : Method} {c : Code} {H H0 : Heap} {locs : List Loc} {cells slots : Nat} {Q : State → Prop} {A : Nat → Prop}
variable {cc : ByteArray} {pc a : Nat} {ls : Array Slot} {rest : List Value} {D : va_G} {cl : List vw_C} {tys : List (ClassId × FieldType)} {ws : va_W}
theorem k_iald {j : Nat} (hexec : p.tables.exec = Jvm.exec) (hb : c.code = cc) (hK : va_K D cl tys s) (hP : va_P D cl ws H) (q0 t0 : Nat) {cA : ClassId} {n : Nat} {f : Nat → Int32} (ha : ws[q0]? = some (a, .inl (cA, n, .inl f))) (ht : tys[t0]? = some (cA, .int)) (hj : j < n) (hn : n < 2 ^ 31) (hdg : decode cc pc = .ok (.iaload, 1))
    (kk : W p l e R s m args below meth c H locs cells slots Q (F0 m (pc + 1) ls (.int (f j) :: rest))) : W p l e R s m args below meth c H locs cells slots Q (F0 m pc ls (.int (nI j) :: .ref a :: rest)) :=
  va_iald hexec hb hK hP q0 t0 ha ht (vp_in_nI hj hn) hdg (by rw [nI_clamp (by omega)]; exact kk)
theorem k_zald {j : Nat} (hexec : p.tables.exec = Jvm.exec) (hb : c.code = cc) (hK : va_K D cl tys s) (hP : va_P D cl ws H) (q0 t0 : Nat) {cA : ClassId} {n : Nat} {f : Nat → Int32} (ha : ws[q0]? = some (a, .inl (cA, n, .inl f))) (ht : tys[t0]? = some (cA, .boolean)) (hj : j < n) (hn : n < 2 ^ 31) (hdg : decode cc pc = .ok (.baload, 1))
    (kk : W p l e R s m args below meth c H locs cells slots Q (F0 m (pc + 1) ls (.int (f j) :: rest))) : W p l e R s m args below meth c H locs cells slots Q (F0 m pc ls (.int (nI j) :: .ref a :: rest)) :=
  va_zald hexec hb hK hP q0 t0 ha ht (vp_in_nI hj hn) hdg (by rw [nI_clamp (by omega)]; exact kk)
theorem k_lald {j : Nat} (hexec : p.tables.exec = Jvm.exec) (hb : c.code = cc) (hK : va_K D cl tys s) (hP : va_P D cl ws H) (q0 t0 : Nat) {cA : ClassId} {n : Nat} {f : Nat → Int64} (ha : ws[q0]? = some (a, .inl (cA, n, .inr (.inl f)))) (ht : tys[t0]? = some (cA, .long)) (hj : j < n) (hn : n < 2 ^ 31) (hdg : decode cc pc = .ok (.laload, 1))
    (kk : W p l e R s m args below meth c H locs cells slots Q (F0 m (pc + 1) ls (.long (f j) :: rest))) : W p l e R s m args below meth c H locs cells slots Q (F0 m pc ls (.int (nI j) :: .ref a :: rest)) :=
  va_lald hexec hb hK hP q0 t0 ha ht (vp_in_nI hj hn) hdg (by rw [nI_clamp (by omega)]; exact kk)
theorem k_iast {j : Nat} {x : Int32} (hexec : p.tables.exec = Jvm.exec) (hb : c.code = cc) (hK : va_K D cl tys s) (hP : va_P D cl ws H) (hD : va_D A ws) (hS : va_S A H0 H locs) (q0 t0 : Nat) {cA : ClassId} {n : Nat} {f : Nat → Int32} (ha : ws[q0]? = some (a, .inl (cA, n, .inl f))) (ht : tys[t0]? = some (cA, .int)) (hj : j < n) (hn : n < 2 ^ 31) (hdg : decode cc pc = .ok (.iastore, 1))
    (kk : ∀ (H1 : Heap) (locs1 : List Loc), va_P D cl (ws.set q0 (a, .inl (cA, n, .inl (upd f j x)))) H1 → va_D A (ws.set q0 (a, .inl (cA, n, .inl (upd f j x)))) → va_S A H0 H1 locs1 → W p l e R s m args below meth c H1 locs1 cells slots Q (F0 m (pc + 1) ls rest)) : W p l e R s m args below meth c H locs cells slots Q (F0 m pc ls (.int x :: .int (nI j) :: .ref a :: rest)) :=
  va_iast hexec hb hK hP hD hS q0 t0 ha ht (vp_in_nI hj hn) hdg (by rw [nI_clamp (by omega)]; exact kk)
theorem k_zast {j : Nat} {x : Int32} (hexec : p.tables.exec = Jvm.exec) (hb : c.code = cc) (hK : va_K D cl tys s) (hP : va_P D cl ws H) (hD : va_D A ws) (hS : va_S A H0 H locs) (q0 t0 : Nat) {cA : ClassId} {n : Nat} {f : Nat → Int32} (ha : ws[q0]? = some (a, .inl (cA, n, .inl f))) (ht : tys[t0]? = some (cA, .boolean)) (hj : j < n) (hn : n < 2 ^ 31) (hz : vp_nar .boolean x = x) (hdg : decode cc pc = .ok (.bastore, 1))
    (kk : ∀ (H1 : Heap) (locs1 : List Loc), va_P D cl (ws.set q0 (a, .inl (cA, n, .inl (upd f j x)))) H1 → va_D A (ws.set q0 (a, .inl (cA, n, .inl (upd f j x)))) → va_S A H0 H1 locs1 → W p l e R s m args below meth c H1 locs1 cells slots Q (F0 m (pc + 1) ls rest)) : W p l e R s m args below meth c H locs cells slots Q (F0 m pc ls (.int x :: .int (nI j) :: .ref a :: rest)) :=
  va_zast hexec hb hK hP hD hS q0 t0 ha ht (vp_in_nI hj hn) hdg (by rw [nI_clamp (by omega), hz]; exact kk)
theorem k_last {j : Nat} {x : Int64} (hexec : p.tables.exec = Jvm.exec) (hb : c.code = cc) (hK : va_K D cl tys s) (hP : va_P D cl ws H) (hD : va_D A ws) (hS : va_S A H0 H locs) (q0 t0 : Nat) {cA : ClassId} {n : Nat} {f : Nat → Int64} (ha : ws[q0]? = some (a, .inl (cA, n, .inr (.inl f)))) (ht : tys[t0]? = some (cA, .long)) (hj : j < n) (hn : n < 2 ^ 31) (hdg : decode cc pc = .ok (.lastore, 1))
    (kk : ∀ (H1 : Heap) (locs1 : List Loc), va_P D cl (ws.set q0 (a, .inl (cA, n, .inr (.inl (vp_updL f j x))))) H1 → va_D A (ws.set q0 (a, .inl (cA, n, .inr (.inl (vp_updL f j x))))) → va_S A H0 H1 locs1 → W p l e R s m args below meth c H1 locs1 cells slots Q (F0 m (pc + 1) ls rest)) : W p l e R s m args below meth c H locs cells slots Q (F0 m pc ls (.long x :: .int (nI j) :: .ref a :: rest)) :=
  va_last hexec hb hK hP hD hS q0 t0 ha ht (vp_in_nI hj hn) hdg (by rw [nI_clamp (by omega)]; exact kk)
end KA
abbrev k_lushr (x : Int64) (y : Int32) : Int64 := (x.toUInt64 >>> (y.toInt64.toUInt64 &&& Int64.toUInt64 63)).toInt64
abbrev k_lshl (x : Int64) (y : Int32) : Int64 := x <<< (y.toInt64 &&& 63)
abbrev k_min (a b : Int32) : Int32 := if b < a then b else a
abbrev k_max (a b : Int32) : Int32 := if a < b then b else a
/-- a row of numbers that looks at each place before it is used -/
def k_cat (n : Nat) (f : Nat → Int32) (i : Int32) : Int32 := if i < 0 then -1 else if nI n ≤ i then -1 else f i.toNatClampNeg
def k_cpt (n : Nat) (f : Nat → Int32) (i x : Int32) : Nat → Int32 := if i < 0 then f else if nI n ≤ i then f else upd f i.toNatClampNeg x
theorem k_inb {n : Nat} {i : Int32} (hn : n < 2 ^ 31) (h0 : ¬ i < 0) (h1 : ¬ nI n ≤ i) : vp_in i n := by
  obtain ⟨j, hj, rfl⟩ := nI_of h0
  have h2 : j < n := by
    rcases Nat.lt_or_ge j n with h | h
    · exact h
    · exact absurd ((nI_leI hn hj).mpr h) h1
  exact vp_in_nI h2 hn
theorem k_cat_in {n : Nat} {f : Nat → Int32} {j : Nat} (hj : j < n) (hn : n < 2 ^ 31) : k_cat n f (nI j) = f j := by
  unfold k_cat
  rw [if_neg (nI_pos (by omega)), if_neg (fun h => absurd ((nI_leI hn (by omega)).mp h) (by omega)), nI_clamp (by omega)]
theorem k_cat_out {n : Nat} {f : Nat → Int32} {j : Nat} (hj : n ≤ j) (hn : n < 2 ^ 31) (hj2 : j < 2 ^ 31) : k_cat n f (nI j) = -1 := by
  unfold k_cat
  rw [if_neg (nI_pos hj2), if_pos ((nI_leI hn hj2).mpr hj)]
theorem k_cat_neg {n : Nat} {f : Nat → Int32} {i : Int32} (h : i < 0) : k_cat n f i = -1 := by
  unfold k_cat
  rw [if_pos h]
theorem k_cpt_in {n : Nat} {f : Nat → Int32} {j : Nat} {x : Int32} (hj : j < n) (hn : n < 2 ^ 31) : k_cpt n f (nI j) x = upd f j x := by
  unfold k_cpt
  rw [if_neg (nI_pos (by omega)), if_neg (fun h => absurd ((nI_leI hn (by omega)).mp h) (by omega)), nI_clamp (by omega)]
theorem k_cpt_out {n : Nat} {f : Nat → Int32} {j : Nat} {x : Int32} (hj : n ≤ j) (hn : n < 2 ^ 31) (hj2 : j < 2 ^ 31) : k_cpt n f (nI j) x = f := by
  unfold k_cpt
  rw [if_neg (nI_pos hj2), if_pos ((nI_leI hn hj2).mpr hj)]
def wC (κ : Nat → ClassId) (c a n : Nat) (f : Nat → Int32) : va_W := [(c, .inr (0, [.ref a])), (a, .inl (κ 0, n, .inl f))]
def wG (κ : Nat → ClassId) (q : Nat → Nat) (so le gr ne si ou bo : Nat → Int32) (n om ob : Nat) : va_W := [(q 0, .inr (1, [.ref (q 1), .ref (q 2), .ref (q 3), .ref (q 4), .ref (q 5), .ref (q 6), .ref (q 7), .int (nI n), .int (nI om), .int (nI ob)])), (q 1, .inr (0, [.ref (q 8)])), (q 2, .inr (0, [.ref (q 9)])), (q 3, .inr (0, [.ref (q 10)])), (q 4, .inr (0, [.ref (q 11)])), (q 5, .inr (0, [.ref (q 12)])), (q 6, .inr (0, [.ref (q 13)])), (q 7, .inr (0, [.ref (q 14)])), (q 8, .inl (κ 0, 400, .inl so)), (q 9, .inl (κ 0, 400, .inl le)), (q 10, .inl (κ 0, 400, .inl gr)), (q 11, .inl (κ 0, 400, .inl ne)), (q 12, .inl (κ 0, 400, .inl si)), (q 13, .inl (κ 0, 40, .inl ou)), (q 14, .inl (κ 0, 40, .inl bo))]
/-- Levels -/
def wL (κ : Nat → ClassId) (q : Nat → Nat) (lv : Nat → Int32) : va_W := [(q 0, .inr (3, [.ref (q 1)])), (q 1, .inr (0, [.ref (q 2)])), (q 2, .inl (κ 0, 400, .inl lv))]
/-- Reach -/
abbrev KE : Type := (Nat → Int32) × (Nat → Int32) × Int32
def wE (κ : Nat → ClassId) (q : Nat → Nat) (e : KE) : va_W := [(q 0, .inr (4, [.ref (q 1), .ref (q 2), .int e.2.2])), (q 1, .inr (0, [.ref (q 3)])), (q 2, .inr (0, [.ref (q 4)])), (q 3, .inl (κ 0, 400, .inl e.1)), (q 4, .inl (κ 0, 400, .inl e.2.1))]
/-- Rows -/
def wR (κ : Nat → ClassId) (q : Nat → Nat) (ro : Nat → Int64) (wo : Int32) : va_W := [(q 0, .inr (5, [.ref (q 1), .int wo])), (q 1, .inl (κ 1, 400, .inr (.inl ro)))]
/-- the reference -/
def wM (κ : Nat → ClassId) (q : Nat → Nat) (th : Int32) (so on tw st : Nat → Int32) (nd : Nat) (ou bo : Nat → Int32) (oc : Nat) (cp : Nat → Int32) (cn : Nat) (ro : Nat → Int64) (kn : Int32) (lv be : Nat → Int32) : va_W := [(q 0, .inr (7, [.int th, .ref (q 1), .ref (q 2), .ref (q 3), .ref (q 4), .int (nI nd), .ref (q 5), .ref (q 6), .int (nI oc), .ref (q 7), .int (nI cn), .ref (q 8), .int kn, .ref (q 9), .ref (q 10)])), (q 1, .inl (κ 0, 400, .inl so)), (q 2, .inl (κ 0, 400, .inl on)), (q 3, .inl (κ 0, 400, .inl tw)), (q 4, .inl (κ 0, 400, .inl st)), (q 5, .inl (κ 0, 40, .inl ou)), (q 6, .inl (κ 2, 40, .inl bo)), (q 7, .inl (κ 0, 63000, .inl cp)), (q 8, .inl (κ 1, 400, .inr (.inl ro))), (q 9, .inl (κ 0, 400, .inl lv)), (q 10, .inl (κ 2, 400, .inl be))]
