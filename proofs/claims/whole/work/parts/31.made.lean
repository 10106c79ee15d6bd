/-! MADE: new objects and arrays as last pieces of the world; constructors' calls -/
theorem k_frameL {A0 : Nat → Prop} {D : va_G} {cl : List vw_C} {W : List va_W} {wc w1 : va_W} {H H1 : Heap} (hP : va_P D cl (W ++ [wc]).flatten H) (hD : va_D A0 (W ++ [wc]).flatten)
    (hk : ∀ q : Nat, q < H.size → ¬ va_A wc H.size q → H1[q]? = H[q]?) (hF : ∀ q, va_A wc H.size q → A0 q) (hP1 : va_P D cl w1 H1) (hD1 : va_D (va_A wc H.size) w1) : va_P D cl (W ++ [w1]).flatten H1 ∧ va_D A0 (W ++ [w1]).flatten := by
  have e (z : va_W) : (W ++ [z]).flatten = W.flatten ++ z := by simp
  rw [e] at hP hD ⊢
  obtain ⟨hN, hA⟩ := k_D_iff.mp hD
  obtain ⟨hN1, hA1⟩ := k_D_iff.mp hD1
  rw [List.map_append, List.nodup_append] at hN
  have ap : ∀ q ∈ W.flatten, q.1 < H.size ∧ ¬ va_A wc H.size q.1 := by
    intro q hq
    have hl := (k_P_iff.mp hP q (List.mem_append_left _ hq)).lt
    refine ⟨hl, ?_⟩
    rintro (⟨k, e9, h9⟩ | h9)
    · exact hN.2.2 q.1 (List.mem_map.mpr ⟨q, hq, rfl⟩) q.1 (List.mem_map.mpr ⟨_, List.mem_of_getElem? h9, rfl⟩) rfl
    · omega
  refine ⟨k_P_iff.mpr (fun q hq => ?_), k_D_iff.mpr ⟨?_, fun q hq => ?_⟩⟩
  · rcases List.mem_append.mp hq with h | h
    · exact (k_P_iff.mp hP q (List.mem_append_left _ h)).kept (hk q.1 (ap q h).1 (ap q h).2)
    · exact k_P_iff.mp hP1 q h
  · rw [List.map_append, List.nodup_append]
    refine ⟨hN.1, hN1, fun a ha b hb he => ?_⟩
    obtain ⟨x, hx, rfl⟩ := List.mem_map.mp ha
    obtain ⟨y, hy, rfl⟩ := List.mem_map.mp hb
    exact (ap x hx).2 (by rw [he]; exact hA1 y hy)
  · rcases List.mem_append.mp hq with h | h
    · exact hA q (List.mem_append_left _ h)
    · exact hF q.1 (hA1 q h)
def wB (q ci : Nat) (fs : List Value) : va_W := [(q, .inr (ci, fs))]
section KCI
variable {p : Program} {l : Launch} {e : Env} {R : Room} {s : State} {m : MethodId} {args : Array Value} {below : List Frame} {meth : Method} {c : Code} {H H0 : Heap} {locs : List Loc} {cells slots : Nat} {Q : State → Prop} {A : Nat → Prop}
variable {Ts ws : List Cond} {own C host : String} {index maxL n nL mc ms fr lo pc b q0 ci sz : Nat} {y : MethodName} {bytes cc : ByteArray} {ret : Option FieldType} {D : va_G} {κ : Nat → ClassId} {w wc : va_W} {ls : Array Slot} {st0 rest As : List Value} {qc : vw_C} {fs : List Value}
variable {W0 Wl : List va_W}
/-- a constructor's call: the callee has the last piece alone -/
theorem k_cIv {S1 : Type} {post : S1 → Prop} {w' : S1 → va_W} {Wn : S1 → List va_W} (S : CallFix p m c cc nL s args Ts own) (hM : k_muv l y ws fr lo mc ms D κ (.ref b :: As) wc H.size post w') (cw : CallB R s args own index y bytes maxL none ws ({ frames := fr, cells := mc, slots := ms, locals := lo }) mc ms n ∧ y.name = "<init>" ∧ (Cond.instanceMethod y).before args s = true) (hK : k_K D κ s) (hP : va_P D vwCl W0.flatten H) (hD : va_D A W0.flatten) (hS : va_S A H0 H locs) (hA : ∀ q, H0.size ≤ q → A q) (hW0 : W0 = Wl ++ [wc]) (hWn : ∀ u, Wl ++ [w' u] = Wn u)
    (hst : st0 = As.reverse ++ .ref b :: rest) (hn : As.length = n) (hsize : ls.size = nL) (hW : (rest.map fun v => v.category).sum ≤ 8) (hdg : decode cc pc = .ok (.invokespecial index, 3)) (hf : cells + mc ≤ R.cells ∧ slots + ms ≤ R.slots)
    (kk : ∀ (u : S1) (H1 : Heap) (locs1 : List Loc), post u → va_P D vwCl (Wn u).flatten H1 → va_D A (Wn u).flatten → va_S A H0 H1 locs1 → W p l e R s m args below meth c H1 locs1 (cells + mc) (slots + ms) Q (F0 m (pc + 3) ls rest)) : W p l e R s m args below meth c H locs cells slots Q (F0 m pc ls st0) := by
  subst hW0
  have e9 : (Wl ++ [wc]).flatten = Wl.flatten ++ wc := by simp
  have hPc : va_P D vwCl wc H := k_P_iff.mpr (fun q hq => k_P_iff.mp hP q (by rw [e9]; exact List.mem_append_right _ hq))
  have hDc : va_D A wc := by
    obtain ⟨hN, hA9⟩ := k_D_iff.mp hD
    rw [e9] at hN hA9
    rw [List.map_append, List.nodup_append] at hN
    exact k_D_iff.mpr ⟨hN.2.1, fun q hq => hA9 q (List.mem_append_right _ hq)⟩
  have hFc : ∀ q, va_A wc H.size q → A q := fun q h => h.elim (fun ⟨k, e, h⟩ => hDc.2 k _ h) (fun h => hA q (Nat.le_trans hS.1 h))
  refine va_callv (va_runI S hM cw ⟨k_blS, fun U hU hW => ⟨rfl, by rw [hU], hK.warm hW, by rw [hU]; exact hPc, hDc.weaken (fun _ _ _ _ => trivial)⟩⟩ rfl hn hsize hst (lv_room hW) hdg hf) hS (fun q _ h => hFc q h) hFc (fun u t H1 locs1 ht _ hw hB hz1 hk1 hS => ?_)
  obtain ⟨hP1, hD1⟩ := hB
  rw [ht] at hP1
  obtain ⟨hP2, hD2⟩ := k_frameL hP hD hk1 hFc hP1 hD1
  rw [hWn u] at hP2 hD2
  exact kk u H1 locs1 hw hP2 hD2 hS
variable {W1 : List va_W}
/-- new: the object is the last piece -/
theorem k_new {T : u_T} {N : Nat} (hexec : p.tables.exec = Jvm.exec) (hb : c.code = cc) (hts : ∀ w ∈ Ts, w.before args s = true) (hin : ∀ w ∈ u_ws C T N, w ∈ Ts) (ty : Nat → FieldType) (hty : ∀ k, k < N → parseFieldDescriptor (T k).2.2.1 = some (ty k)) (hown : s.vm.findClass own = some m.cls) (hcl : (Cond.classLink own index C).before args s = true) (hinst : (Cond.instantiable C N).before args s = true) (hini : (Cond.initialized C).before args s = true)
    (hK : k_K D κ s) (hP : va_P D vwCl W0.flatten H) (hD : va_D A W0.flatten) (hS : va_S A H0 H locs) (hA : ∀ q, H0.size ≤ q → A q) (hc : vwCl[ci]? = some (C, T, N)) (hfs : ∀ j, j < N → defaultValue (ty j) = vp_V fs j) (hcells : cells + 1 ≤ R.cells) (hslots : slots + N ≤ R.slots) (hdg : decode cc pc = .ok (.new index, 3))
    (kk : ∀ (q : Nat) (H1 : Heap), va_P D vwCl (W0 ++ [wB q ci fs]).flatten H1 → va_D A (W0 ++ [wB q ci fs]).flatten → va_S A H0 H1 locs →
      W p l e R s m args below meth c H1 locs (cells + 1) (slots + N) Q (F0 m (pc + 3) ls (.ref q :: rest))) : W p l e R s m args below meth c H locs cells slots Q (F0 m pc ls rest) :=
  va_new hexec hb hts hin ty hty hown hcl hinst hini hK.1 hP hD hS hA hc hfs hcells hslots hdg (fun q H1 hP hD hS => kk q H1 (by rw [show (W0 ++ [wB q ci fs]).flatten = W0.flatten ++ [(q, .inr (ci, fs))] by simp [wB]]; exact hP) (by rw [show (W0 ++ [wB q ci fs]).flatten = W0.flatten ++ [(q, .inr (ci, fs))] by simp [wB]]; exact hD) hS)
theorem k_newi {k : Nat} (hexec : p.tables.exec = Jvm.exec) (hb : c.code = cc) (harr : (Cond.arrayClass .int).before args s = true) (hK : k_K D κ s) (hP : va_P D vwCl W0.flatten H) (hD : va_D A W0.flatten) (hS : va_S A H0 H locs) (hA : ∀ q, H0.size ≤ q → A q) (hk : k ≤ 100000) (hcells : cells + 1 ≤ R.cells) (hslots : slots + k ≤ R.slots) (hdg : decode cc pc = .ok (.newarray .int, 2))
    (kk : ∀ (q : Nat) (H1 : Heap), va_P D vwCl (W0 ++ [wI κ q k (fun _ => 0)]).flatten H1 → va_D A (W0 ++ [wI κ q k (fun _ => 0)]).flatten → va_S A H0 H1 locs →
      W p l e R s m args below meth c H1 locs (cells + 1) (slots + k) Q (F0 m (pc + 2) ls (.ref q :: rest))) : W p l e R s m args below meth c H locs cells slots Q (F0 m pc ls (.int (nI k) :: rest)) := by
  have h0 : k < 2 ^ 31 := by omega
  refine va_newa (atype := .int) (ty := .int) (a0 := (k, .inl (fun _ => 0))) hexec hb harr rfl hK.1 hP hD hS hA (fun cA => rfl) (nI_pos h0) (nI_clamp h0) (by show k * 4 ≤ _; omega) hcells hslots hdg (fun q cA H1 hK1 hP1 hD1 hS1 => ?_)
  have e1 : s.vm.findClass ("[" ++ FieldType.int.toString) = some cA := (hK1.2 4 (cA, .int) rfl).2
  have e2 : s.vm.findClass ("[" ++ FieldType.int.toString) = some (κ 0) := (hK.1.2 0 (κ 0, .int) rfl).2
  obtain rfl : κ 0 = cA := Option.some.inj (e2.symm.trans e1)
  have e9 : (W0 ++ [wI κ q k (fun _ => 0)]).flatten = W0.flatten ++ [(q, .inl (κ 0, k, .inl (fun _ => 0)))] := by simp [wI]
  exact kk q H1 (by rw [e9]; exact hP1) (by rw [e9]; exact hD1) hS1
theorem k_newl {k : Nat} (hexec : p.tables.exec = Jvm.exec) (hb : c.code = cc) (harr : (Cond.arrayClass .long).before args s = true) (hK : k_K D κ s) (hP : va_P D vwCl W0.flatten H) (hD : va_D A W0.flatten) (hS : va_S A H0 H locs) (hA : ∀ q, H0.size ≤ q → A q) (hk : k ≤ 100000) (hcells : cells + 1 ≤ R.cells) (hslots : slots + k ≤ R.slots) (hdg : decode cc pc = .ok (.newarray .long, 2))
    (kk : ∀ (q : Nat) (H1 : Heap), va_P D vwCl (W0 ++ [wJ κ q k (fun _ => 0)]).flatten H1 → va_D A (W0 ++ [wJ κ q k (fun _ => 0)]).flatten → va_S A H0 H1 locs →
      W p l e R s m args below meth c H1 locs (cells + 1) (slots + k) Q (F0 m (pc + 2) ls (.ref q :: rest))) : W p l e R s m args below meth c H locs cells slots Q (F0 m pc ls (.int (nI k) :: rest)) := by
  have h0 : k < 2 ^ 31 := by omega
  refine va_newa (atype := .long) (ty := .long) (a0 := (k, .inr (.inl (fun _ => 0)))) hexec hb harr rfl hK.1 hP hD hS hA (fun cA => rfl) (nI_pos h0) (nI_clamp h0) (by show k * 8 ≤ _; omega) hcells hslots hdg (fun q cA H1 hK1 hP1 hD1 hS1 => ?_)
  have e1 : s.vm.findClass ("[" ++ FieldType.long.toString) = some cA := (hK1.2 4 (cA, .long) rfl).2
  have e2 : s.vm.findClass ("[" ++ FieldType.long.toString) = some (κ 1) := (hK.1.2 1 (κ 1, .long) rfl).2
  obtain rfl : κ 1 = cA := Option.some.inj (e2.symm.trans e1)
  have e9 : (W0 ++ [wJ κ q k (fun _ => 0)]).flatten = W0.flatten ++ [(q, .inl (κ 1, k, .inr (.inl (fun _ => 0))))] := by simp [wJ]
  exact kk q H1 (by rw [e9]; exact hP1) (by rw [e9]; exact hD1) hS1
def wZ (κ : Nat → ClassId) (a n : Nat) (f : Nat → Int32) : va_W := [(a, .inl (κ 2, n, .inl f))]
theorem k_newz {k : Nat} (hexec : p.tables.exec = Jvm.exec) (hb : c.code = cc) (harr : (Cond.arrayClass .boolean).before args s = true) (hK : k_K D κ s) (hP : va_P D vwCl W0.flatten H) (hD : va_D A W0.flatten) (hS : va_S A H0 H locs) (hA : ∀ q, H0.size ≤ q → A q) (hk : k ≤ 100000) (hcells : cells + 1 ≤ R.cells) (hslots : slots + k ≤ R.slots) (hdg : decode cc pc = .ok (.newarray .boolean, 2))
    (kk : ∀ (q : Nat) (H1 : Heap), va_P D vwCl (W0 ++ [wZ κ q k (fun _ => 0)]).flatten H1 → va_D A (W0 ++ [wZ κ q k (fun _ => 0)]).flatten → va_S A H0 H1 locs →
      W p l e R s m args below meth c H1 locs (cells + 1) (slots + k) Q (F0 m (pc + 2) ls (.ref q :: rest))) : W p l e R s m args below meth c H locs cells slots Q (F0 m pc ls (.int (nI k) :: rest)) := by
  have h0 : k < 2 ^ 31 := by omega
  refine va_newa (atype := .boolean) (ty := .boolean) (a0 := (k, .inl (fun _ => 0))) hexec hb harr rfl hK.1 hP hD hS hA (fun cA => rfl) (nI_pos h0) (nI_clamp h0) (by show k * 1 ≤ _; omega) hcells hslots hdg (fun q cA H1 hK1 hP1 hD1 hS1 => ?_)
  have e1 : s.vm.findClass ("[" ++ FieldType.boolean.toString) = some cA := (hK1.2 4 (cA, .boolean) rfl).2
  have e2 : s.vm.findClass ("[" ++ FieldType.boolean.toString) = some (κ 2) := (hK.1.2 2 (κ 2, .boolean) rfl).2
  obtain rfl : κ 2 = cA := Option.some.inj (e2.symm.trans e1)
  have e9 : (W0 ++ [wZ κ q k (fun _ => 0)]).flatten = W0.flatten ++ [(q, .inl (κ 2, k, .inl (fun _ => 0)))] := by simp [wZ]
  exact kk q H1 (by rw [e9]; exact hP1) (by rw [e9]; exact hD1) hS1
/-- History's ring -/
def wQ (κ : Nat → ClassId) (a : Nat) (f : Nat → Option Nat) : va_W := [(a, .inl (κ 3, 30, .inr (.inr (.inr (.inr f)))))]
theorem k_newq (hexec : p.tables.exec = Jvm.exec) (hb : c.code = cc) (hown : s.vm.findClass own = some m.cls) (hcl : (Cond.classLink own index "InverterGraphs$Graph").before args s = true) (hover : va_AO "InverterGraphs$Graph" s) (hK : k_K D κ s) (hP : va_P D vwCl W0.flatten H) (hD : va_D A W0.flatten) (hS : va_S A H0 H locs) (hA : ∀ q, H0.size ≤ q → A q) (hcells : cells + 1 ≤ R.cells) (hslots : slots + 30 ≤ R.slots) (hdg : decode cc pc = .ok (.anewarray index, 3))
    (kk : ∀ (q : Nat) (H1 : Heap), va_P D vwCl (W0 ++ [wQ κ q (fun _ => none)]).flatten H1 → va_D A (W0 ++ [wQ κ q (fun _ => none)]).flatten → va_S A H0 H1 locs →
      W p l e R s m args below meth c H1 locs (cells + 1) (slots + 30) Q (F0 m (pc + 3) ls (.ref q :: rest))) : W p l e R s m args below meth c H locs cells slots Q (F0 m pc ls (.int 30 :: rest)) := by
  refine va_newq (N' := 30) hexec hb hown hcl hover hK.1 hP hD hS hA (by decide) rfl (by decide) hcells hslots hdg (fun q cA H1 hK1 hP1 hD1 hS1 => ?_)
  obtain ⟨_, _, _, _, _, e1⟩ := (hK1.2 4 (cA, .object "InverterGraphs$Graph") rfl).2
  obtain ⟨_, _, _, _, _, e2⟩ := (hK.1.2 3 (κ 3, .object "InverterGraphs$Graph") rfl).2
  obtain rfl : κ 3 = cA := Option.some.inj (e2.symm.trans e1)
  have e9 : (W0 ++ [wQ κ q (fun _ => none)]).flatten = W0.flatten ++ [(q, .inl (κ 3, 30, .inr (.inr (.inr (.inr (fun _ => none))))))] := by simp [wQ]
  exact kk q H1 (by rw [e9]; exact hP1) (by rw [e9]; exact hD1) hS1
end KCI
def k_ql (q : List Nat) : Nat → Nat := fun k => q.getD k 0
section KCO
variable {p : Program} {l : Launch} {e : Env} {R : Room} {s : State} {m : MethodId} {args : Array Value} {below : List Frame} {meth : Method} {c : Code} {H H0 : Heap} {locs : List Loc} {cells slots : Nat} {Q : State → Prop} {A : Nat → Prop}
variable {Ts ws : List Cond} {own C host : String} {index maxL n nL mc ms fr lo pc b q0 ci sz : Nat} {y : MethodName} {bytes cc : ByteArray} {ret : Option FieldType} {D : va_G} {κ : Nat → ClassId} {w wc : va_W} {ls : Array Slot} {st0 rest As : List Value} {qc : vw_C} {fs : List Value}
variable {W0 Wl : List va_W}
abbrev k_muvO {S : Type} (l : Launch) (y : MethodName) (ws : List Cond) (fr lo mc ms : Nat) (D : va_G) (κ : Nat → ClassId) (av : List Value) (w : va_W) (sz : Nat) (post : S → Prop) (w' : S → va_W) : Prop := Met l y ws ({ frames := fr, cells := mc, slots := ms, locals := lo }) (va_Pc av (fun U => k_S D κ w sz U ∧ va_AO "InverterGraphs$Graph" U)) (va_Qv post (fun u => k_B D (va_A w sz) (w' u)) (va_A w sz)) mc ms (va_A w sz)
/-- a constructor's call that makes an array of Graphs -/
theorem k_cIvO {S1 : Type} {post : S1 → Prop} {w' : S1 → va_W} {Wn : S1 → List va_W} (S : CallFix p m c cc nL s args Ts own) (hM : k_muvO l y ws fr lo mc ms D κ (.ref b :: As) wc H.size post w') (cw : CallB R s args own index y bytes maxL none ws ({ frames := fr, cells := mc, slots := ms, locals := lo }) mc ms n ∧ y.name = "<init>" ∧ (Cond.instanceMethod y).before args s = true) (hAO : va_AO "InverterGraphs$Graph" s) (hK : k_K D κ s) (hP : va_P D vwCl W0.flatten H) (hD : va_D A W0.flatten) (hS : va_S A H0 H locs) (hA : ∀ q, H0.size ≤ q → A q) (hW0 : W0 = Wl ++ [wc]) (hWn : ∀ u, Wl ++ [w' u] = Wn u)
    (hst : st0 = As.reverse ++ .ref b :: rest) (hn : As.length = n) (hsize : ls.size = nL) (hW : (rest.map fun v => v.category).sum ≤ 8) (hdg : decode cc pc = .ok (.invokespecial index, 3)) (hf : cells + mc ≤ R.cells ∧ slots + ms ≤ R.slots)
    (kk : ∀ (u : S1) (H1 : Heap) (locs1 : List Loc), post u → va_P D vwCl (Wn u).flatten H1 → va_D A (Wn u).flatten → va_S A H0 H1 locs1 → W p l e R s m args below meth c H1 locs1 (cells + mc) (slots + ms) Q (F0 m (pc + 3) ls rest)) : W p l e R s m args below meth c H locs cells slots Q (F0 m pc ls st0) := by
  subst hW0
  have e9 : (Wl ++ [wc]).flatten = Wl.flatten ++ wc := by simp
  have hPc : va_P D vwCl wc H := k_P_iff.mpr (fun q hq => k_P_iff.mp hP q (by rw [e9]; exact List.mem_append_right _ hq))
  have hDc : va_D A wc := by
    obtain ⟨hN, hA9⟩ := k_D_iff.mp hD
    rw [e9] at hN hA9
    rw [List.map_append, List.nodup_append] at hN
    exact k_D_iff.mpr ⟨hN.2.1, fun q hq => hA9 q (List.mem_append_right _ hq)⟩
  have hFc : ∀ q, va_A wc H.size q → A q := fun q h => h.elim (fun ⟨k, e, h⟩ => hDc.2 k _ h) (fun h => hA q (Nat.le_trans hS.1 h))
  refine va_callv (va_runI S hM cw ⟨fun _ _ _ _ q => ⟨q.1, ⟨q.2.1.1, q.2.1.2.1.calling, q.2.1.2.2⟩, q.2.2⟩, fun U hU hW => ⟨rfl, ⟨by rw [hU], hK.warm hW, by rw [hU]; exact hPc, hDc.weaken (fun _ _ _ _ => trivial)⟩, va_AO.moved hW.alike hAO⟩⟩ rfl hn hsize hst (lv_room hW) hdg hf) hS (fun q _ h => hFc q h) hFc (fun u t H1 locs1 ht _ hw hB hz1 hk1 hS => ?_)
  obtain ⟨hP1, hD1⟩ := hB
  rw [ht] at hP1
  obtain ⟨hP2, hD2⟩ := k_frameL hP hD hk1 hFc hP1 hD1
  rw [hWn u] at hP2 hD2
  exact kk u H1 locs1 hw hP2 hD2 hS
end KCO
