/-! THE LAW'S SMALL METHODS: what they need, calls that are caught -/
def k_NC (U : State) : Prop := ∀ E ∈ k_ex, ∀ nm ∈ k_ex, E ≠ nm → va_Nc E nm U
theorem k_NC.warm {s U : State} (hW : s.WarmedH U.vm) (h : k_NC s) : k_NC U := fun E hE nm hm hne => va_Nc.moved hW.alike (h E hE nm hm hne)
theorem k_NC.calling {U : State} {g : JFrame} {mk : MethodId} {a : Array Value} (h : k_NC U) : k_NC (U.calling g mk a) := fun E hE nm hm hne => va_Nc.moved (u := U) (U := U.calling g mk a) (Vm.Alike.refl U.vm) (h E hE nm hm hne)
theorem k_ofWH {l : Launch} {y : MethodName} {ws ws' : List Cond} {rm : Room} {Pc : Array Value → State → Prop} {Qc : Array Value → State → Outcome → State → Prop} {mc ms : Nat} {free : Addr → Prop} {cc : ByteArray} {maxL : Nat} {ret : Option FieldType} {hh : List (Nat × Nat × Nat × Nat)}
    (hy : plainName y.cls = true) (hw : ws = Cond.codeWith y cc maxL ret hh :: ws')
    (body : ∀ p e s m args below meth c s₁, BodyLoose p l y (headSpec ws rm) cc maxL ret e s m args below meth c s₁ → c.maxLocals = maxL → Pc args s →
      W p l e (headSpec ws rm).room s m args below meth c s.heap [] 0 0 (MQ below Qc args s mc ms free) (entryFrame m args maxL)) : Met l y ws rm Pc Qc mc ms free := by
  refine MetFree.of_bodyS (code := cc) (maxLocals := maxL) (ret := ret) hy ?_ ?_
  · intro args s m h hn
    obtain ⟨m9, meth, c, hn9, h1, h2, h3, h4, -, h5, h6, -⟩ := Cond.codeWith_spec (atoms_spec (ws := ws) h _ (by rw [hw]; exact List.mem_cons_self))
    cases hn.symm.trans hn9
    exact ⟨meth, c, h1, h2, h3, h4, h5, h6⟩
  · intro p e s m args below meth c s₁ B hml hP _
    have hh0 : s₁.heap = s.heap := by rw [B.state]; rfl
    obtain ⟨t, a1, o, b1, b2, b3⟩ := body p e s m args below meth c s₁ B hml hP s₁ hh0 (Stand.of_body B)
    exact ⟨t, o, a1, b1, b2, ⟨b3.1, b3.2⟩⟩
abbrev k_yui {S : Type} (l : Launch) (y : MethodName) (ws : List Cond) (fr lo mc ms : Nat) (D : va_G) (κ : Nat → ClassId) (av : List Value) (w : va_W) (sz : Nat) (post : Int32 → S → Prop) (w' : S → va_W) : Prop := Met l y ws ({ frames := fr, cells := mc, slots := ms, locals := lo }) (va_Pc av (fun U => k_S D κ w sz U ∧ k_X (va_A w sz) U ∧ k_NC U)) (va_Qi post (fun u => k_B D (va_A w sz) (w' u)) (va_A w sz)) mc ms (va_A w sz)
theorem k_blY {As : List Value} {D : va_G} {κ : Nat → ClassId} {w : va_W} {sz : Nat} {A : Nat → Prop} : FrameBlind (va_Pc As (fun U => k_S D κ w sz U ∧ k_X A U ∧ k_NC U)) := fun _ _ _ _ q => ⟨q.1, ⟨q.2.1.1, q.2.1.2.1.calling, q.2.1.2.2⟩, q.2.2.1.calling, q.2.2.2.calling⟩
/-- what a small method answers: 0 and the answer put, or the number of what was caught -/
def x_wrap {α : Type} (cv : α → Int64) (es : List String) (post : α → XV → Prop) (pX : String → Prop) (v : XV) (k : Int32) (u : (Nat → Int64) × XV) : Prop := (k = 0 ∧ ∃ r : α, u.1 0 = cv r ∧ post r u.2) ∨ ∃ (i : Nat) (E : String), es[i]? = some E ∧ k = nI (i + 1) ∧ pX E ∧ u.2 = v
section KYC
variable {p : Program} {l : Launch} {e : Env} {R : Room} {s : State} {m : MethodId} {args : Array Value} {below : List Frame} {meth : Method} {c : Code} {H H0 : Heap} {locs : List Loc} {cells slots : Nat} {Q : State → Prop} {A : Nat → Prop}
variable {Ts ws : List Cond} {own C host : String} {index maxL n nL mc ms mc0 ms0 fr lo pc b q0 ci sz : Nat} {y : MethodName} {bytes cc : ByteArray} {ret : Option FieldType} {D : va_G} {κ : Nat → ClassId} {w wc w0 : va_W} {ls : Array Slot} {st0 rest As : List Value} {qc : vw_C} {fs : List Value}
variable {Wl Wc : List va_W} {pX pY : String → Prop}
/-- a call that returns or throws; both roads go on here -/
theorem k_ySUi {S1 : Type} {post : Int32 → S1 → Prop} {w' : S1 → va_W} {W' Wn : S1 → List va_W} (S : CallFix p m c cc nL s args Ts own) (hM : k_xui (S := S1) l y ws fr lo mc ms D κ (.ref b :: As) wc H.size post w' pY) (cw : CallW R s args own qc.1 index y bytes maxL ret ws ({ frames := fr, cells := mc, slots := ms, locals := lo }) mc ms n) (hK : k_K D κ s) (hX : k_X A s) (hP : va_P D vwCl Wl.flatten H) (hD : va_D A Wl.flatten) (hS : va_S A s.heap H locs) (hA : ∀ q, s.heap.size ≤ q → A q) (is : List Nat) (hnd : va_nd is = true) (hC : is.map (fun i => Wl[i]?) = Wc.map some) (hwc : Wc.flatten = wc) (hw' : ∀ u, (W' u).flatten = w' u)
    (hcl : vwCl[ci]? = some qc) (he : wc[q0]? = some (b, .inr (ci, fs))) (hl1 : ∀ u, (W' u).length = Wc.length) (hwn : ∀ u, k_ps Wl is (W' u) = Wn u)
    (hst : st0 = As.reverse ++ .ref b :: rest) (hn : As.length = n) (hsize : ls.size = nL) (hW : (rest.map fun v => v.category).sum ≤ 8) (hdg : decode cc pc = .ok (.invokevirtual index, 3)) (hf : cells + mc ≤ R.cells ∧ slots + ms ≤ R.slots)
    (kx : ∀ (E : String) (ce : Cell) (q9 : Addr) (H1 : Heap) (locs1 : List Loc), pY E → va_P D vwCl Wl.flatten H1 → va_D A Wl.flatten → va_S A s.heap H1 locs1 → H1[q9]? = some ce → ce.vm = .none → s.vm.findClass E = some ce.cls → vx_W p l e R s m args below meth c H1 locs1 (cells + mc) (slots + ms) Q (F0 m pc ls rest) q9)
    (kk : ∀ (r : Int32) (u : S1) (H1 : Heap) (locs1 : List Loc), post r u → va_P D vwCl (Wn u).flatten H1 → va_D A (Wn u).flatten → va_S A s.heap H1 locs1 → W p l e R s m args below meth c H1 locs1 (cells + mc) (slots + ms) Q (F0 m (pc + 3) ls (.int r :: rest))) : W p l e R s m args below meth c H locs cells slots Q (F0 m pc ls st0) := by
  subst hwc
  have hPc : va_P D vwCl Wc.flatten H := k_subS hP is hC
  have hDc : va_D A Wc.flatten := k_subD hD is hnd hC
  have hFc : ∀ q, va_A Wc.flatten H.size q → A q := fun q h => h.elim (fun ⟨k, e, h⟩ => hDc.2 k _ h) (fun h => hA q (Nat.le_trans hS.1 h))
  refine vx_calli (vx_runV S hM cw ⟨k_blX, va_recv hK.1 hPc hcl he, fun U hU hW => ⟨rfl, ⟨by rw [hU], hK.warm hW, by rw [hU]; exact hPc, hDc.weaken (fun _ _ _ _ => trivial)⟩, hX.to hS hW hU hFc⟩⟩ rfl hn hsize hst (lv_room hW) hdg hf) hS (fun q _ h => hFc q h) hFc (fun q _ h => hFc q h) (fun E ce q9 u t H1 locs1 ht _ _ hB hz1 hk1 hS hce hcv hcle => ?_) (fun r u t H1 locs1 ht _ hw hB hz1 hk1 hS => ?_)
  · obtain ⟨hE, hP1, hD1⟩ := hB
    rw [ht] at hP1
    obtain ⟨hP2, hD2⟩ := k_frameN (W1 := Wc) hP hD is hC rfl hk1 hFc hP1 hD1
    rw [k_ps_same is Wc Wl hC] at hP2 hD2
    exact kx E ce q9 H1 locs1 hE hP2 hD2 hS hce hcv hcle
  · obtain ⟨hP1, hD1⟩ := hB
    rw [ht] at hP1
    rw [← hw' u] at hP1 hD1
    obtain ⟨hP2, hD2⟩ := k_frameN hP hD is hC (hl1 u) hk1 hFc hP1 hD1
    rw [hwn u] at hP2 hD2
    exact kk r u H1 locs1 hw hP2 hD2 hS
theorem k_ySUl {S1 : Type} {post : Int64 → S1 → Prop} {w' : S1 → va_W} {W' Wn : S1 → List va_W} (S : CallFix p m c cc nL s args Ts own) (hM : k_xul (S := S1) l y ws fr lo mc ms D κ (.ref b :: As) wc H.size post w' pY) (cw : CallW R s args own qc.1 index y bytes maxL ret ws ({ frames := fr, cells := mc, slots := ms, locals := lo }) mc ms n) (hK : k_K D κ s) (hX : k_X A s) (hP : va_P D vwCl Wl.flatten H) (hD : va_D A Wl.flatten) (hS : va_S A s.heap H locs) (hA : ∀ q, s.heap.size ≤ q → A q) (is : List Nat) (hnd : va_nd is = true) (hC : is.map (fun i => Wl[i]?) = Wc.map some) (hwc : Wc.flatten = wc) (hw' : ∀ u, (W' u).flatten = w' u)
    (hcl : vwCl[ci]? = some qc) (he : wc[q0]? = some (b, .inr (ci, fs))) (hl1 : ∀ u, (W' u).length = Wc.length) (hwn : ∀ u, k_ps Wl is (W' u) = Wn u)
    (hst : st0 = As.reverse ++ .ref b :: rest) (hn : As.length = n) (hsize : ls.size = nL) (hW : (rest.map fun v => v.category).sum ≤ 8) (hdg : decode cc pc = .ok (.invokevirtual index, 3)) (hf : cells + mc ≤ R.cells ∧ slots + ms ≤ R.slots)
    (kx : ∀ (E : String) (ce : Cell) (q9 : Addr) (H1 : Heap) (locs1 : List Loc), pY E → va_P D vwCl Wl.flatten H1 → va_D A Wl.flatten → va_S A s.heap H1 locs1 → H1[q9]? = some ce → ce.vm = .none → s.vm.findClass E = some ce.cls → vx_W p l e R s m args below meth c H1 locs1 (cells + mc) (slots + ms) Q (F0 m pc ls rest) q9)
    (kk : ∀ (r : Int64) (u : S1) (H1 : Heap) (locs1 : List Loc), post r u → va_P D vwCl (Wn u).flatten H1 → va_D A (Wn u).flatten → va_S A s.heap H1 locs1 → W p l e R s m args below meth c H1 locs1 (cells + mc) (slots + ms) Q (F0 m (pc + 3) ls (.long r :: rest))) : W p l e R s m args below meth c H locs cells slots Q (F0 m pc ls st0) := by
  subst hwc
  have hPc : va_P D vwCl Wc.flatten H := k_subS hP is hC
  have hDc : va_D A Wc.flatten := k_subD hD is hnd hC
  have hFc : ∀ q, va_A Wc.flatten H.size q → A q := fun q h => h.elim (fun ⟨k, e, h⟩ => hDc.2 k _ h) (fun h => hA q (Nat.le_trans hS.1 h))
  refine vx_calll (vx_runV S hM cw ⟨k_blX, va_recv hK.1 hPc hcl he, fun U hU hW => ⟨rfl, ⟨by rw [hU], hK.warm hW, by rw [hU]; exact hPc, hDc.weaken (fun _ _ _ _ => trivial)⟩, hX.to hS hW hU hFc⟩⟩ rfl hn hsize hst (lv_room hW) hdg hf) hS (fun q _ h => hFc q h) hFc (fun q _ h => hFc q h) (fun E ce q9 u t H1 locs1 ht _ _ hB hz1 hk1 hS hce hcv hcle => ?_) (fun r u t H1 locs1 ht _ hw hB hz1 hk1 hS => ?_)
  · obtain ⟨hE, hP1, hD1⟩ := hB
    rw [ht] at hP1
    obtain ⟨hP2, hD2⟩ := k_frameN (W1 := Wc) hP hD is hC rfl hk1 hFc hP1 hD1
    rw [k_ps_same is Wc Wl hC] at hP2 hD2
    exact kx E ce q9 H1 locs1 hE hP2 hD2 hS hce hcv hcle
  · obtain ⟨hP1, hD1⟩ := hB
    rw [ht] at hP1
    rw [← hw' u] at hP1 hD1
    obtain ⟨hP2, hD2⟩ := k_frameN hP hD is hC (hl1 u) hk1 hFc hP1 hD1
    rw [hwn u] at hP2 hD2
    exact kk r u H1 locs1 hw hP2 hD2 hS
/-- a call of a small method, by the law -/
theorem k_cYW {S1 : Type} {post : Int32 → S1 → Prop} {w' : S1 → va_W} {W' Wn : S1 → List va_W} {hh : List (Nat × Nat × Nat × Nat)} (S : CallFix p m c cc nL s args Ts own) (hM : k_yui (S := S1) l y ws fr lo mc ms D κ As wc H.size post w') (cw : vx_CSW R s args own index y bytes maxL ret hh ws ({ frames := fr, cells := mc, slots := ms, locals := lo }) mc ms n) (hK : k_K D κ s) (hX : k_X A s) (hN : k_NC s) (hP : va_P D vwCl Wl.flatten H) (hD : va_D A Wl.flatten) (hS : va_S A s.heap H locs) (hA : ∀ q, s.heap.size ≤ q → A q) (is : List Nat) (hnd : va_nd is = true) (hC : is.map (fun i => Wl[i]?) = Wc.map some) (hwc : Wc.flatten = wc) (hw' : ∀ u, (W' u).flatten = w' u)
    (hl1 : ∀ u, (W' u).length = Wc.length) (hwn : ∀ u, k_ps Wl is (W' u) = Wn u)
    (hst : st0 = As.reverse ++ rest) (hn : As.length = n) (hsize : ls.size = nL) (hW : (rest.map fun v => v.category).sum ≤ 8) (hdg : decode cc pc = .ok (.invokestatic index, 3)) (hf : cells + mc ≤ R.cells ∧ slots + ms ≤ R.slots)
    (kk : ∀ (r : Int32) (u : S1) (H1 : Heap) (locs1 : List Loc), post r u → va_P D vwCl (Wn u).flatten H1 → va_D A (Wn u).flatten → va_S A s.heap H1 locs1 → W p l e R s m args below meth c H1 locs1 (cells + mc) (slots + ms) Q (F0 m (pc + 3) ls (.int r :: rest))) : W p l e R s m args below meth c H locs cells slots Q (F0 m pc ls st0) := by
  subst hwc
  have hPc : va_P D vwCl Wc.flatten H := k_subS hP is hC
  have hDc : va_D A Wc.flatten := k_subD hD is hnd hC
  have hFc : ∀ q, va_A Wc.flatten H.size q → A q := fun q h => h.elim (fun ⟨k, e, h⟩ => hDc.2 k _ h) (fun h => hA q (Nat.le_trans hS.1 h))
  refine va_calli (vx_runSW S hM cw ⟨k_blY, fun U hU hW => ⟨rfl, ⟨by rw [hU], hK.warm hW, by rw [hU]; exact hPc, hDc.weaken (fun _ _ _ _ => trivial)⟩, hX.to hS hW hU hFc, hN.warm hW⟩⟩ rfl hn hsize hst (lv_room hW) hdg hf) hS (fun q _ h => hFc q h) hFc (fun r u t H1 locs1 ht _ hw hB hz1 hk1 hS => ?_)
  obtain ⟨hP1, hD1⟩ := hB
  rw [ht] at hP1
  rw [← hw' u] at hP1 hD1
  obtain ⟨hP2, hD2⟩ := k_frameN hP hD is hC (hl1 u) hk1 hFc hP1 hD1
  rw [hwn u] at hP2 hD2
  exact kk r u H1 locs1 hw hP2 hD2 hS
/-- a plain call that makes cells, with an answer -/
theorem k_cSNi {S1 : Type} {post : Int32 → S1 → Prop} {w' : S1 → va_W} {W' Wn : S1 → List va_W} (S : CallFix p m c cc nL s args Ts own) (hM : k_mui (S := S1) l y ws fr lo mc ms D κ (.ref b :: As) wc H.size post w') (cw : CallW R s args own qc.1 index y bytes maxL ret ws ({ frames := fr, cells := mc, slots := ms, locals := lo }) mc ms n) (hK : k_K D κ s) (hP : va_P D vwCl Wl.flatten H) (hD : va_D A Wl.flatten) (hS : va_S A H0 H locs) (hA : ∀ q, H0.size ≤ q → A q) (is : List Nat) (hnd : va_nd is = true) (hC : is.map (fun i => Wl[i]?) = Wc.map some) (hwc : Wc.flatten = wc) (hw' : ∀ u, (W' u).flatten = w' u)
    (hcl : vwCl[ci]? = some qc) (he : wc[q0]? = some (b, .inr (ci, fs))) (hl1 : ∀ u, (W' u).length = Wc.length) (hwn : ∀ u, k_ps Wl is (W' u) = Wn u)
    (hst : st0 = As.reverse ++ .ref b :: rest) (hn : As.length = n) (hsize : ls.size = nL) (hW : (rest.map fun v => v.category).sum ≤ 8) (hdg : decode cc pc = .ok (.invokevirtual index, 3)) (hf : cells + mc ≤ R.cells ∧ slots + ms ≤ R.slots)
    (kk : ∀ (r : Int32) (u : S1) (H1 : Heap) (locs1 : List Loc), post r u → va_P D vwCl (Wn u).flatten H1 → va_D A (Wn u).flatten → va_S A H0 H1 locs1 → W p l e R s m args below meth c H1 locs1 (cells + mc) (slots + ms) Q (F0 m (pc + 3) ls (.int r :: rest))) : W p l e R s m args below meth c H locs cells slots Q (F0 m pc ls st0) := by
  subst hwc
  have hPc : va_P D vwCl Wc.flatten H := k_subS hP is hC
  have hDc : va_D A Wc.flatten := k_subD hD is hnd hC
  have hFc : ∀ q, va_A Wc.flatten H.size q → A q := fun q h => h.elim (fun ⟨k, e, h⟩ => hDc.2 k _ h) (fun h => hA q (Nat.le_trans hS.1 h))
  refine va_calli (va_runV S hM cw ⟨k_blS, va_recv hK.1 hPc hcl he, fun U hU hW => ⟨rfl, by rw [hU], hK.warm hW, by rw [hU]; exact hPc, hDc.weaken (fun _ _ _ _ => trivial)⟩⟩ rfl hn hsize hst (lv_room hW) hdg hf) hS (fun q _ h => hFc q h) hFc (fun r u t H1 locs1 ht _ hw hB hz1 hk1 hS => ?_)
  obtain ⟨hP1, hD1⟩ := hB
  rw [ht] at hP1
  rw [← hw' u] at hP1 hD1
  obtain ⟨hP2, hD2⟩ := k_frameN hP hD is hC (hl1 u) hk1 hFc hP1 hD1
  rw [hwn u] at hP2 hD2
  exact kk r u H1 locs1 hw hP2 hD2 hS
theorem k_cSNl {S1 : Type} {post : Int64 → S1 → Prop} {w' : S1 → va_W} {W' Wn : S1 → List va_W} (S : CallFix p m c cc nL s args Ts own) (hM : k_mul (S := S1) l y ws fr lo mc ms D κ (.ref b :: As) wc H.size post w') (cw : CallW R s args own qc.1 index y bytes maxL ret ws ({ frames := fr, cells := mc, slots := ms, locals := lo }) mc ms n) (hK : k_K D κ s) (hP : va_P D vwCl Wl.flatten H) (hD : va_D A Wl.flatten) (hS : va_S A H0 H locs) (hA : ∀ q, H0.size ≤ q → A q) (is : List Nat) (hnd : va_nd is = true) (hC : is.map (fun i => Wl[i]?) = Wc.map some) (hwc : Wc.flatten = wc) (hw' : ∀ u, (W' u).flatten = w' u)
    (hcl : vwCl[ci]? = some qc) (he : wc[q0]? = some (b, .inr (ci, fs))) (hl1 : ∀ u, (W' u).length = Wc.length) (hwn : ∀ u, k_ps Wl is (W' u) = Wn u)
    (hst : st0 = As.reverse ++ .ref b :: rest) (hn : As.length = n) (hsize : ls.size = nL) (hW : (rest.map fun v => v.category).sum ≤ 8) (hdg : decode cc pc = .ok (.invokevirtual index, 3)) (hf : cells + mc ≤ R.cells ∧ slots + ms ≤ R.slots)
    (kk : ∀ (r : Int64) (u : S1) (H1 : Heap) (locs1 : List Loc), post r u → va_P D vwCl (Wn u).flatten H1 → va_D A (Wn u).flatten → va_S A H0 H1 locs1 → W p l e R s m args below meth c H1 locs1 (cells + mc) (slots + ms) Q (F0 m (pc + 3) ls (.long r :: rest))) : W p l e R s m args below meth c H locs cells slots Q (F0 m pc ls st0) := by
  subst hwc
  have hPc : va_P D vwCl Wc.flatten H := k_subS hP is hC
  have hDc : va_D A Wc.flatten := k_subD hD is hnd hC
  have hFc : ∀ q, va_A Wc.flatten H.size q → A q := fun q h => h.elim (fun ⟨k, e, h⟩ => hDc.2 k _ h) (fun h => hA q (Nat.le_trans hS.1 h))
  refine va_calll (va_runV S hM cw ⟨k_blS, va_recv hK.1 hPc hcl he, fun U hU hW => ⟨rfl, by rw [hU], hK.warm hW, by rw [hU]; exact hPc, hDc.weaken (fun _ _ _ _ => trivial)⟩⟩ rfl hn hsize hst (lv_room hW) hdg hf) hS (fun q _ h => hFc q h) hFc (fun r u t H1 locs1 ht _ hw hB hz1 hk1 hS => ?_)
  obtain ⟨hP1, hD1⟩ := hB
  rw [ht] at hP1
  rw [← hw' u] at hP1 hD1
  obtain ⟨hP2, hD2⟩ := k_frameN hP hD is hC (hl1 u) hk1 hFc hP1 hD1
  rw [hwn u] at hP2 hD2
  exact kk r u H1 locs1 hw hP2 hD2 hS
end KYC
