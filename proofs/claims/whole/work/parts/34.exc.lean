/-! EXCEPTIONS: what a throwing method needs of the start, contracts that return or throw with the world as it was, calls -/
def k_tx : List (Nat × String) := [(221, "there would be more than 400 nodes"), (215, "there never was a node of this literal"), (217, "the node is gone"), (81, "there are 40 outputs"), (91, "there never was such an output"), (103, "a latch starts with 0 or 1"), (219, "it is no latch"), (119, "there are not so many outputs to go into the box"), (121, "a box has 1 to 20 outlets"), (213, "there never was such a node"), (132, "only an input or an and is replaced"), (174, "no rows are worked out"), (197, "of a node there are 0 to 3"), (205, "counted are 0 to 5")]
def k_ex : List String := ["java/lang/UnsupportedOperationException", "java/lang/IndexOutOfBoundsException", "java/lang/IllegalArgumentException", "java/lang/IllegalStateException"]
def k_dw : List MethodName := [⟨"java/lang/RuntimeException", "<init>", "(Ljava/lang/String;)V"⟩, ⟨"java/lang/Exception", "<init>", "(Ljava/lang/String;)V"⟩, ⟨"java/lang/Throwable", "<init>", "(Ljava/lang/String;)V"⟩]
abbrev k_nm : List String := ["java/lang/RuntimeException", "java/lang/Exception"]
def k_X (A : Nat → Prop) (U : State) : Prop := (∀ x ∈ k_dw, va_Nw (.declares x) U) ∧ (∀ E ∈ k_ex, va_Nw (.castable E E) U) ∧ (∀ q ∈ k_tx, ∃ sa, vk_R RX6 q.1 q.2 sa U) ∧ vx_Zq Bundle.tN "UNASSIGNED_STACK" Bundle.steD A U U.heap ∧ vx_Zq Bundle.tN "SUPPRESSED_SENTINEL" Bundle.listD A U U.heap
theorem k_X.to {A B : Nat → Prop} {s U : State} {H : Heap} {locs : List Loc} (h : k_X A s) (hS : va_S A s.heap H locs) (hW : s.WarmedH U.vm) (hU : U.heap = H) (hB : ∀ q, B q → A q) : k_X B U := by
  obtain ⟨h1, h2, h3, h4, h5⟩ := h
  refine ⟨fun x hx => va_Nw.warmD hW (h1 x hx), fun E hE => va_Nw.warmC hW (h2 E hE), fun q hq => ?_, ?_, ?_⟩
  · obtain ⟨sa, h⟩ := h3 q hq
    exact ⟨sa, vk_R.warm hW h⟩
  · rw [hU]; exact vx_Zq.moved hW.alike ((h4.kept hS.2.1).narrow hB)
  · rw [hU]; exact vx_Zq.moved hW.alike ((h5.kept hS.2.1).narrow hB)
theorem k_X.calling {A : Nat → Prop} {U : State} {g : JFrame} {mk : MethodId} {a : Array Value} (h : k_X A U) : k_X A (U.calling g mk a) := by
  obtain ⟨h1, h2, h3, h4, h5⟩ := h
  refine ⟨fun x hx => va_Nw.same rfl rfl (h1 x hx), fun E hE => va_Nw.same rfl rfl (h2 E hE), fun q hq => ?_, vx_Zq.moved (u := U) (U := U.calling g mk a) (Vm.Alike.refl U.vm) h4, vx_Zq.moved (u := U) (U := U.calling g mk a) (Vm.Alike.refl U.vm) h5⟩
  obtain ⟨sa, h⟩ := h3 q hq
  exact ⟨sa, vk_R.same (u := U) (U := U.calling g mk a) rfl h⟩
abbrev k_xX (D : va_G) (A : Nat → Prop) (w : va_W) (pX : String → Prop) : String → State → State → Prop := vx_X (fun _ : Unit => True) (fun E _ t => pX E ∧ k_B D A w t) A
abbrev k_xui {S : Type} (l : Launch) (y : MethodName) (ws : List Cond) (fr lo mc ms : Nat) (D : va_G) (κ : Nat → ClassId) (av : List Value) (w : va_W) (sz : Nat) (post : Int32 → S → Prop) (w' : S → va_W) (pX : String → Prop) : Prop := vx_Met l y ws ({ frames := fr, cells := mc, slots := ms, locals := lo }) (va_Pc av (fun U => k_S D κ w sz U ∧ k_X (va_A w sz) U)) (va_Qi post (fun u => k_B D (va_A w sz) (w' u)) (va_A w sz)) (k_xX D (va_A w sz) w pX) mc ms (va_A w sz)
abbrev k_xul {S : Type} (l : Launch) (y : MethodName) (ws : List Cond) (fr lo mc ms : Nat) (D : va_G) (κ : Nat → ClassId) (av : List Value) (w : va_W) (sz : Nat) (post : Int64 → S → Prop) (w' : S → va_W) (pX : String → Prop) : Prop := vx_Met l y ws ({ frames := fr, cells := mc, slots := ms, locals := lo }) (va_Pc av (fun U => k_S D κ w sz U ∧ k_X (va_A w sz) U)) (va_Ql post (fun u => k_B D (va_A w sz) (w' u)) (va_A w sz)) (k_xX D (va_A w sz) w pX) mc ms (va_A w sz)
abbrev k_xuv {S : Type} (l : Launch) (y : MethodName) (ws : List Cond) (fr lo mc ms : Nat) (D : va_G) (κ : Nat → ClassId) (av : List Value) (w : va_W) (sz : Nat) (post : S → Prop) (w' : S → va_W) (pX : String → Prop) : Prop := vx_Met l y ws ({ frames := fr, cells := mc, slots := ms, locals := lo }) (va_Pc av (fun U => k_S D κ w sz U ∧ k_X (va_A w sz) U)) (va_Qv post (fun u => k_B D (va_A w sz) (w' u)) (va_A w sz)) (k_xX D (va_A w sz) w pX) mc ms (va_A w sz)
theorem k_blX {As : List Value} {D : va_G} {κ : Nat → ClassId} {w : va_W} {sz : Nat} {A : Nat → Prop} : FrameBlind (va_Pc As (fun U => k_S D κ w sz U ∧ k_X A U)) := fun _ _ _ _ q => ⟨q.1, ⟨q.2.1.1, q.2.1.2.1.calling, q.2.1.2.2⟩, q.2.2.calling⟩
theorem k_frameN {A0 : Nat → Prop} {D : va_G} {cl : List vw_C} {W Wc W1 : List va_W} {H H1 : Heap} (hP : va_P D cl W.flatten H) (hD : va_D A0 W.flatten) (is : List Nat) (hC : is.map (fun i => W[i]?) = Wc.map some) (hl1 : W1.length = Wc.length)
    (hk : ∀ q : Nat, q < H.size → ¬ va_A Wc.flatten H.size q → H1[q]? = H[q]?) (hF : ∀ q, va_A Wc.flatten H.size q → A0 q) (hP1 : va_P D cl W1.flatten H1) (hD1 : va_D (va_A Wc.flatten H.size) W1.flatten) : va_P D cl (k_ps W is W1).flatten H1 ∧ va_D A0 (k_ps W is W1).flatten := by
  have hlen : is.length = W1.length := by
    have e1 := congrArg List.length hC
    simp only [List.length_map] at e1
    omega
  obtain ⟨hN, hA⟩ := k_D_iff.mp hD
  obtain ⟨hN1, hA1⟩ := k_D_iff.mp hD1
  have old : ∀ (k : Nat) (S : va_W), W[k]? = some S → k ∉ is → ∀ q ∈ S, q.1 < H.size ∧ ¬ va_A Wc.flatten H.size q.1 := by
    intro k S h1 h2 q hqS
    have hat := k_P_iff.mp hP q (List.mem_flatten.mpr ⟨S, List.mem_of_getElem? h1, hqS⟩)
    refine ⟨hat.lt, ?_⟩
    rintro (⟨j, e, hj⟩ | hge)
    · obtain ⟨T, hT, hqT⟩ := List.mem_flatten.mp (List.mem_of_getElem? hj)
      obtain ⟨i, hi, hWi⟩ := k_selS hC hT
      exact k_apart hN h1 hWi (fun e9 => h2 (e9 ▸ hi)) hqS hqT rfl
    · exact absurd hat.lt (by omega)
  have new : ∀ (j : Nat) (S : va_W), W1[j]? = some S → ∀ q ∈ S, va_A Wc.flatten H.size q.1 := fun j S h q hq => hA1 q (List.mem_flatten.mpr ⟨S, List.mem_of_getElem? h, hq⟩)
  refine ⟨k_P_iff.mpr (fun q hq => ?_), k_D_iff.mpr ⟨?_, fun q hq => ?_⟩⟩
  · obtain ⟨S, hS, hqS⟩ := List.mem_flatten.mp hq
    obtain ⟨k, hk1⟩ := List.getElem?_of_mem hS
    rcases k_ps_at is W1 W hlen k S hk1 with ⟨j, h1, h2⟩ | ⟨h1, h2⟩
    · exact k_P_iff.mp hP1 q (List.mem_flatten.mpr ⟨S, List.mem_of_getElem? h2, hqS⟩)
    · obtain ⟨g1, g2⟩ := old k S h1 h2 q hqS
      exact (k_P_iff.mp hP q (List.mem_flatten.mpr ⟨S, List.mem_of_getElem? h1, hqS⟩)).kept (hk _ g1 g2)
  · rw [List.map_flatten]
    have hN' := hN
    have hN1' := hN1
    rw [List.map_flatten] at hN' hN1'
    refine List.pairwise_flatten.mpr ⟨fun l hl => ?_, List.pairwise_iff_getElem.mpr (fun i j hi hj hlt => ?_)⟩
    · obtain ⟨S, hS, rfl⟩ := List.mem_map.mp hl
      obtain ⟨k, hk1⟩ := List.getElem?_of_mem hS
      rcases k_ps_at is W1 W hlen k S hk1 with ⟨j, h1, h2⟩ | ⟨h1, h2⟩
      · exact (List.pairwise_flatten.mp hN1').1 _ (List.mem_map.mpr ⟨S, List.mem_of_getElem? h2, rfl⟩)
      · exact (List.pairwise_flatten.mp hN').1 _ (List.mem_map.mpr ⟨S, List.mem_of_getElem? h1, rfl⟩)
    · simp only [List.length_map] at hi hj
      simp only [List.getElem_map]
      intro a ha b hb
      obtain ⟨p, hp, rfl⟩ := List.mem_map.mp ha
      obtain ⟨q, hq, rfl⟩ := List.mem_map.mp hb
      rcases k_ps_at is W1 W hlen i _ (List.getElem?_eq_getElem hi) with ⟨a1, h1, h2⟩ | ⟨h1, h2⟩
      · rcases k_ps_at is W1 W hlen j _ (List.getElem?_eq_getElem hj) with ⟨b1, g1, g2⟩ | ⟨g1, g2⟩
        · refine k_apart hN1 h2 g2 (fun e => ?_) hp hq
          subst e
          have := Option.some.inj (h1.symm.trans g1)
          omega
        · intro e
          exact (old j _ g1 g2 q hq).2 (e ▸ new a1 _ h2 p hp)
      · rcases k_ps_at is W1 W hlen j _ (List.getElem?_eq_getElem hj) with ⟨b1, g1, g2⟩ | ⟨g1, g2⟩
        · intro e
          exact (old i _ h1 h2 p hp).2 (e ▸ new b1 _ g2 q hq)
        · exact k_apart hN h1 g1 (by omega) hp hq
  · obtain ⟨S, hS, hqS⟩ := List.mem_flatten.mp hq
    obtain ⟨k, hk1⟩ := List.getElem?_of_mem hS
    rcases k_ps_at is W1 W hlen k S hk1 with ⟨j, h1, h2⟩ | ⟨h1, h2⟩
    · exact hF _ (new j S h2 q hqS)
    · exact hA q (List.mem_flatten.mpr ⟨S, List.mem_of_getElem? h1, hqS⟩)
section KXC
variable {p : Program} {l : Launch} {e : Env} {R : Room} {s : State} {m : MethodId} {args : Array Value} {below : List Frame} {meth : Method} {c : Code} {H H0 : Heap} {locs : List Loc} {cells slots : Nat} {Q : State → Prop} {A : Nat → Prop}
variable {Ts ws : List Cond} {own C host : String} {index maxL n nL mc ms mc0 ms0 fr lo pc b q0 ci sz : Nat} {y : MethodName} {bytes cc : ByteArray} {ret : Option FieldType} {D : va_G} {κ : Nat → ClassId} {w wc w0 : va_W} {ls : Array Slot} {st0 rest As : List Value} {qc : vw_C} {fs : List Value}
variable {Wl Wc : List va_W} {pX pY : String → Prop} {Qc : Array Value → State → Outcome → State → Prop}
/-- the callee has some pieces, and may make cells -/
theorem k_cSNv {S1 : Type} {post : S1 → Prop} {w' : S1 → va_W} {W' Wn : S1 → List va_W} (S : CallFix p m c cc nL s args Ts own) (hM : k_muv l y ws fr lo mc ms D κ (.ref b :: As) wc H.size post w') (cw : CallW R s args own qc.1 index y bytes maxL ret ws ({ frames := fr, cells := mc, slots := ms, locals := lo }) mc ms n) (hK : k_K D κ s) (hP : va_P D vwCl Wl.flatten H) (hD : va_D A Wl.flatten) (hS : va_S A H0 H locs) (hA : ∀ q, H0.size ≤ q → A q) (is : List Nat) (hnd : va_nd is = true) (hC : is.map (fun i => Wl[i]?) = Wc.map some) (hwc : Wc.flatten = wc) (hw' : ∀ u, (W' u).flatten = w' u)
    (hcl : vwCl[ci]? = some qc) (he : wc[q0]? = some (b, .inr (ci, fs))) (hl1 : ∀ u, (W' u).length = Wc.length) (hwn : ∀ u, k_ps Wl is (W' u) = Wn u)
    (hst : st0 = As.reverse ++ .ref b :: rest) (hn : As.length = n) (hsize : ls.size = nL) (hW : (rest.map fun v => v.category).sum ≤ 8) (hdg : decode cc pc = .ok (.invokevirtual index, 3)) (hf : cells + mc ≤ R.cells ∧ slots + ms ≤ R.slots)
    (kk : ∀ (u : S1) (H1 : Heap) (locs1 : List Loc), post u → va_P D vwCl (Wn u).flatten H1 → va_D A (Wn u).flatten → va_S A H0 H1 locs1 → W p l e R s m args below meth c H1 locs1 (cells + mc) (slots + ms) Q (F0 m (pc + 3) ls rest)) : W p l e R s m args below meth c H locs cells slots Q (F0 m pc ls st0) := by
  subst hwc
  have hPc : va_P D vwCl Wc.flatten H := k_subS hP is hC
  have hDc : va_D A Wc.flatten := k_subD hD is hnd hC
  have hFc : ∀ q, va_A Wc.flatten H.size q → A q := fun q h => h.elim (fun ⟨k, e, h⟩ => hDc.2 k _ h) (fun h => hA q (Nat.le_trans hS.1 h))
  refine va_callv (va_runV S hM cw ⟨k_blS, va_recv hK.1 hPc hcl he, fun U hU hW => ⟨rfl, by rw [hU], hK.warm hW, by rw [hU]; exact hPc, hDc.weaken (fun _ _ _ _ => trivial)⟩⟩ rfl hn hsize hst (lv_room hW) hdg hf) hS (fun q _ h => hFc q h) hFc (fun u t H1 locs1 ht _ hw hB hz1 hk1 hS => ?_)
  obtain ⟨hP1, hD1⟩ := hB
  rw [ht] at hP1
  rw [← hw' u] at hP1 hD1
  obtain ⟨hP2, hD2⟩ := k_frameN hP hD is hC (hl1 u) hk1 hFc hP1 hD1
  rw [hwn u] at hP2 hD2
  exact kk u H1 locs1 hw hP2 hD2 hS
/-- the callee returns or throws; what it throws goes on to the caller -/
theorem k_xSUv {S1 : Type} {post : S1 → Prop} {w' : S1 → va_W} {W' Wn : S1 → List va_W} (S : CallFix p m c cc nL s args Ts own) (hM : k_xuv l y ws fr lo mc ms D κ (.ref b :: As) wc H.size post w' pY) (cw : CallW R s args own qc.1 index y bytes maxL ret ws ({ frames := fr, cells := mc, slots := ms, locals := lo }) mc ms n) (hK : k_K D κ s) (hX : k_X A s) (hP : va_P D vwCl Wl.flatten H) (hD : va_D A Wl.flatten) (hS : va_S A s.heap H locs) (hA : ∀ q, s.heap.size ≤ q → A q) (is : List Nat) (hnd : va_nd is = true) (hC : is.map (fun i => Wl[i]?) = Wc.map some) (hwc : Wc.flatten = wc) (hw' : ∀ u, (W' u).flatten = w' u)
    (hcl : vwCl[ci]? = some qc) (he : wc[q0]? = some (b, .inr (ci, fs))) (hl1 : ∀ u, (W' u).length = Wc.length) (hwn : ∀ u, k_ps Wl is (W' u) = Wn u)
    (hst : st0 = As.reverse ++ .ref b :: rest) (hn : As.length = n) (hsize : ls.size = nL) (hW : (rest.map fun v => v.category).sum ≤ 8) (hdg : decode cc pc = .ok (.invokevirtual index, 3)) (hf : cells + mc ≤ R.cells ∧ slots + ms ≤ R.slots)
    (hout : ∀ x ∈ c.exceptionTable.toList, False) (hlocks : meth.locks = false) (hw0 : Wl.flatten = w0) (hYX : ∀ E, pY E → pX E) (hcm : cells + mc ≤ mc0) (hsm : slots + ms ≤ ms0)
    (kk : ∀ (u : S1) (H1 : Heap) (locs1 : List Loc), post u → va_P D vwCl (Wn u).flatten H1 → va_D A (Wn u).flatten → va_S A s.heap H1 locs1 → W p l e R s m args below meth c H1 locs1 (cells + mc) (slots + ms) (vx_MQ below Qc (k_xX D A w0 pX) args s mc0 ms0 A) (F0 m (pc + 3) ls rest)) : W p l e R s m args below meth c H locs cells slots (vx_MQ below Qc (k_xX D A w0 pX) args s mc0 ms0 A) (F0 m pc ls st0) := by
  subst hwc
  have hPc : va_P D vwCl Wc.flatten H := k_subS hP is hC
  have hDc : va_D A Wc.flatten := k_subD hD is hnd hC
  have hFc : ∀ q, va_A Wc.flatten H.size q → A q := fun q h => h.elim (fun ⟨k, e, h⟩ => hDc.2 k _ h) (fun h => hA q (Nat.le_trans hS.1 h))
  refine vx_callv (vx_runV S hM cw ⟨k_blX, va_recv hK.1 hPc hcl he, fun U hU hW => ⟨rfl, ⟨by rw [hU], hK.warm hW, by rw [hU]; exact hPc, hDc.weaken (fun _ _ _ _ => trivial)⟩, hX.to hS hW hU hFc⟩⟩ rfl hn hsize hst (lv_room hW) hdg hf) hS (fun q _ h => hFc q h) hFc (fun q _ h => hFc q h) (fun E ce q9 u t H1 locs1 ht _ _ hB hz1 hk1 hS hce hcv hcle => ?_) (fun u t H1 locs1 ht _ hw hB hz1 hk1 hS => ?_)
  · obtain ⟨hE, hP1, hD1⟩ := hB
    rw [ht] at hP1
    obtain ⟨hP2, hD2⟩ := k_frameN (W1 := Wc) hP hD is hC rfl hk1 hFc hP1 hD1
    rw [k_ps_same is Wc Wl hC, hw0] at hP2 hD2
    exact vx_out (fun x hx => absurd hx (fun h => hout x h)) hlocks hce hcv hcle (fun t9 ht9 _ => ⟨(), trivial, ⟨hYX E hE, by rw [ht9]; exact hP2, hD2⟩, hS.F ht9⟩) hS.2.2 hcm hsm
  · obtain ⟨hP1, hD1⟩ := hB
    rw [ht] at hP1
    rw [← hw' u] at hP1 hD1
    obtain ⟨hP2, hD2⟩ := k_frameN hP hD is hC (hl1 u) hk1 hFc hP1 hD1
    rw [hwn u] at hP2 hD2
    exact kk u H1 locs1 hw hP2 hD2 hS
/-- throw new E(text) -/
theorem k_throw {E text : String} {ik is ic : Nat} (hexec : p.tables.exec = Jvm.exec) (hb : c.code = cc) (hl : l.stackTraces = false) (hown : s.vm.findClass RX6 = some m.cls) (hE : E ∈ k_ex) (htx : (is, text) ∈ k_tx)
    (hk : (Cond.classLink RX6 ik E).before args s = true) (hini : (Cond.initialized E).before args s = true) (hat : ∀ w ∈ (vx_atS RX6 ic E k_nm).filter goodWord, w.before args s = true) (hbad : ∀ w ∈ (vx_atS RX6 ic E k_nm).filter (fun w => !goodWord w), w ∈ Cond.castable E E :: k_dw.map Cond.declares) (hgood : ∀ w ∈ Cond.classLink RX6 ik E :: Cond.initialized E :: vx_atS RX6 ic E k_nm, vx_ot w = true) (hfit : Bundle.fit E = true)
    (hX : k_X A s) (hP : va_P D vwCl w0 H) (hD : va_D A w0) (hS : va_S A s.heap H locs) (hsize : ls.size = c.maxLocals)
    (d0 : decode cc pc = .ok (.new ik, 3)) (d3 : decode cc (pc + 3) = .ok (.dup, 1)) (d4 : decode cc (pc + 4) = .ok (.ldc is, 2)) (d6 : decode cc (pc + 6) = .ok (.invokespecial ic, 3)) (d9 : decode cc (pc + 9) = .ok (.athrow, 1))
    (hout : ∀ x ∈ c.exceptionTable.toList, False) (hRframes : 5 < R.frames) (hRlocals : 90 ≤ R.locals) (hrs : (rest.map fun v => v.category).sum ≤ 8) (hRcells : cells + 1 ≤ R.cells) (hRslots : slots + 6 ≤ R.slots) (hlocks : meth.locks = false) (hpX : pX E) (hc : cells + 1 ≤ mc0) (hs : slots + 6 ≤ ms0) :
    W p l e R s m args below meth c H locs cells slots (vx_MQ below Qc (k_xX D A w0 pX) args s mc0 ms0 A) (F0 m pc ls rest) := by
  obtain ⟨h1, h2, h3, h4, h5⟩ := hX
  obtain ⟨sa, hsa⟩ := h3 (is, text) htx
  refine vx_throwS (names := k_nm) hexec hb hl hown hfit (by decide +kernel) hk hini hsa (vx_hat hat hbad (fun w hw => ?_)) hgood h4 h5 hS hsize d0 d3 d4 d6 d9 (fun x hx => absurd hx (fun h => hout x h)) (by simpa using hRframes) (by have : k_nm.length = 2 := rfl; omega) hRcells hRslots hlocks (fun t ha hz ho => ?_) hS.2.2 hc hs
  · rcases List.mem_cons.mp hw with rfl | hw
    · exact va_Nw.use rfl (h2 E hE)
    · obtain ⟨x, hx, rfl⟩ := List.mem_map.mp hw
      exact va_Nw.use rfl (h1 x hx)
  · refine ⟨(), trivial, ⟨hpX, k_P_iff.mpr (fun q hq => ?_), hD⟩, Nat.le_trans hS.1 hz, fun q h1 h2 => (ho q (Nat.lt_of_lt_of_le h1 hS.1)).trans (hS.2.1 q h1 h2)⟩
    have hat := k_P_iff.mp hP q hq
    exact hat.kept (ho _ hat.lt)
end KXC
theorem k_bad_U : ∀ w ∈ (vx_atS RX6 83 "java/lang/UnsupportedOperationException" k_nm).filter (fun w => !goodWord w), w ∈ Cond.castable "java/lang/UnsupportedOperationException" "java/lang/UnsupportedOperationException" :: k_dw.map Cond.declares := by decide +kernel
theorem k_bad_I : ∀ w ∈ (vx_atS RX6 93 "java/lang/IndexOutOfBoundsException" k_nm).filter (fun w => !goodWord w), w ∈ Cond.castable "java/lang/IndexOutOfBoundsException" "java/lang/IndexOutOfBoundsException" :: k_dw.map Cond.declares := by decide +kernel
theorem k_bad_A : ∀ w ∈ (vx_atS RX6 105 "java/lang/IllegalArgumentException" k_nm).filter (fun w => !goodWord w), w ∈ Cond.castable "java/lang/IllegalArgumentException" "java/lang/IllegalArgumentException" :: k_dw.map Cond.declares := by decide +kernel
theorem k_bad_S : ∀ w ∈ (vx_atS RX6 176 "java/lang/IllegalStateException" k_nm).filter (fun w => !goodWord w), w ∈ Cond.castable "java/lang/IllegalStateException" "java/lang/IllegalStateException" :: k_dw.map Cond.declares := by decide +kernel
theorem k_good_U : ∀ w ∈ Cond.classLink RX6 79 "java/lang/UnsupportedOperationException" :: Cond.initialized "java/lang/UnsupportedOperationException" :: vx_atS RX6 83 "java/lang/UnsupportedOperationException" k_nm, vx_ot w = true := by decide +kernel
theorem k_good_I : ∀ w ∈ Cond.classLink RX6 89 "java/lang/IndexOutOfBoundsException" :: Cond.initialized "java/lang/IndexOutOfBoundsException" :: vx_atS RX6 93 "java/lang/IndexOutOfBoundsException" k_nm, vx_ot w = true := by decide +kernel
theorem k_good_A : ∀ w ∈ Cond.classLink RX6 101 "java/lang/IllegalArgumentException" :: Cond.initialized "java/lang/IllegalArgumentException" :: vx_atS RX6 105 "java/lang/IllegalArgumentException" k_nm, vx_ot w = true := by decide +kernel
theorem k_good_S : ∀ w ∈ Cond.classLink RX6 172 "java/lang/IllegalStateException" :: Cond.initialized "java/lang/IllegalStateException" :: vx_atS RX6 176 "java/lang/IllegalStateException" k_nm, vx_ot w = true := by decide +kernel
