/-! BASE: what is known of the tables (k_K), pictures before and behind a method (k_R, k_S, k_B), calls in one row -/
abbrev vwCl : List vw_C := [(RX0, TX0, 1), (RX1, TX1, 10), (RX2, TX2, 3), (RX3, TX3, 1), (RX4, TX4, 3), (RX5, TX5, 2), (RX6, TX6, 5), (RX7, TX7, 15)]
abbrev k_T (κ : Nat → ClassId) : List (ClassId × FieldType) := [(κ 0, .int), (κ 1, .long), (κ 2, .boolean), (κ 3, .object "InverterGraphs$Graph")]
/-- the links to the outer class's private methods -/
def k_N (U : State) : Prop := va_Nw (.methodLinkNest RX1 72 yX6_nodeOf RX6) U ∧ va_Nw (.methodLinkNest RX1 75 yX6_turned RX6) U ∧ va_Nw (.methodLinkNest RX1 82 yX6_literalOf RX6) U ∧ va_Nw (.methodLinkNest RX1 109 yX6_isTurned RX6) U ∧ va_Nw (.methodLinkNest RX3 49 yX6_nodeOf RX6) U ∧ va_Nw (.methodLinkNest RX4 50 yX6_nodeOf RX6) U ∧ va_Nw (.methodLinkNest RX5 64 yX6_nodeOf RX6) U ∧ va_Nw (.methodLinkNest RX5 67 yX6_isTurned RX6) U
theorem k_N.warm {s U : State} (hW : s.WarmedH U.vm) (h : k_N s) : k_N U := ⟨va_Nw.warmM hW h.1, va_Nw.warmM hW h.2.1, va_Nw.warmM hW h.2.2.1, va_Nw.warmM hW h.2.2.2.1, va_Nw.warmM hW h.2.2.2.2.1, va_Nw.warmM hW h.2.2.2.2.2.1, va_Nw.warmM hW h.2.2.2.2.2.2.1, va_Nw.warmM hW h.2.2.2.2.2.2.2⟩
theorem k_N.same {u U : State} (e : u.vm = U.vm) (h : k_N u) : k_N U := ⟨va_Nw.same rfl e h.1, va_Nw.same rfl e h.2.1, va_Nw.same rfl e h.2.2.1, va_Nw.same rfl e h.2.2.2.1, va_Nw.same rfl e h.2.2.2.2.1, va_Nw.same rfl e h.2.2.2.2.2.1, va_Nw.same rfl e h.2.2.2.2.2.2.1, va_Nw.same rfl e h.2.2.2.2.2.2.2⟩
def k_K (D : va_G) (κ : Nat → ClassId) (U : State) : Prop := va_K D vwCl (k_T κ) U ∧ k_N U
theorem k_K.warm {D : va_G} {κ : Nat → ClassId} {s U : State} (hW : s.WarmedH U.vm) (h : k_K D κ s) : k_K D κ U := ⟨va_K.moved hW.alike h.1, h.2.warm hW⟩
theorem k_K.calling {D : va_G} {κ : Nat → ClassId} {U : State} {g : JFrame} {mk : MethodId} {a : Array Value} (h : k_K D κ U) : k_K D κ (U.calling g mk a) := ⟨va_K.moved (u := U) (U := U.calling g mk a) (Vm.Alike.refl U.vm) h.1, k_N.same (u := U) (U := U.calling g mk a) rfl h.2⟩
/-- a start of a method that only reads -/
def k_R (D : va_G) (κ : Nat → ClassId) (w : va_W) : State → Prop := fun U => k_K D κ U ∧ va_P D vwCl w U.heap
/-- a start of a method that writes -/
def k_S (D : va_G) (κ : Nat → ClassId) (w : va_W) (sz : Nat) : State → Prop := fun U => U.heap.size = sz ∧ k_K D κ U ∧ va_P D vwCl w U.heap ∧ va_D (fun _ => True) w
/-- its end -/
def k_B (D : va_G) (A : Nat → Prop) (w : va_W) : State → Prop := fun t => va_P D vwCl w t.heap ∧ va_D A w
abbrev k_roi (l : Launch) (y : MethodName) (ws : List Cond) (fr lo : Nat) (D : va_G) (κ : Nat → ClassId) (av : List Value) (w : va_W) (post : Int32 → Prop) : Prop := Met l y ws ({ frames := fr, cells := 0, slots := 0, locals := lo }) (va_Pc av (k_R D κ w)) (vp_Si post) 0 0 (fun _ => False)
abbrev k_rol (l : Launch) (y : MethodName) (ws : List Cond) (fr lo : Nat) (D : va_G) (κ : Nat → ClassId) (av : List Value) (w : va_W) (post : Int64 → Prop) : Prop := Met l y ws ({ frames := fr, cells := 0, slots := 0, locals := lo }) (va_Pc av (k_R D κ w)) (vp_Sl post) 0 0 (fun _ => False)
abbrev k_mui {S : Type} (l : Launch) (y : MethodName) (ws : List Cond) (fr lo mc ms : Nat) (D : va_G) (κ : Nat → ClassId) (av : List Value) (w : va_W) (sz : Nat) (post : Int32 → S → Prop) (w' : S → va_W) : Prop := Met l y ws ({ frames := fr, cells := mc, slots := ms, locals := lo }) (va_Pc av (k_S D κ w sz)) (va_Qi post (fun u => k_B D (va_A w sz) (w' u)) (va_A w sz)) mc ms (va_A w sz)
abbrev k_mul {S : Type} (l : Launch) (y : MethodName) (ws : List Cond) (fr lo mc ms : Nat) (D : va_G) (κ : Nat → ClassId) (av : List Value) (w : va_W) (sz : Nat) (post : Int64 → S → Prop) (w' : S → va_W) : Prop := Met l y ws ({ frames := fr, cells := mc, slots := ms, locals := lo }) (va_Pc av (k_S D κ w sz)) (va_Ql post (fun u => k_B D (va_A w sz) (w' u)) (va_A w sz)) mc ms (va_A w sz)
abbrev k_muv {S : Type} (l : Launch) (y : MethodName) (ws : List Cond) (fr lo mc ms : Nat) (D : va_G) (κ : Nat → ClassId) (av : List Value) (w : va_W) (sz : Nat) (post : S → Prop) (w' : S → va_W) : Prop := Met l y ws ({ frames := fr, cells := mc, slots := ms, locals := lo }) (va_Pc av (k_S D κ w sz)) (va_Qv post (fun u => k_B D (va_A w sz) (w' u)) (va_A w sz)) mc ms (va_A w sz)
/-- a static method that depends on numbers alone -/
abbrev k_sti (l : Launch) (y : MethodName) (ws : List Cond) (fr lo : Nat) (av : List Value) (post : Int32 → Prop) : Prop := Met l y ws ({ frames := fr, cells := 0, slots := 0, locals := lo }) (va_Pc av (fun _ => True)) (vp_Si post) 0 0 (fun _ => False)
abbrev k_stl (l : Launch) (y : MethodName) (ws : List Cond) (fr lo : Nat) (av : List Value) (post : Int64 → Prop) : Prop := Met l y ws ({ frames := fr, cells := 0, slots := 0, locals := lo }) (va_Pc av (fun _ => True)) (vp_Sl post) 0 0 (fun _ => False)
/-- the cells at the places, put anew -/
def k_set : va_W → List Nat → va_W → va_W
  | w, i :: is, x :: xs => k_set (w.set i x) is xs
  | w, _, _ => w
theorem k_set_at : ∀ (is : List Nat) (xs w : va_W) (hl : is.length = xs.length) (k : Nat) (q : Nat × va_E), (k_set w is xs)[k]? = some q → (∃ j : Nat, is[j]? = some k ∧ xs[j]? = some q) ∨ (w[k]? = some q ∧ k ∉ is) := by
  intro is
  induction is with
  | nil => intro xs w _ k q h; exact Or.inr ⟨by simpa [k_set] using h, List.not_mem_nil⟩
  | cons i is ih =>
    intro xs w hl k q h
    cases xs with
    | nil => simp at hl
    | cons x xs =>
      rcases ih xs (w.set i x) (by simpa using hl) k q h with ⟨j, h1, h2⟩ | ⟨h1, h2⟩
      · exact Or.inl ⟨j + 1, by simpa using h1, by simpa using h2⟩
      · by_cases e : i = k
        · subst e
          rw [List.getElem?_set_self'] at h1
          cases hw : w[i]? with
          | none => rw [hw] at h1; cases h1
          | some z => rw [hw] at h1; exact Or.inl ⟨0, rfl, by simpa using h1⟩
        · rw [List.getElem?_set_ne e] at h1
          exact Or.inr ⟨h1, fun hm => (List.mem_cons.mp hm).elim (fun z => e z.symm) h2⟩
theorem k_frame {A0 : Nat → Prop} {D : va_G} {cl : List vw_C} {ws wc w1 : va_W} {H H1 : Heap} (hP : va_P D cl ws H) (hD : va_D A0 ws) (is : List Nat) (hC : is.map (fun i => ws[i]?) = wc.map some) (ha : w1.map Prod.fst = wc.map Prod.fst)
    (hk : ∀ q : Nat, q < H.size → ¬ va_A wc H.size q → H1[q]? = H[q]?) (hP1 : va_P D cl w1 H1) : va_P D cl (k_set ws is w1) H1 ∧ va_D A0 (k_set ws is w1) := by
  have hlen : is.length = w1.length := by
    have e1 := congrArg List.length hC
    have e2 := congrArg List.length ha
    simp only [List.length_map] at e1 e2
    omega
  have at' : ∀ (j i : Nat), is[j]? = some i → ∃ q, wc[j]? = some q ∧ ws[i]? = some q := by
    intro j i hj
    have h1 : (is.map (fun i => ws[i]?))[j]? = some ws[i]? := by rw [List.getElem?_map, hj]; rfl
    rw [hC, List.getElem?_map] at h1
    cases hw : wc[j]? with
    | none => rw [hw] at h1; cases h1
    | some q => rw [hw] at h1; exact ⟨q, rfl, (Option.some.inj h1).symm⟩
  have adr : ∀ (k : Nat) (q : Nat × va_E), (k_set ws is w1)[k]? = some q → ∃ e, ws[k]? = some (q.1, e) := by
    intro k q h
    rcases k_set_at is w1 ws hlen k q h with ⟨j, h1, h2⟩ | ⟨h1, -⟩
    · obtain ⟨z, hz1, hz2⟩ := at' j k h1
      have e1 : (w1.map Prod.fst)[j]? = some q.1 := by rw [List.getElem?_map, h2]; rfl
      rw [ha, List.getElem?_map, hz1] at e1
      have e2 : z.1 = q.1 := Option.some.inj e1
      exact ⟨z.2, by rw [hz2, ← e2]⟩
    · exact ⟨q.2, h1⟩
  refine ⟨fun k q h => ?_, fun i j p q h1 h2 h3 => ?_, fun k q h => ?_⟩
  · rcases k_set_at is w1 ws hlen k q h with ⟨j, h1, h2⟩ | ⟨h1, h2⟩
    · exact hP1 j q h2
    · refine (hP k q h1).kept (hk _ ((hP k q h1).lt) ?_)
      rintro (⟨j, e, hj⟩ | hge)
      · have hj2 : j < is.length := by
          have := (List.getElem?_eq_some_iff.mp hj).1
          have e1 := congrArg List.length hC
          simp only [List.length_map] at e1
          omega
        obtain ⟨z, hz1, hz2⟩ := at' j is[j] (List.getElem?_eq_getElem hj2)
        have e3 : z = (q.1, e) := Option.some.inj (hz1.symm.trans hj)
        subst e3
        have e4 := hD.1 k is[j] q _ h1 hz2 rfl
        exact h2 (by rw [e4]; exact List.getElem_mem hj2)
      · exact absurd ((hP k q h1).lt) (by omega)
  · obtain ⟨e1, g1⟩ := adr i p h1
    obtain ⟨e2, g2⟩ := adr j q h2
    exact hD.1 i j _ _ g1 g2 h3
  · obtain ⟨e1, g1⟩ := adr k q h
    exact hD.2 k (q.1, e1) g1
theorem k_ofVa {p : Program} {l : Launch} {e : Env} {R : Room} {s : State} {m : MethodId} {args : Array Value} {below : List Frame} {meth : Method} {c : Code} {H : Heap} {locs : List Loc} {cells slots mc ms : Nat} {g : JFrame} {rest : List Value} {Qa : State → Outcome → State → Prop} {free : Addr → Prop} (h : va_Run p l e R s m args below meth c H locs cells slots mc ms g rest Qa free) : CallRun p l e R s m args below meth c H locs cells slots mc ms g rest Qa free := by
  intro T hT X
  obtain ⟨v, st₀, t, T', L, h0, X', hL, e1, -, hq, st⟩ := h T hT X
  exact ⟨v, st₀, t, T', L, h0, X', hL, e1, hq, st⟩
section KC
variable {p : Program} {l : Launch} {e : Env} {R : Room} {s : State} {m : MethodId} {args : Array Value} {below : List Frame} {meth : Method} {c : Code} {H H0 : Heap} {locs : List Loc} {cells slots : Nat} {Q : State → Prop} {A : Nat → Prop}
variable {Ts ws : List Cond} {own C host : String} {index maxL n nL mc ms fr lo pc b q0 ci sz : Nat} {y : MethodName} {bytes cc : ByteArray} {ret : Option FieldType} {D : va_G} {κ : Nat → ClassId} {w wc wn : va_W} {ls : Array Slot} {st0 rest As : List Value} {qc : vw_C} {fs : List Value}
theorem k_blR : FrameBlind (va_Pc As (k_R D κ w)) := fun _ _ _ _ q => ⟨q.1, q.2.1.calling, q.2.2⟩
theorem k_blS : FrameBlind (va_Pc As (k_S D κ w sz)) := fun _ _ _ _ q => ⟨q.1, q.2.1, q.2.2.1.calling, q.2.2.2⟩
/-- a call of a reading method -/
theorem k_cRO {post : Int32 → Prop} (S : CallFix p m c cc nL s args Ts own) (hM : k_roi l y ws fr lo D κ (.ref b :: As) wc post) (cw : CallW R s args own qc.1 index y bytes maxL ret ws ({ frames := fr, cells := 0, slots := 0, locals := lo }) 0 0 n) (hK : k_K D κ s) (hPc : va_P D vwCl wc H) (hcl : vwCl[ci]? = some qc) (he : wc[q0]? = some (b, .inr (ci, fs)))
    (hst : st0 = As.reverse ++ .ref b :: rest) (hn : As.length = n) (hsize : ls.size = nL) (hW : (rest.map fun v => v.category).sum ≤ 8) (hdg : decode cc pc = .ok (.invokevirtual index, 3)) (hf : cells ≤ R.cells ∧ slots ≤ R.slots)
    (kk : ∀ r : Int32, post r → W p l e R s m args below meth c H locs cells slots Q (F0 m (pc + 3) ls (.int r :: rest))) : W p l e R s m args below meth c H locs cells slots Q (F0 m pc ls st0) :=
  vp_callSi (W.runV S hM cw ⟨k_blR, va_recv hK.1 hPc hcl he, fun U hU hW => ⟨rfl, hK.warm hW, by rw [hU]; exact hPc⟩⟩ rfl hn hsize hst (lv_room hW) hdg hf) kk
theorem k_cROl {post : Int64 → Prop} (S : CallFix p m c cc nL s args Ts own) (hM : k_rol l y ws fr lo D κ (.ref b :: As) wc post) (cw : CallW R s args own qc.1 index y bytes maxL ret ws ({ frames := fr, cells := 0, slots := 0, locals := lo }) 0 0 n) (hK : k_K D κ s) (hPc : va_P D vwCl wc H) (hcl : vwCl[ci]? = some qc) (he : wc[q0]? = some (b, .inr (ci, fs)))
    (hst : st0 = As.reverse ++ .ref b :: rest) (hn : As.length = n) (hsize : ls.size = nL) (hW : (rest.map fun v => v.category).sum ≤ 8) (hdg : decode cc pc = .ok (.invokevirtual index, 3)) (hf : cells ≤ R.cells ∧ slots ≤ R.slots)
    (kk : ∀ r : Int64, post r → W p l e R s m args below meth c H locs cells slots Q (F0 m (pc + 3) ls (.long r :: rest))) : W p l e R s m args below meth c H locs cells slots Q (F0 m pc ls st0) :=
  vp_callSl (W.runV S hM cw ⟨k_blR, va_recv hK.1 hPc hcl he, fun U hU hW => ⟨rfl, hK.warm hW, by rw [hU]; exact hPc⟩⟩ rfl hn hsize hst (lv_room hW) hdg hf) kk
/-- a call of a static method of numbers: its own class's, and a nest mate's -/
theorem k_cST {post : Int32 → Prop} (S : CallFix p m c cc nL s args Ts own) (hM : k_sti l y ws fr lo As post) (cw : CallB R s args own index y bytes maxL ret ws ({ frames := fr, cells := 0, slots := 0, locals := lo }) 0 0 n ∧ (Cond.static y).before args s = true)
    (hst : st0 = As.reverse ++ rest) (hn : As.length = n) (hsize : ls.size = nL) (hW : (rest.map fun v => v.category).sum ≤ 8) (hdg : decode cc pc = .ok (.invokestatic index, 3)) (hf : cells ≤ R.cells ∧ slots ≤ R.slots)
    (kk : ∀ r : Int32, post r → W p l e R s m args below meth c H locs cells slots Q (F0 m (pc + 3) ls (.int r :: rest))) : W p l e R s m args below meth c H locs cells slots Q (F0 m pc ls st0) :=
  vp_callSi (W.runS S hM cw ⟨fun _ _ _ _ q => q, fun U hU hW => ⟨rfl, trivial⟩⟩ rfl hn hsize hst (lv_room hW) hdg hf) kk
theorem k_cSTl {post : Int64 → Prop} (S : CallFix p m c cc nL s args Ts own) (hM : k_stl l y ws fr lo As post) (cw : CallB R s args own index y bytes maxL ret ws ({ frames := fr, cells := 0, slots := 0, locals := lo }) 0 0 n ∧ (Cond.static y).before args s = true)
    (hst : st0 = As.reverse ++ rest) (hn : As.length = n) (hsize : ls.size = nL) (hW : (rest.map fun v => v.category).sum ≤ 8) (hdg : decode cc pc = .ok (.invokestatic index, 3)) (hf : cells ≤ R.cells ∧ slots ≤ R.slots)
    (kk : ∀ r : Int64, post r → W p l e R s m args below meth c H locs cells slots Q (F0 m (pc + 3) ls (.long r :: rest))) : W p l e R s m args below meth c H locs cells slots Q (F0 m pc ls st0) :=
  vp_callSl (W.runS S hM cw ⟨fun _ _ _ _ q => q, fun U hU hW => ⟨rfl, trivial⟩⟩ rfl hn hsize hst (lv_room hW) hdg hf) kk
theorem k_cNS {post : Int32 → Prop} (S : CallFix p m c cc nL s args Ts own) (hM : k_sti l y ws fr lo As post) (cw : va_CN R s args own index y host bytes maxL ret ws ({ frames := fr, cells := 0, slots := 0, locals := lo }) 0 0 n ∧ (Cond.static y).before args s = true ∧ True)
    (hst : st0 = As.reverse ++ rest) (hn : As.length = n) (hsize : ls.size = nL) (hW : (rest.map fun v => v.category).sum ≤ 8) (hdg : decode cc pc = .ok (.invokestatic index, 3)) (hf : cells ≤ R.cells ∧ slots ≤ R.slots)
    (kk : ∀ r : Int32, post r → W p l e R s m args below meth c H locs cells slots Q (F0 m (pc + 3) ls (.int r :: rest))) : W p l e R s m args below meth c H locs cells slots Q (F0 m pc ls st0) :=
  vp_callSi (k_ofVa (va_runSN S hM cw ⟨fun _ _ _ _ q => q, fun U hU hW => ⟨rfl, trivial⟩⟩ rfl hn hsize hst (lv_room hW) hdg hf)) kk
/-- a call of a writing method, that makes nothing: the world behind it, cell by cell -/
theorem k_cMUi {S1 : Type} {post : Int32 → S1 → Prop} {w' wn : S1 → va_W} (S : CallFix p m c cc nL s args Ts own) (hM : k_mui l y ws fr lo 0 0 D κ (.ref b :: As) wc H.size post w') (cw : CallW R s args own qc.1 index y bytes maxL ret ws ({ frames := fr, cells := 0, slots := 0, locals := lo }) 0 0 n) (hK : k_K D κ s) (hP : va_P D vwCl w H) (hD : va_D A w) (hS : va_S A H0 H locs) (hA : ∀ q, H0.size ≤ q → A q) (is : List Nat) (hnd : va_nd is = true) (hC : is.map (fun i => w[i]?) = wc.map some)
    (hcl : vwCl[ci]? = some qc) (he : wc[q0]? = some (b, .inr (ci, fs))) (ha : ∀ u, (w' u).map Prod.fst = wc.map Prod.fst) (hwn : ∀ u, k_set w is (w' u) = wn u)
    (hst : st0 = As.reverse ++ .ref b :: rest) (hn : As.length = n) (hsize : ls.size = nL) (hW : (rest.map fun v => v.category).sum ≤ 8) (hdg : decode cc pc = .ok (.invokevirtual index, 3)) (hf : cells ≤ R.cells ∧ slots ≤ R.slots)
    (kk : ∀ (r : Int32) (u : S1) (H1 : Heap) (locs1 : List Loc), post r u → va_P D vwCl (wn u) H1 → va_D A (wn u) → va_S A H0 H1 locs1 → W p l e R s m args below meth c H1 locs1 cells slots Q (F0 m (pc + 3) ls (.int r :: rest))) : W p l e R s m args below meth c H locs cells slots Q (F0 m pc ls st0) := by
  have hPc : va_P D vwCl wc H := fun k q hq => by
    have h1 : (is.map (fun i => w[i]?))[k]? = some (some q) := by rw [hC, List.getElem?_map, hq]; rfl
    rw [List.getElem?_map] at h1
    cases hi : is[k]? with
    | none => rw [hi] at h1; cases h1
    | some i => rw [hi] at h1; exact hP i q (Option.some.inj h1)
  have hDc : va_D A wc := hD.sub is hnd hC
  have hFc := va_free (wc := wc) hD hS hA is hC
  refine va_calli (va_runV S hM cw ⟨k_blS, va_recv hK.1 hPc hcl he, fun U hU hW => ⟨rfl, by rw [hU], hK.warm hW, by rw [hU]; exact hPc, hDc.weaken (fun _ _ _ _ => trivial)⟩⟩ rfl hn hsize hst (lv_room hW) hdg hf) hS (fun q _ h => hFc q h) hFc (fun r u t H1 locs1 ht _ hw hB hz1 hk1 hS => ?_)
  obtain ⟨hP1, hD1⟩ := hB
  rw [ht] at hP1
  obtain ⟨hP2, hD2⟩ := k_frame hP hD is hC (ha u) hk1 hP1
  rw [hwn u] at hP2 hD2
  exact kk r u H1 locs1 hw hP2 hD2 hS
theorem k_cMUv {S1 : Type} {post : S1 → Prop} {w' wn : S1 → va_W} (S : CallFix p m c cc nL s args Ts own) (hM : k_muv l y ws fr lo 0 0 D κ (.ref b :: As) wc H.size post w') (cw : CallW R s args own qc.1 index y bytes maxL ret ws ({ frames := fr, cells := 0, slots := 0, locals := lo }) 0 0 n) (hK : k_K D κ s) (hP : va_P D vwCl w H) (hD : va_D A w) (hS : va_S A H0 H locs) (hA : ∀ q, H0.size ≤ q → A q) (is : List Nat) (hnd : va_nd is = true) (hC : is.map (fun i => w[i]?) = wc.map some)
    (hcl : vwCl[ci]? = some qc) (he : wc[q0]? = some (b, .inr (ci, fs))) (ha : ∀ u, (w' u).map Prod.fst = wc.map Prod.fst) (hwn : ∀ u, k_set w is (w' u) = wn u)
    (hst : st0 = As.reverse ++ .ref b :: rest) (hn : As.length = n) (hsize : ls.size = nL) (hW : (rest.map fun v => v.category).sum ≤ 8) (hdg : decode cc pc = .ok (.invokevirtual index, 3)) (hf : cells ≤ R.cells ∧ slots ≤ R.slots)
    (kk : ∀ (u : S1) (H1 : Heap) (locs1 : List Loc), post u → va_P D vwCl (wn u) H1 → va_D A (wn u) → va_S A H0 H1 locs1 → W p l e R s m args below meth c H1 locs1 cells slots Q (F0 m (pc + 3) ls (rest))) : W p l e R s m args below meth c H locs cells slots Q (F0 m pc ls st0) := by
  have hPc : va_P D vwCl wc H := fun k q hq => by
    have h1 : (is.map (fun i => w[i]?))[k]? = some (some q) := by rw [hC, List.getElem?_map, hq]; rfl
    rw [List.getElem?_map] at h1
    cases hi : is[k]? with
    | none => rw [hi] at h1; cases h1
    | some i => rw [hi] at h1; exact hP i q (Option.some.inj h1)
  have hDc : va_D A wc := hD.sub is hnd hC
  have hFc := va_free (wc := wc) hD hS hA is hC
  refine va_callv (va_runV S hM cw ⟨k_blS, va_recv hK.1 hPc hcl he, fun U hU hW => ⟨rfl, by rw [hU], hK.warm hW, by rw [hU]; exact hPc, hDc.weaken (fun _ _ _ _ => trivial)⟩⟩ rfl hn hsize hst (lv_room hW) hdg hf) hS (fun q _ h => hFc q h) hFc (fun u t H1 locs1 ht _ hw hB hz1 hk1 hS => ?_)
  obtain ⟨hP1, hD1⟩ := hB
  rw [ht] at hP1
  obtain ⟨hP2, hD2⟩ := k_frame hP hD is hC (ha u) hk1 hP1
  rw [hwn u] at hP2 hD2
  exact kk u H1 locs1 hw hP2 hD2 hS
theorem k_cMSv {S1 : Type} {post : S1 → Prop} {w' wn : S1 → va_W} (S : CallFix p m c cc nL s args Ts own) (hM : k_muv l y ws fr lo 0 0 D κ As wc H.size post w') (cw : CallB R s args own index y bytes maxL ret ws ({ frames := fr, cells := 0, slots := 0, locals := lo }) 0 0 n ∧ (Cond.static y).before args s = true) (hK : k_K D κ s) (hP : va_P D vwCl w H) (hD : va_D A w) (hS : va_S A H0 H locs) (hA : ∀ q, H0.size ≤ q → A q) (is : List Nat) (hnd : va_nd is = true) (hC : is.map (fun i => w[i]?) = wc.map some)
    (ha : ∀ u, (w' u).map Prod.fst = wc.map Prod.fst) (hwn : ∀ u, k_set w is (w' u) = wn u)
    (hst : st0 = As.reverse ++ rest) (hn : As.length = n) (hsize : ls.size = nL) (hW : (rest.map fun v => v.category).sum ≤ 8) (hdg : decode cc pc = .ok (.invokestatic index, 3)) (hf : cells ≤ R.cells ∧ slots ≤ R.slots)
    (kk : ∀ (u : S1) (H1 : Heap) (locs1 : List Loc), post u → va_P D vwCl (wn u) H1 → va_D A (wn u) → va_S A H0 H1 locs1 → W p l e R s m args below meth c H1 locs1 cells slots Q (F0 m (pc + 3) ls (rest))) : W p l e R s m args below meth c H locs cells slots Q (F0 m pc ls st0) := by
  have hPc : va_P D vwCl wc H := fun k q hq => by
    have h1 : (is.map (fun i => w[i]?))[k]? = some (some q) := by rw [hC, List.getElem?_map, hq]; rfl
    rw [List.getElem?_map] at h1
    cases hi : is[k]? with
    | none => rw [hi] at h1; cases h1
    | some i => rw [hi] at h1; exact hP i q (Option.some.inj h1)
  have hDc : va_D A wc := hD.sub is hnd hC
  have hFc := va_free (wc := wc) hD hS hA is hC
  refine va_callv (va_runS S hM cw ⟨k_blS, fun U hU hW => ⟨rfl, by rw [hU], hK.warm hW, by rw [hU]; exact hPc, hDc.weaken (fun _ _ _ _ => trivial)⟩⟩ rfl hn hsize hst (lv_room hW) hdg hf) hS (fun q _ h => hFc q h) hFc (fun u t H1 locs1 ht _ hw hB hz1 hk1 hS => ?_)
  obtain ⟨hP1, hD1⟩ := hB
  rw [ht] at hP1
  obtain ⟨hP2, hD2⟩ := k_frame hP hD is hC (ha u) hk1 hP1
  rw [hwn u] at hP2 hD2
  exact kk u H1 locs1 hw hP2 hD2 hS
end KC
