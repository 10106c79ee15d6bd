/-! SEGMENTS: a world as a list of pieces; a call that has some of them, the others stay -/
def k_ps {α : Type} : List α → List Nat → List α → List α
  | w, i :: is, x :: xs => k_ps (w.set i x) is xs
  | w, _, _ => w
theorem k_ps_at {α : Type} : ∀ (is : List Nat) (xs w : List α) (hl : is.length = xs.length) (k : Nat) (q : α), (k_ps w is xs)[k]? = some q → (∃ j : Nat, is[j]? = some k ∧ xs[j]? = some q) ∨ (w[k]? = some q ∧ k ∉ is) := by
  intro is
  induction is with
  | nil => intro xs w _ k q h; exact Or.inr ⟨by simpa [k_ps] using h, List.not_mem_nil⟩
  | cons i is ih =>
    intro xs w hl k q h
    cases xs with
    | nil => simp at hl
    | cons x xs =>
      rcases ih xs (w.set i x) (by simpa using hl) k q h with ⟨j, h1, h2⟩ | ⟨h1, h2⟩
      · exact Or.inl ⟨j + 1, by simpa using h1, by simpa using h2⟩
      · by_cases e : i = k
        · subst e
          rw [List.getElem?_set_self'] at h1
          cases hw : w[i]? with
          | none => rw [hw] at h1; cases h1
          | some z => rw [hw] at h1; exact Or.inl ⟨0, rfl, by simpa using h1⟩
        · rw [List.getElem?_set_ne e] at h1
          exact Or.inr ⟨h1, fun hm => (List.mem_cons.mp hm).elim (fun z => e z.symm) h2⟩
theorem k_P_iff {D : va_G} {cl : List vw_C} {ws : va_W} {H : Heap} : va_P D cl ws H ↔ ∀ q ∈ ws, va_at D cl q H :=
  ⟨fun h q hq => by obtain ⟨k, hk⟩ := List.getElem?_of_mem hq; exact h k q hk, fun h k q hk => h q (List.mem_of_getElem? hk)⟩
theorem k_D_iff {A : Nat → Prop} {ws : va_W} : va_D A ws ↔ (ws.map Prod.fst).Nodup ∧ ∀ q ∈ ws, A q.1 := by
  constructor
  · intro h
    refine ⟨List.pairwise_iff_getElem.mpr (fun i j hi hj hlt he => ?_), fun q hq => ?_⟩
    · simp only [List.length_map] at hi hj
      simp only [List.getElem_map] at he
      have := h.1 i j ws[i] ws[j] (List.getElem?_eq_getElem hi) (List.getElem?_eq_getElem hj) he
      omega
    · obtain ⟨k, hk⟩ := List.getElem?_of_mem hq
      exact h.2 k q hk
  · intro h
    refine ⟨fun i j p q h1 h2 h3 => ?_, fun k q hk => h.2 q (List.mem_of_getElem? hk)⟩
    obtain ⟨hi, rfl⟩ := List.getElem?_eq_some_iff.mp h1
    obtain ⟨hj, rfl⟩ := List.getElem?_eq_some_iff.mp h2
    rcases Nat.lt_trichotomy i j with h9 | h9 | h9
    · have := (List.pairwise_iff_getElem.mp h.1) i j (by simpa using hi) (by simpa using hj) h9
      simp only [List.getElem_map] at this
      exact absurd h3 this
    · exact h9
    · have := (List.pairwise_iff_getElem.mp h.1) j i (by simpa using hj) (by simpa using hi) h9
      simp only [List.getElem_map] at this
      exact absurd h3.symm this
theorem k_selS {W Wc : List va_W} {is : List Nat} (hC : is.map (fun i => W[i]?) = Wc.map some) {S : va_W} (h : S ∈ Wc) : ∃ i ∈ is, W[i]? = some S := by
  have h1 : some S ∈ is.map (fun i => W[i]?) := by rw [hC]; exact List.mem_map.mpr ⟨S, h, rfl⟩
  obtain ⟨i, hi, he⟩ := List.mem_map.mp h1
  exact ⟨i, hi, he⟩
theorem k_subS {D : va_G} {cl : List vw_C} {W Wc : List va_W} {H : Heap} (hP : va_P D cl W.flatten H) (is : List Nat) (hC : is.map (fun i => W[i]?) = Wc.map some) : va_P D cl Wc.flatten H := by
  refine k_P_iff.mpr (fun q hq => ?_)
  obtain ⟨S, hS, hqS⟩ := List.mem_flatten.mp hq
  obtain ⟨i, -, hi⟩ := k_selS hC hS
  exact k_P_iff.mp hP q (List.mem_flatten.mpr ⟨S, List.mem_of_getElem? hi, hqS⟩)
theorem k_sub1 {D : va_G} {cl : List vw_C} {W : List va_W} {S : va_W} {H : Heap} (hP : va_P D cl W.flatten H) (i : Nat) (hC : W[i]? = some S) : va_P D cl S H := k_P_iff.mpr (fun q hq => k_P_iff.mp hP q (List.mem_flatten.mpr ⟨S, List.mem_of_getElem? hC, hq⟩))
/-- addresses of a flattened list of pieces: two places hold none in common -/
theorem k_apart {W : List va_W} (h : (W.flatten.map Prod.fst).Nodup) {i j : Nat} {S T : va_W} (hi : W[i]? = some S) (hj : W[j]? = some T) (hne : i ≠ j) {p q : Nat × va_E} (hp : p ∈ S) (hq : q ∈ T) : p.1 ≠ q.1 := by
  rw [List.map_flatten] at h
  obtain ⟨-, h2⟩ := List.pairwise_flatten.mp h
  obtain ⟨hi', rfl⟩ := List.getElem?_eq_some_iff.mp hi
  obtain ⟨hj', rfl⟩ := List.getElem?_eq_some_iff.mp hj
  rcases Nat.lt_or_gt_of_ne hne with h9 | h9
  · have := (List.pairwise_iff_getElem.mp h2) i j (by simpa using hi') (by simpa using hj') h9
    simp only [List.getElem_map] at this
    exact this _ (List.mem_map.mpr ⟨p, hp, rfl⟩) _ (List.mem_map.mpr ⟨q, hq, rfl⟩)
  · have := (List.pairwise_iff_getElem.mp h2) j i (by simpa using hj') (by simpa using hi') h9
    simp only [List.getElem_map] at this
    exact fun e => this _ (List.mem_map.mpr ⟨q, hq, rfl⟩) _ (List.mem_map.mpr ⟨p, hp, rfl⟩) e.symm
theorem k_ps_map {α β : Type} (f : α → β) : ∀ (is : List Nat) (xs w : List α), (k_ps w is xs).map f = k_ps (w.map f) is (xs.map f) := by
  intro is
  induction is with
  | nil => intro xs w; simp [k_ps]
  | cons i is ih =>
    intro xs w
    cases xs with
    | nil => simp [k_ps]
    | cons x xs => simp only [k_ps, List.map_cons]; rw [ih, List.map_set]
theorem k_ps_same {β : Type} : ∀ (is : List Nat) (xs w : List β), is.map (fun i => w[i]?) = xs.map some → k_ps w is xs = w := by
  intro is
  induction is with
  | nil => intro xs w _; simp [k_ps]
  | cons i is ih =>
    intro xs w h
    cases xs with
    | nil => simp at h
    | cons x xs =>
      simp only [List.map_cons, List.cons.injEq] at h
      obtain ⟨h1, h2⟩ := h
      obtain ⟨hi, hx⟩ := List.getElem?_eq_some_iff.mp h1
      have e : w.set i x = w := by rw [← hx]; exact List.set_getElem_self hi
      simp only [k_ps]
      rw [e]
      exact ih xs w h2
theorem k_frameS {A0 : Nat → Prop} {D : va_G} {cl : List vw_C} {W Wc W1 : List va_W} {H H1 : Heap} (hP : va_P D cl W.flatten H) (hD : va_D A0 W.flatten) (is : List Nat) (hC : is.map (fun i => W[i]?) = Wc.map some) (ha : W1.map (List.map Prod.fst) = Wc.map (List.map Prod.fst))
    (hk : ∀ q : Nat, q < H.size → ¬ va_A Wc.flatten H.size q → H1[q]? = H[q]?) (hP1 : va_P D cl W1.flatten H1) : va_P D cl (k_ps W is W1).flatten H1 ∧ va_D A0 (k_ps W is W1).flatten := by
  have hlen : is.length = W1.length := by
    have e1 := congrArg List.length hC
    have e2 := congrArg List.length ha
    simp only [List.length_map] at e1 e2
    omega
  obtain ⟨hN, hA⟩ := k_D_iff.mp hD
  have hadr : (k_ps W is W1).flatten.map Prod.fst = W.flatten.map Prod.fst := by
    rw [List.map_flatten, List.map_flatten, k_ps_map, ha]
    rw [k_ps_same]
    have := congrArg (List.map (Option.map (List.map (Prod.fst (α := Nat) (β := va_E))))) hC
    simpa [List.map_map, Function.comp_def, List.getElem?_map] using this
  refine ⟨k_P_iff.mpr (fun q hq => ?_), k_D_iff.mpr ⟨by rw [hadr]; exact hN, fun q hq => ?_⟩⟩
  · obtain ⟨S, hS, hqS⟩ := List.mem_flatten.mp hq
    obtain ⟨k, hk1⟩ := List.getElem?_of_mem hS
    rcases k_ps_at is W1 W hlen k S hk1 with ⟨j, h1, h2⟩ | ⟨h1, h2⟩
    · exact k_P_iff.mp hP1 q (List.mem_flatten.mpr ⟨S, List.mem_of_getElem? h2, hqS⟩)
    · have hat := k_P_iff.mp hP q (List.mem_flatten.mpr ⟨S, List.mem_of_getElem? h1, hqS⟩)
      refine hat.kept (hk _ hat.lt ?_)
      rintro (⟨j, e, hj⟩ | hge)
      · obtain ⟨T, hT, hqT⟩ := List.mem_flatten.mp (List.mem_of_getElem? hj)
        obtain ⟨i, hi, hWi⟩ := k_selS hC hT
        exact k_apart hN h1 hWi (fun e9 => h2 (e9 ▸ hi)) hqS hqT rfl
      · exact absurd hat.lt (by omega)
  · have h1 : q.1 ∈ W.flatten.map Prod.fst := by rw [← hadr]; exact List.mem_map.mpr ⟨q, hq, rfl⟩
    obtain ⟨r, hr, he⟩ := List.mem_map.mp h1
    rw [← he]
    exact hA r hr
theorem k_subD {A : Nat → Prop} {W Wc : List va_W} (hD : va_D A W.flatten) (is : List Nat) (hn : va_nd is = true) (hC : is.map (fun i => W[i]?) = Wc.map some) : va_D A Wc.flatten := by
  obtain ⟨hN, hA⟩ := k_D_iff.mp hD
  have at' : ∀ (j : Nat) (S : va_W), Wc[j]? = some S → ∃ i, is[j]? = some i ∧ W[i]? = some S := by
    intro j S hj
    have h1 : (is.map (fun i => W[i]?))[j]? = some (some S) := by rw [hC, List.getElem?_map, hj]; rfl
    rw [List.getElem?_map] at h1
    cases hi : is[j]? with
    | none => rw [hi] at h1; cases h1
    | some i => rw [hi] at h1; exact ⟨i, rfl, Option.some.inj h1⟩
  refine k_D_iff.mpr ⟨?_, fun q hq => ?_⟩
  · rw [List.map_flatten]
    refine List.pairwise_flatten.mpr ⟨fun l hl => ?_, List.pairwise_iff_getElem.mpr (fun i j hi hj hlt => ?_)⟩
    · obtain ⟨S, hS, rfl⟩ := List.mem_map.mp hl
      obtain ⟨j, hj⟩ := List.getElem?_of_mem hS
      obtain ⟨i, -, hi⟩ := at' j S hj
      rw [List.map_flatten] at hN
      exact (List.pairwise_flatten.mp hN).1 _ (List.mem_map.mpr ⟨S, List.mem_of_getElem? hi, rfl⟩)
    · simp only [List.length_map] at hi hj
      simp only [List.getElem_map]
      obtain ⟨i1, h1, w1⟩ := at' i Wc[i] (List.getElem?_eq_getElem hi)
      obtain ⟨j1, h2, w2⟩ := at' j Wc[j] (List.getElem?_eq_getElem hj)
      intro a ha b hb
      obtain ⟨p, hp, rfl⟩ := List.mem_map.mp ha
      obtain ⟨q, hq, rfl⟩ := List.mem_map.mp hb
      refine k_apart hN w1 w2 (fun e => ?_) hp hq
      subst e
      have := va_nd_inj is hn i j i1 h1 h2
      omega
  · obtain ⟨S, hS, hqS⟩ := List.mem_flatten.mp hq
    obtain ⟨i, -, hi⟩ := k_selS hC hS
    exact hA q (List.mem_flatten.mpr ⟨S, List.mem_of_getElem? hi, hqS⟩)
section KCS
variable {p : Program} {l : Launch} {e : Env} {R : Room} {s : State} {m : MethodId} {args : Array Value} {below : List Frame} {meth : Method} {c : Code} {H H0 : Heap} {locs : List Loc} {cells slots : Nat} {Q : State → Prop} {A : Nat → Prop}
variable {Ts ws : List Cond} {own C host : String} {index maxL n nL mc ms fr lo pc b q0 ci sz : Nat} {y : MethodName} {bytes cc : ByteArray} {ret : Option FieldType} {D : va_G} {κ : Nat → ClassId} {w wc : va_W} {ls : Array Slot} {st0 rest As : List Value} {qc : vw_C} {fs : List Value}
variable {Wl Wc : List va_W}
/-- the callee has the whole world -/
theorem k_cWUi {S1 : Type} {post : Int32 → S1 → Prop} {w' : S1 → va_W} (S : CallFix p m c cc nL s args Ts own) (hM : k_mui l y ws fr lo 0 0 D κ (.ref b :: As) w H.size post w') (cw : CallW R s args own qc.1 index y bytes maxL ret ws ({ frames := fr, cells := 0, slots := 0, locals := lo }) 0 0 n) (hK : k_K D κ s) (hP : va_P D vwCl w H) (hD : va_D A w) (hS : va_S A H0 H locs) (hA : ∀ q, H0.size ≤ q → A q)
    (hcl : vwCl[ci]? = some qc) (he : w[q0]? = some (b, .inr (ci, fs)))
    (hst : st0 = As.reverse ++ .ref b :: rest) (hn : As.length = n) (hsize : ls.size = nL) (hW : (rest.map fun v => v.category).sum ≤ 8) (hdg : decode cc pc = .ok (.invokevirtual index, 3)) (hf : cells ≤ R.cells ∧ slots ≤ R.slots)
    (kk : ∀ (r : Int32) (u : S1) (H1 : Heap) (locs1 : List Loc), post r u → va_P D vwCl (w' u) H1 → va_D A (w' u) → va_S A H0 H1 locs1 → W p l e R s m args below meth c H1 locs1 cells slots Q (F0 m (pc + 3) ls (.int r :: rest))) : W p l e R s m args below meth c H locs cells slots Q (F0 m pc ls st0) := by
  have hFc : ∀ q, va_A w H.size q → A q := fun q h => h.elim (fun ⟨k, e, h⟩ => hD.2 k _ h) (fun h => hA q (Nat.le_trans hS.1 h))
  refine va_calli (va_runV S hM cw ⟨k_blS, va_recv hK.1 hP hcl he, fun U hU hW => ⟨rfl, by rw [hU], hK.warm hW, by rw [hU]; exact hP, hD.weaken (fun _ _ _ _ => trivial)⟩⟩ rfl hn hsize hst (lv_room hW) hdg hf) hS (fun q _ h => hFc q h) hFc (fun r u t H1 locs1 ht _ hw hB hz1 hk1 hS => ?_)
  obtain ⟨hP1, hD1⟩ := hB
  rw [ht] at hP1
  exact kk r u H1 locs1 hw hP1 (hD1.weaken (fun _ q _ h => hFc q.1 h)) hS
theorem k_cWUv {S1 : Type} {post : S1 → Prop} {w' : S1 → va_W} (S : CallFix p m c cc nL s args Ts own) (hM : k_muv l y ws fr lo 0 0 D κ (.ref b :: As) w H.size post w') (cw : CallW R s args own qc.1 index y bytes maxL ret ws ({ frames := fr, cells := 0, slots := 0, locals := lo }) 0 0 n) (hK : k_K D κ s) (hP : va_P D vwCl w H) (hD : va_D A w) (hS : va_S A H0 H locs) (hA : ∀ q, H0.size ≤ q → A q)
    (hcl : vwCl[ci]? = some qc) (he : w[q0]? = some (b, .inr (ci, fs)))
    (hst : st0 = As.reverse ++ .ref b :: rest) (hn : As.length = n) (hsize : ls.size = nL) (hW : (rest.map fun v => v.category).sum ≤ 8) (hdg : decode cc pc = .ok (.invokevirtual index, 3)) (hf : cells ≤ R.cells ∧ slots ≤ R.slots)
    (kk : ∀ (u : S1) (H1 : Heap) (locs1 : List Loc), post u → va_P D vwCl (w' u) H1 → va_D A (w' u) → va_S A H0 H1 locs1 → W p l e R s m args below meth c H1 locs1 cells slots Q (F0 m (pc + 3) ls rest)) : W p l e R s m args below meth c H locs cells slots Q (F0 m pc ls st0) := by
  have hFc : ∀ q, va_A w H.size q → A q := fun q h => h.elim (fun ⟨k, e, h⟩ => hD.2 k _ h) (fun h => hA q (Nat.le_trans hS.1 h))
  refine va_callv (va_runV S hM cw ⟨k_blS, va_recv hK.1 hP hcl he, fun U hU hW => ⟨rfl, by rw [hU], hK.warm hW, by rw [hU]; exact hP, hD.weaken (fun _ _ _ _ => trivial)⟩⟩ rfl hn hsize hst (lv_room hW) hdg hf) hS (fun q _ h => hFc q h) hFc (fun u t H1 locs1 ht _ hw hB hz1 hk1 hS => ?_)
  obtain ⟨hP1, hD1⟩ := hB
  rw [ht] at hP1
  exact kk u H1 locs1 hw hP1 (hD1.weaken (fun _ q _ h => hFc q.1 h)) hS
/-- the callee has some pieces of the world -/
theorem k_cSUi {S1 : Type} {post : Int32 → S1 → Prop} {w' : S1 → va_W} {W' Wn : S1 → List va_W} (S : CallFix p m c cc nL s args Ts own) (hM : k_mui l y ws fr lo 0 0 D κ (.ref b :: As) wc H.size post w') (cw : CallW R s args own qc.1 index y bytes maxL ret ws ({ frames := fr, cells := 0, slots := 0, locals := lo }) 0 0 n) (hK : k_K D κ s) (hP : va_P D vwCl Wl.flatten H) (hD : va_D A Wl.flatten) (hS : va_S A H0 H locs) (hA : ∀ q, H0.size ≤ q → A q) (is : List Nat) (hnd : va_nd is = true) (hC : is.map (fun i => Wl[i]?) = Wc.map some) (hwc : Wc.flatten = wc) (hw' : ∀ u, (W' u).flatten = w' u)
    (hcl : vwCl[ci]? = some qc) (he : wc[q0]? = some (b, .inr (ci, fs))) (ha : ∀ u, (W' u).map (List.map Prod.fst) = Wc.map (List.map Prod.fst)) (hwn : ∀ u, k_ps Wl is (W' u) = Wn u)
    (hst : st0 = As.reverse ++ .ref b :: rest) (hn : As.length = n) (hsize : ls.size = nL) (hW : (rest.map fun v => v.category).sum ≤ 8) (hdg : decode cc pc = .ok (.invokevirtual index, 3)) (hf : cells ≤ R.cells ∧ slots ≤ R.slots)
    (kk : ∀ (r : Int32) (u : S1) (H1 : Heap) (locs1 : List Loc), post r u → va_P D vwCl (Wn u).flatten H1 → va_D A (Wn u).flatten → va_S A H0 H1 locs1 → W p l e R s m args below meth c H1 locs1 cells slots Q (F0 m (pc + 3) ls (.int r :: rest))) : W p l e R s m args below meth c H locs cells slots Q (F0 m pc ls st0) := by
  subst hwc
  have hPc : va_P D vwCl Wc.flatten H := k_subS hP is hC
  have hDc : va_D A Wc.flatten := k_subD hD is hnd hC
  have hFc : ∀ q, va_A Wc.flatten H.size q → A q := fun q h => h.elim (fun ⟨k, e, h⟩ => hDc.2 k _ h) (fun h => hA q (Nat.le_trans hS.1 h))
  refine va_calli (va_runV S hM cw ⟨k_blS, va_recv hK.1 hPc hcl he, fun U hU hW => ⟨rfl, by rw [hU], hK.warm hW, by rw [hU]; exact hPc, hDc.weaken (fun _ _ _ _ => trivial)⟩⟩ rfl hn hsize hst (lv_room hW) hdg hf) hS (fun q _ h => hFc q h) hFc (fun r u t H1 locs1 ht _ hw hB hz1 hk1 hS => ?_)
  obtain ⟨hP1, hD1⟩ := hB
  rw [ht] at hP1
  rw [← hw' u] at hP1
  obtain ⟨hP2, hD2⟩ := k_frameS hP hD is hC (ha u) hk1 hP1
  rw [hwn u] at hP2 hD2
  exact kk r u H1 locs1 hw hP2 hD2 hS
/-- the callee has some pieces of the world -/
theorem k_cSUv {S1 : Type} {post : S1 → Prop} {w' : S1 → va_W} {W' Wn : S1 → List va_W} (S : CallFix p m c cc nL s args Ts own) (hM : k_muv l y ws fr lo 0 0 D κ (.ref b :: As) wc H.size post w') (cw : CallW R s args own qc.1 index y bytes maxL ret ws ({ frames := fr, cells := 0, slots := 0, locals := lo }) 0 0 n) (hK : k_K D κ s) (hP : va_P D vwCl Wl.flatten H) (hD : va_D A Wl.flatten) (hS : va_S A H0 H locs) (hA : ∀ q, H0.size ≤ q → A q) (is : List Nat) (hnd : va_nd is = true) (hC : is.map (fun i => Wl[i]?) = Wc.map some) (hwc : Wc.flatten = wc) (hw' : ∀ u, (W' u).flatten = w' u)
    (hcl : vwCl[ci]? = some qc) (he : wc[q0]? = some (b, .inr (ci, fs))) (ha : ∀ u, (W' u).map (List.map Prod.fst) = Wc.map (List.map Prod.fst)) (hwn : ∀ u, k_ps Wl is (W' u) = Wn u)
    (hst : st0 = As.reverse ++ .ref b :: rest) (hn : As.length = n) (hsize : ls.size = nL) (hW : (rest.map fun v => v.category).sum ≤ 8) (hdg : decode cc pc = .ok (.invokevirtual index, 3)) (hf : cells ≤ R.cells ∧ slots ≤ R.slots)
    (kk : ∀ (u : S1) (H1 : Heap) (locs1 : List Loc), post u → va_P D vwCl (Wn u).flatten H1 → va_D A (Wn u).flatten → va_S A H0 H1 locs1 → W p l e R s m args below meth c H1 locs1 cells slots Q (F0 m (pc + 3) ls rest)) : W p l e R s m args below meth c H locs cells slots Q (F0 m pc ls st0) := by
  subst hwc
  have hPc : va_P D vwCl Wc.flatten H := k_subS hP is hC
  have hDc : va_D A Wc.flatten := k_subD hD is hnd hC
  have hFc : ∀ q, va_A Wc.flatten H.size q → A q := fun q h => h.elim (fun ⟨k, e, h⟩ => hDc.2 k _ h) (fun h => hA q (Nat.le_trans hS.1 h))
  refine va_callv (va_runV S hM cw ⟨k_blS, va_recv hK.1 hPc hcl he, fun U hU hW => ⟨rfl, by rw [hU], hK.warm hW, by rw [hU]; exact hPc, hDc.weaken (fun _ _ _ _ => trivial)⟩⟩ rfl hn hsize hst (lv_room hW) hdg hf) hS (fun q _ h => hFc q h) hFc (fun u t H1 locs1 ht _ hw hB hz1 hk1 hS => ?_)
  obtain ⟨hP1, hD1⟩ := hB
  rw [ht] at hP1
  rw [← hw' u] at hP1
  obtain ⟨hP2, hD2⟩ := k_frameS hP hD is hC (ha u) hk1 hP1
  rw [hwn u] at hP2 hD2
  exact kk u H1 locs1 hw hP2 hD2 hS
end KCS
