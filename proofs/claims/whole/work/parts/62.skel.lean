def R_law : String := "InverterGraphsLaw"
def lw_P (b : Addr) (xs : List Int32) (args : Array Value) (s : State) : Prop := args = #[.ref b] ∧ s.IntsAt b xs ∧ xs.length ≤ 1536 ∧ (Jvm.Cond.and given_1 narrow_1).before args s = true
def lw_Q (_ : Array Value) (s : State) (o : Outcome) (t : State) : Prop := o = .returned (some (.int 1)) ∧ Framed s o t [] 601024 7293034
def lw_Z (below : List Frame) (a : Array Value) (s : State) : State → Prop := fun t => ∃ o, t.status = .running ∧ Ended t below o ∧ lw_Q a s o t
/-- the law's own end, with 1 on the stack, nothing written that was there before, its room as the claim has it -/
theorem lw_ret {p : Program} {l : Launch} {e : Env} {s : State} {m : MethodId} {below : List Frame} {meth : Method} {c : Code} {b : Nat} (hx : p.tables.exec = Jvm.exec) (hb : c.code = code) (hr : meth.sig.returnType = ret) (hlocks : meth.locks = false) {pc : Nat} {H : Heap} {ls : Array Slot} (hdg : decode code pc = .ok (.ireturn, 1)) : W p l e room_1 s m #[Value.ref b] below meth c H [] 601024 7293034 (lw_Z below #[Value.ref b] s) (F0 m pc ls [.int 1]) := by
  intro T hT X
  obtain ⟨fs, hret, hrun, hended, hW, hframe⟩ := X.leave (v := some (.int 1)) (hlocks := hlocks) (fun h => by rw [hr] at h; cases h)
  have hmeth' : T.vm.method? m = some meth := X.method'
  refine ⟨T.setFrames fs, ?_, .returned (some (.int 1)), hrun, hended, rfl, ⟨_, rfl⟩, hW, hframe⟩
  jvm_step X.here [X.here.top, hx, hb, hdg, hmeth', hr, ret, narrow_b1]
  (try refine ⟨rfl, ?_⟩); (try refine ⟨rfl, ?_⟩)
  first | (intro acts; rw [hret _ acts rfl rfl rfl]) | rw [hret _ _ rfl rfl rfl]
  exact Steps.refl _
/-- what holds at the law's entry: the machine, the code, the tables' words (any of lw_tbl by 'hts w (by decide +kernel)'), the script of L ints xs at the cell b, what the Statement gives of the start (any of its parts by flat_of_before) -/
def lw_At (p : Program) (s : State) (m : MethodId) (meth : Method) (c : Code) (b L : Nat) (xs : Nat → Int32) : Prop :=
  p.tables.exec = Jvm.exec ∧ c.code = code ∧ meth.sig.returnType = ret ∧ c.maxLocals = 8 ∧ s.vm.findClass R_law = some m.cls ∧ (∀ w ∈ lw_tbl, w.before #[Value.ref b] s = true) ∧ va_X b L xs s s.heap ∧ b < s.heap.size ∧ meth.locks = false ∧ (Jvm.Cond.and given_1 narrow_1).before #[Value.ref b] s = true
/-! THE LAW, its cases: what each hands on to the end of the loop's body -/
def w_go (p : Program) (l : Launch) (e : Env) (s : State) (m : MethodId) (below : List Frame) (meth : Method) (c : Code) (b : Nat) (D : va_G) (κ : Nat → ClassId) (t q0 qo : Nat) (q qh qr ql qe qm : Nat → Nat) (C S pc : Nat) : Prop := ∀ (v : XV) (kc : KC) (cp : Nat → Int32) (cn : Nat) (rm : Nat → Int64) (kn th : Int32) (lvm be : Nat → Int32) (fo : Nat → Int64) (H : Heap) (locs : List Loc) (ls : Array Slot), p_Z v kc cp cn rm kn → va_P D vwCl (List.flatten [wJ κ qo 1 fo, wN κ qm th kc cp cn rm kn lvm be, wX κ q0 q qh qr ql qe v]) H → va_D (fun q : Nat => s.heap.size ≤ q) (List.flatten [wJ κ qo 1 fo, wN κ qm th kc cp cn rm kn lvm be, wX κ q0 q qh qr ql qe v]) → va_S (fun q : Nat => s.heap.size ≤ q) s.heap H locs → lv_has ls 8 [(0, .ref b), (1, .ref q0), (2, .ref (qm 0)), (3, .ref qo), (4, .int (nI (3 * t)))] → W p l e room_1 s m #[Value.ref b] below meth c H locs C S (lw_Z below #[Value.ref b] s) (F0 m pc ls [])
theorem p_hlt {c : KC} (h : p_I c) : ∀ j, j < mnd c → mso c j = 2 → mon c j < 2 * mnd c ∧ mtw c j < 2 * mnd c := fun j hj q => ⟨(h.2.2.1 j hj q).1.1, (h.2.2.1 j hj q).2.1.1⟩
theorem p_hla {c : KC} (h : p_I c) : ∀ j, j < mnd c → mso c j = 3 → mon c j < 2 * mnd c := fun j hj q => (h.2.2.2.1 j hj q).1
theorem p_hlo {c : KC} (h : p_I c) : ∀ j, j < moc c → mou c j < 2 * mnd c := fun j hj => (h.2.2.2.2.1 j hj).1
theorem p_hfin {c : KC} (h : p_I c) (lv : Nat → Int32) : k_itF (m_fF c) (fun _ => True) 400 1 lv := by
  obtain ⟨r, hr⟩ := h.2.2.2.2.2.2.2
  exact p_lv_fin h.1.2.1 hr (p_nodI h) lv
theorem p_hus {c : KC} (h : p_I c) (be : Nat → Int32) : k_itF (m_cF c) (fun _ => True) 401 1 be := p_cone_fin (p_nodI h) 401 1 be (Or.inr (by have := p_uc_le be (mnd c); have := h.1.2.1; omega))
theorem p_hgr {c : KC} (h : p_I c) (lv : Nat → Int32) : ∃ m, m_gr (m_lvF 400 c lv) (mnd c) = nI m ∧ m ≤ 400 := by
  obtain ⟨r, hr⟩ := h.2.2.2.2.2.2.2
  obtain ⟨m, e, hm, -⟩ := p_gr h.1.2.1 (p_lv_end h.1.2.1 hr (p_nodI h) lv) (fun j hj => by have := p_L_lt hr (p_nodI h) hj; have := h.1.2.1; omega) (mnd c) (Nat.le_refl _)
  exact ⟨m, e, hm⟩
