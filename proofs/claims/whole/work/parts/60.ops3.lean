/-! PURE, ninth: sweeping and replacing, both sides -/
theorem p_Rch_step {c : KC} {S : Nat → Prop} {j : Nat} (hj : j < mnd c) (h2 : mso c j = 2) (h : p_Rch c S j) : p_Rch c S (mon c j / 2) ∧ p_Rch c S (mtw c j / 2) := ⟨fun P a b => (b j hj h2 (h P a b)).1, fun P a b => (b j hj h2 (h P a b)).2⟩
theorem p_Rch_self {c : KC} {S : Nat → Prop} {j : Nat} (h : S j) : p_Rch c S j := fun P a _ => a j h
/-- swept away: an and without a mark -/
def p_gn (c : KC) (B : Nat → Int32) (i j : Nat) : Prop := j < i ∧ mso c j = 2 ∧ B j = 0
def p_us (c : KC) (B : Nat → Int32) : Nat → Nat
  | 0 => 0
  | i + 1 => p_us c B i + (if mso c i = 2 then (if B i = 0 then 1 else 0) else 0)
theorem p_us_le (c : KC) (B : Nat → Int32) : ∀ i, p_us c B i ≤ i := by
  intro i
  induction i with
  | zero => exact Nat.le_refl _
  | succ i ih =>
    rw [p_us]
    split
    · split <;> omega
    · omega
theorem p_swcM (c : KC) (B : Nat → Int32) : ∀ i, m_swc c B i = nI (p_us c B i) := by
  intro i
  induction i with
  | zero => rfl
  | succ i ih =>
    rw [m_swc, p_us, ih]
    by_cases h : mso c i = 2
    · rw [if_pos h, if_pos h]
      by_cases g : B i = 0
      · rw [if_pos g, if_pos g]; exact nI_1 _
      · rw [if_neg g, if_neg g]; rfl
    · rw [if_neg h, if_neg h]; rfl
theorem p_unu {c : KC} {so b B : Nat → Int32} {j : Nat} (hn : mnd c ≤ 400) (hj : j < mnd c) (hs : so j = mso c j) (hb : b j = 1 ↔ ¬ B j = 0) : k_unu so b (nI j) = if mso c j = 2 then (if B j = 0 then 1 else 0) else 0 := by
  unfold k_unu
  rw [p_cat (by omega) (by omega), p_cat (by omega) (by omega), hs]
  by_cases h : mso c j = 2
  · rw [if_pos h, if_pos h]
    by_cases g : B j = 0
    · rw [if_pos g, if_neg (fun q => hb.mp q g)]
    · rw [if_neg g, if_pos (hb.mpr g)]
  · rw [if_neg h, if_neg h]
theorem p_swcC {c : KC} {so b B : Nat → Int32} (hn : mnd c ≤ 400) (hs : ∀ j, j < mnd c → so j = mso c j) (hb : ∀ j, j < mnd c → (b j = 1 ↔ ¬ B j = 0)) : ∀ i, i ≤ mnd c → x_swc so b i = nI (p_us c B i) := by
  intro i
  induction i with
  | zero => intro _; rfl
  | succ i ih =>
    intro hi
    rw [x_swc, p_us, ih (by omega), p_unu hn (by omega) (hs i (by omega)) (hb i (by omega))]
    by_cases h : mso c i = 2
    · rw [if_pos h, if_pos h]
      by_cases g : B i = 0
      · rw [if_pos g, if_pos g, if_neg (show ¬ (1 : Int32) = 0 by decide)]; exact nI_1 _
      · rw [if_neg g, if_neg g, if_pos rfl]; exact nI_add _ 0
    · rw [if_neg h, if_neg h, if_pos rfl]; exact nI_add _ 0
theorem p_swl {c : KC} {B : Nat → Int32} : ∀ i, (∀ j, (p_gn c B i j → mso (m_swl c B i) j = 5 ∧ mst (m_swl c B i) j = -1) ∧ (¬ p_gn c B i j → mso (m_swl c B i) j = mso c j ∧ mst (m_swl c B i) j = mst c j)) ∧ mon (m_swl c B i) = mon c ∧ mtw (m_swl c B i) = mtw c ∧ mou (m_swl c B i) = mou c ∧ mbo (m_swl c B i) = mbo c := by
  intro i
  induction i with
  | zero => exact ⟨fun j => ⟨fun h => absurd h.1 (Nat.not_lt_zero _), fun _ => ⟨rfl, rfl⟩⟩, rfl, rfl, rfl, rfl⟩
  | succ i ih =>
    obtain ⟨h1, h2, h3, h4, h5⟩ := ih
    have ei : mso (m_swl c B i) i = mso c i := ((h1 i).2 (fun q => absurd q.1 (Nat.lt_irrefl _))).1
    rw [m_swl]
    by_cases g1 : mso c i = 2
    · rw [if_pos (ei.trans g1)]
      by_cases g2 : B i = 0
      · rw [if_pos g2]
        refine ⟨fun j => ?_, h2, h3, h4, h5⟩
        have e1 : mso (m_leave i (-1) (m_swl c B i)) j = if j = i then 5 else mso (m_swl c B i) j := p_upd _ _ _ _
        have e2 : mst (m_leave i (-1) (m_swl c B i)) j = if j = i then -1 else mst (m_swl c B i) j := p_upd _ _ _ _
        rw [e1, e2]
        by_cases e : j = i
        · rw [if_pos e, if_pos e]
          exact ⟨fun _ => ⟨rfl, rfl⟩, fun q => absurd (⟨by omega, by rw [e]; exact g1, by rw [e]; exact g2⟩ : p_gn c B (i + 1) j) q⟩
        · rw [if_neg e, if_neg e]
          exact ⟨fun q => (h1 j).1 ⟨by have := q.1; omega, q.2⟩, fun q => (h1 j).2 (fun z => q ⟨by have := z.1; omega, z.2⟩)⟩
      · rw [if_neg g2]
        refine ⟨fun j => ⟨fun q => (h1 j).1 ⟨?_, q.2⟩, fun q => (h1 j).2 (fun z => q ⟨by have := z.1; omega, z.2⟩)⟩, h2, h3, h4, h5⟩
        have := q.1
        have e : j ≠ i := fun e => by rw [e] at q; exact g2 q.2.2
        omega
    · rw [if_neg (fun q => g1 (ei.symm.trans q))]
      refine ⟨fun j => ⟨fun q => (h1 j).1 ⟨?_, q.2⟩, fun q => (h1 j).2 (fun z => q ⟨by have := z.1; omega, z.2⟩)⟩, h2, h3, h4, h5⟩
      have := q.1
      have e : j ≠ i := fun e => by rw [e] at q; exact g1 q.2.1
      omega
theorem p_swlC {c : KC} {b B : Nat → Int32} {g : KG} (hn : mnd c ≤ 400) (hG : p_RG g c) (hb : ∀ j, j < mnd c → (b j = 1 ↔ ¬ B j = 0)) : ∀ i, i ≤ mnd c → p_RG (x_swl b g i) (m_swl c B i) := by
  intro i
  induction i with
  | zero => intro _; exact hG
  | succ i ih =>
    intro hi
    have ih := ih (by omega)
    obtain ⟨s1, -⟩ := p_swl (c := c) (B := B) i
    have ei : mso (m_swl c B i) i = mso c i := ((s1 i).2 (fun q => absurd q.1 (Nat.lt_irrefl _))).1
    have en := (m_swl_nd c B i).1
    rw [x_swl, m_swl, p_unu hn (by omega) (((ih i (by omega)).1).trans ei) (hb i (by omega)), ei]
    by_cases g1 : mso c i = 2
    · rw [if_pos g1, if_pos g1]
      by_cases g2 : B i = 0
      · rw [if_pos g2, if_pos g2, if_neg (show ¬ (1 : Int32) = 0 by decide)]
        intro j hj
        have hj : j < mnd (m_swl c B i) := hj
        obtain ⟨q1, q2, q3, q4⟩ := ih j hj
        have e1 : mso (m_leave i (-1) (m_swl c B i)) j = if j = i then 5 else mso (m_swl c B i) j := p_upd _ _ _ _
        have e2 : mst (m_leave i (-1) (m_swl c B i)) j = if j = i then -1 else mst (m_swl c B i) j := p_upd _ _ _ _
        rw [e1, e2]
        unfold k_gone
        rw [p_cpt (by omega) (by omega), p_cpt (by omega) (by omega), p_cpt (by omega) (by omega), p_cpt (by omega) (by omega)]
        show upd _ i _ j = _ ∧ upd _ i _ j = _ ∧ upd _ i _ j = _ ∧ upd _ i _ j = _
        rw [p_upd, p_upd, p_upd, p_upd]
        by_cases e : j = i
        · have k5 : ¬ (5 : Int32) = 2 := by decide
          refine ⟨?_, ?_, ?_, ?_⟩
          · rw [if_pos e, if_pos e]
          · rw [if_pos e, if_pos e]
          · rw [if_pos e, if_pos e, if_neg k5]
          · rw [if_pos e, if_pos e, if_neg k5]
        · repeat rw [if_neg e]
          exact ⟨q1, q2, q3, q4⟩
      · rw [if_neg g2, if_neg g2, if_pos rfl]; exact ih
    · rw [if_neg g1, if_neg g1, if_pos rfl]; exact ih
theorem p_sweepI {c : KC} {B : Nat → Int32} (h : p_I c) (hB : ∀ j, j < mnd c → (¬ B j = 0 ↔ p_Rch c (p_US c) j)) : p_I (m_swl c B (mnd c)) := by
  obtain ⟨⟨i1, i2, i3, i4⟩, i5, i6, i7, i8, i9, i10, r, hr0, hr⟩ := h
  obtain ⟨s1, s2, s3, s4, s5⟩ := p_swl (c := c) (B := B) (mnd c)
  obtain ⟨en, eo⟩ := m_swl_nd c B (mnd c)
  have keep : ∀ a, p_lit c a → p_Rch c (p_US c) (a / 2) → p_lit (m_swl c B (mnd c)) a := fun a q z => by
    have ha : a / 2 < mnd c := by have := q.1; omega
    refine ⟨by rw [en]; exact q.1, ?_⟩
    rw [((s1 (a / 2)).2 (fun w => (hB _ ha).mpr z w.2.2)).1]
    exact q.2
  have live : ∀ j, j < mnd c → mso (m_swl c B (mnd c)) j ≠ 5 → ¬ p_gn c B (mnd c) j := fun j _ q z => q ((s1 j).1 z).1
  have live2 : ∀ j, j < mnd c → mso (m_swl c B (mnd c)) j = 2 → mso c j = 2 ∧ ¬ B j = 0 := fun j hj q => by
    have z := live j hj (by rw [q]; decide)
    rw [((s1 j).2 z).1] at q
    exact ⟨q, fun w => z ⟨hj, q, w⟩⟩
  refine ⟨⟨by rw [en]; exact i1, by rw [en]; exact i2, by rw [eo]; exact i3, ?_⟩, fun j hj => ?_, fun j hj q => ?_, fun j hj q => ?_, fun k hk => ?_, fun j hj q => ?_, fun k hk => ?_, r, hr0, fun j hj q => ?_⟩
  · rw [((s1 0).2 (fun w => by have := w.2.1; rw [i4] at this; exact absurd this (by decide))).1]; exact i4
  · rw [en] at hj
    rw [s2, s3]; exact i5 j hj
  · rw [en] at hj
    obtain ⟨q1, q2⟩ := live2 j hj q
    obtain ⟨a1, a2, a3⟩ := i6 j hj q1
    obtain ⟨z1, z2⟩ := p_Rch_step hj q1 ((hB j hj).mp q2)
    rw [s2, s3]
    exact ⟨keep _ a1 z1, keep _ a2 z2, a3⟩
  · rw [en] at hj
    have z := live j hj (by rw [q]; decide)
    rw [((s1 j).2 z).1] at q
    rw [s2]
    exact keep _ (i7 j hj q) (p_Rch_self (Or.inr ⟨j, hj, q, rfl⟩))
  · rw [eo] at hk
    rw [s4]
    exact keep _ (i8 k hk) (p_Rch_self (Or.inl ⟨k, hk, rfl⟩))
  · rw [en] at hj
    obtain ⟨e1, e2⟩ := (s1 j).2 (live j hj q)
    rw [e1] at q
    rw [e2]; exact i9 j hj q
  · rw [eo] at hk
    rw [s5]; exact i10 k hk
  · rw [en] at hj
    obtain ⟨q1, q2⟩ := live2 j hj q
    rw [s2, s3]; exact hr j hj q1
theorem p_o_sweep {so le gr ne si ou bo : Nat → Int32} {n om ob : Nat} {cs : Nat → Nat → Nat} {gs : Nat → KH} {made pl kp : Nat} {ro : Nat → Int64} {wo : Int32} {lv : Nat → Int32} {e0 : KE} {c : KC} {cp : Nat → Int32} {cn : Nat} {rm : Nat → Int64} {kn : Int32}  (hZ : p_Z ((so, le, gr, ne, si, ou, bo, n, om, ob), (cs, gs, made, pl, kp), ro, wo, lv, e0) c cp cn rm kn) {r : Int32} {u : XV} (be : Nat → Int32) (h : ∃ e9 : KE, e9 = k_spr le gr 400 (k_mkR 400 ne (k_mkR 40 ou (k_clr e0) om) n) ∧ ((x_swc so e9.1 n = 0 ∧ r = 0 ∧ u = ((so, le, gr, ne, si, ou, bo, n, om, ob), (cs, gs, made, pl, kp), ro, wo, lv, e9)) ∨ (¬ x_swc so e9.1 n = 0 ∧ r = x_swc so e9.1 n ∧ x_chg ((so, le, gr, ne, si, ou, bo, n, om, ob), (cs, gs, made, pl, kp), ro, wo, lv, e0) ((x_swl e9.1 (so, le, gr, si) n).1, (x_swl e9.1 (so, le, gr, si) n).2.1, (x_swl e9.1 (so, le, gr, si) n).2.2.1, ne, (x_swl e9.1 (so, le, gr, si) n).2.2.2, ou, bo, n, om, ob) e9 u))) : r = (m_sweep 401 c cp cn kn be).1 ∧ (m_sweep 401 c cp cn kn be).2.1 = 0 ∧ p_Z u (m_sweep 401 c cp cn kn be).2.2.1 (m_sweep 401 c cp cn kn be).2.2.2.1 (m_sweep 401 c cp cn kn be).2.2.2.2.1 rm (m_sweep 401 c cp cn kn be).2.2.2.2.2 := by
  obtain ⟨rfl, rfl, hN, hO, hI⟩ := p_Zo hZ
  have hn := hI.1.2.1
  have ho := hI.1.2.2.1
  obtain ⟨e9, he9, h⟩ := h
  have us := p_used (be := be) (e := e0) hn ho (p_nodI hI) hI.2.1 (fun j hj => ⟨(hN j hj).2.2.1, (hN j hj).2.2.2.1⟩) (fun j hj => (hN j hj).2.2.2.2) (fun k hk => (hO.1 k hk).1) (fun k hk => by have := (hI.2.2.2.2.1 k hk).1; omega) (fun j hj q => by have := (hI.2.2.2.1 j hj q).1; omega)
  rw [← he9] at us
  have hB : ∀ j, j < mnd c → (¬ m_swB 401 c be j = 0 ↔ p_Rch c (p_US c) j) := fun j hj => (us j hj).2
  have hb : ∀ j, j < mnd c → (e9.1 j = 1 ↔ ¬ m_swB 401 c be j = 0) := fun j hj => (us j hj).1.trans (hB j hj).symm
  have ec := p_swcC hn (fun j hj => (hN j hj).1) hb (mnd c) (Nat.le_refl _)
  have em := p_swcM c (m_swB 401 c be) (mnd c)
  have hle := p_us_le c (m_swB 401 c be) (mnd c)
  unfold m_sweep
  rw [em]
  rw [ec] at h
  rcases h with ⟨q1, rfl, q3⟩ | ⟨q1, rfl, hc⟩
  · have q0 : p_us c (m_swB 401 c be) (mnd c) = 0 := (nI_eq (b := 0) (by omega) (by omega)).mp q1
    rw [q0, if_pos (show nI 0 ≤ 0 by decide)]
    exact ⟨rfl, rfl, p_Z_lv hZ (by rw [q3]) (by rw [q3]) (by rw [q3]) (by rw [q3])⟩
  · have q0 : ¬ p_us c (m_swB 401 c be) (mnd c) = 0 := fun q => q1 (by rw [q]; rfl)
    rw [if_neg (fun q => q0 (by have := (nI_leI (b := 0) (by omega) (by omega)).mp q; omega))]
    obtain ⟨s1, s2, s3, s4, s5⟩ := p_swl (c := c) (B := m_swB 401 c be) (mnd c)
    obtain ⟨en, eo⟩ := m_swl_nd c (m_swB 401 c be) (mnd c)
    have G := p_swlC (g := (so, le, gr, si)) hn (fun j hj => ⟨(hN j hj).1, (hN j hj).2.1, (hN j hj).2.2.1, (hN j hj).2.2.2.1⟩) hb (mnd c) (Nat.le_refl _)
    refine ⟨rfl, rfl, p_keepZ (c' := m_swl c (m_swB 401 c be) (mnd c)) hZ hc ⟨en.symm, eo.symm, fun j hj => ?_, ?_⟩ (p_sweepI hI hB)⟩
    · obtain ⟨g1, g2, g3, g4⟩ := G j hj
      rw [en] at hj
      refine ⟨g1, g2, g3, g4, ?_⟩
      have e5 := (hN j hj).2.2.2.2
      rw [s2]
      show ne j = _
      rw [e5]
      by_cases z : p_gn c (m_swB 401 c be) (mnd c) j
      · rw [if_neg (show ¬ mso c j = 3 by rw [z.2.1]; decide), if_neg (show ¬ mso (m_swl c (m_swB 401 c be) (mnd c)) j = 3 by rw [((s1 j).1 z).1]; decide)]
      · rw [((s1 j).2 z).1]
    · obtain ⟨o1, o2, o3, o4⟩ := hO
      unfold p_RO
      rw [eo, s4, s5]
      exact ⟨o1, o2, o3, o4⟩
/-- replacing begins -/
theorem p_repl {c : KC} {a b : Nat} (h : p_I c) (ha : a < mnd c) (hs : mso c a = 1 ∨ mso c a = 2) (hb : b < 2 * mnd c) (hbl : mso c (b / 2) ≠ 5) (hna : ¬ p_Rch c (fun i => i = b / 2) a) : (∃ r τ T, p_RI (m_leave a (nI b) c) r τ T) ∧ p_Φ (m_leave a (nI b) c) ≤ 160000 := by
  obtain ⟨⟨i1, i2, i3, i4⟩, i5, i6, i7, i8, i9, i10, r, hr0, hr⟩ := h
  have ha5 : mso c a ≠ 5 := by rcases hs with q | q <;> rw [q] <;> decide
  have ha0 : a ≠ 0 := fun e => by rw [e, i4] at hs; exact hs.elim (fun q => absurd q (by decide)) (fun q => absurd q (by decide))
  have e1 : ∀ j, mso (m_leave a (nI b) c) j = if j = a then 5 else mso c j := fun j => p_upd _ _ _ _
  have e4 : ∀ j, mst (m_leave a (nI b) c) j = if j = a then nI b else mst c j := fun j => p_upd _ _ _ _
  have hba : b / 2 ≠ a := fun e => hna (p_Rch_self e.symm)
  obtain ⟨f, hf⟩ : ∃ f : Nat → Nat, ∀ x, (p_Rch c (fun i => i = x) a → f x = r (b / 2)) ∧ (¬ p_Rch c (fun i => i = x) a → f x = 0) :=
    ⟨fun x => @ite Nat (p_Rch c (fun i => i = x) a) (Classical.propDecidable _) (r (b / 2)) 0, fun x => ⟨fun q => if_pos q, fun q => if_neg q⟩⟩
  have up : ∀ j, j < mnd c → mso c j = 2 → ∀ x, (x = mon c j / 2 ∨ x = mtw c j / 2) → p_Rch c (fun i => i = x) a → p_Rch c (fun i => i = j) a := fun j hj h2 x hx q P p1 p2 => by
    have pj := p2 j hj h2 (p1 j rfl)
    refine q P (fun i e => ?_) p2
    rw [e]
    rcases hx with z | z
    · rw [z]; exact pj.1
    · rw [z]; exact pj.2
  have f0 : f 0 = 0 := (hf 0).2 (fun q => by
    have z := q (fun i => i = 0) (fun _ e => e) (fun i _ h2 e => by rw [e, i4] at h2; exact absurd h2 (by decide))
    exact ha0 z)
  have two : p_lv (m_leave a (nI b) c) + 2 ≤ mnd c := p_cb_two (p := p_A (m_leave a (nI b) c)) (n := mnd c) (i := 0) (j := a) i1 ha (fun e => ha0 e.symm) (fun q => by
    have q := p_A_y.mp q
    rw [e1, if_neg (fun e => ha0 e.symm), i4] at q
    exact absurd q (by decide)) (fun q => by
    have q := p_A_y.mp q
    rw [e1, if_pos rfl] at q
    exact absurd q (by decide))
  have od := p_od_le (m_leave a (nI b) c)
  refine ⟨⟨fun x => r x + f x, fun x => if x = a then 1 else 0, 2, ⟨i1, i2, i3, ?_, ?_, by omega, by omega⟩, i5, fun j hj q => ?_, fun j hj q => ?_, fun k hk => ?_, fun j hj q => ?_, fun v hv => ?_⟩, by unfold p_Φ; omega⟩
  · rw [e1, if_neg (fun e => ha0 e.symm)]; exact i4
  · show r 0 + f 0 = 0
    rw [hr0, f0]
  all_goals have gd : ∀ x, p_lit c x → p_gd (m_leave a (nI b) c) (fun x => if x = a then 1 else 0) x := (fun x q => ⟨q.1, (by
      rw [e1]
      by_cases e : x / 2 = a
      · exact Or.inr (by show 0 < (if x / 2 = a then 1 else 0); rw [if_pos e]; decide)
      · rw [if_neg e]; exact Or.inl q.2)⟩)
  · have hj : j < mnd c := hj
    rw [e1] at q
    by_cases e : j = a
    · rw [if_pos e] at q; exact absurd q (by decide)
    rw [if_neg e] at q
    obtain ⟨a1, a2, a3⟩ := i6 j hj q
    obtain ⟨r1, r2⟩ := hr j hj q
    refine ⟨gd _ a1, gd _ a2, a3, ?_, ?_⟩
    · show r (mon c j / 2) + f (mon c j / 2) < r j + f j
      by_cases z : p_Rch c (fun i => i = mon c j / 2) a
      · rw [(hf _).1 z, (hf _).1 (up j hj q _ (Or.inl rfl) z)]; omega
      · rw [(hf _).2 z]; omega
    · show r (mtw c j / 2) + f (mtw c j / 2) < r j + f j
      by_cases z : p_Rch c (fun i => i = mtw c j / 2) a
      · rw [(hf _).1 z, (hf _).1 (up j hj q _ (Or.inr rfl) z)]; omega
      · rw [(hf _).2 z]; omega
  · rw [e1] at q
    by_cases e : j = a
    · rw [if_pos e] at q; exact absurd q (by decide)
    rw [if_neg e] at q
    exact gd _ (i7 j hj q)
  · exact gd _ (i8 k hk)
  · rw [e1] at q
    by_cases e : j = a
    · rw [if_pos e] at q; exact absurd rfl q
    rw [if_neg e] at q
    rw [e4, if_neg e]; exact i9 j hj q
  · have hv : 0 < (if v = a then 1 else 0) := hv
    by_cases e : v = a
    · show v < mnd c ∧ mso (m_leave a (nI b) c) v = 5 ∧ (if v = a then 1 else 0) < 2 ∧ ∃ b', b' < 2 * mnd c ∧ mst (m_leave a (nI b) c) v = nI b' ∧ r (b' / 2) + f (b' / 2) ≤ r v + f v ∧ (mso (m_leave a (nI b) c) (b' / 2) ≠ 5 ∨ (if v = a then 1 else 0) < (if b' / 2 = a then 1 else 0))
      rw [if_pos e, e]
      refine ⟨ha, by rw [e1, if_pos rfl], by omega, b, hb, by rw [e4, if_pos rfl], ?_, Or.inl ?_⟩
      · rw [(hf (b / 2)).2 hna, (hf a).1 (p_Rch_self rfl)]; omega
      · rw [e1, if_neg hba]; exact hbl
    · rw [if_neg e] at hv; omega
/-- replacing ends -/
theorem p_replE {c d : KC} {r τ : Nat → Nat} {T : Nat} {w : KG} {ne ou bo : Nat → Int32} {ob : Nat} (h : p_RI d r τ T) (hI : p_I c) (hS : mnd d = mnd c ∧ moc d = moc c ∧ mou d = mou c ∧ mbo d = mbo c ∧ ∀ j, j < mnd c → (mso d j = 3 ↔ mso c j = 3) ∧ (mso c j = 3 → mon d j = mon c j)) (hG : p_RG w d) (hl : ∀ j, j < mnd d → mso d j = 2 → mso d (mon d j / 2) ≠ 5 ∧ mso d (mtw d j / 2) ≠ 5)
    (hNe : ∀ j, j < mnd c → ne j = (if mso c j = 3 then nI (mon c j) else -1)) (hO : p_RO ou bo ob c) : p_R (w.1, w.2.1, w.2.2.1, k_stR 400 w.2.2.2 ne (mnd c), w.2.2.2, k_stR 40 w.2.2.2 ou (moc c), bo, mnd c, moc c, ob) (m_rpE 401 d) ∧ p_I (m_rpE 401 d) := by
  obtain ⟨s1, s2, s3, s4, s5⟩ := hS
  have hsi : ∀ j, j < mnd d → w.2.2.2 j = mst d j := fun j hj => (hG j hj).2.1
  have em : ∀ j, j < mnd c → mon (m_rpE 401 d) j = if mso d j = 3 then m_st d 401 (mon d j) else mon d j := fun j hj => by
    show m_rlt 401 d (mnd d) j = _
    unfold m_rlt
    rw [s1]
    by_cases z : mso d j = 3
    · rw [if_pos ⟨hj, z⟩, if_pos z]
    · rw [if_neg (fun q => z q.2), if_neg z]
  have eo : ∀ k, k < moc c → mou (m_rpE 401 d) k = m_st d 401 (mou d k) := fun k hk => by
    show m_rot 401 d (moc d) k = _
    unfold m_rot
    rw [if_pos (by rw [s2]; exact hk)]
  obtain ⟨⟨j1, j2, j3, j4, j5, j6, j7⟩, k1, k2, k3, k4, k5, k6⟩ := id h
  refine ⟨⟨s1.symm, s2.symm, fun j hj => ?_, ?_⟩, ⟨j1, j2, j3, j4⟩, fun j hj => ?_, fun j hj q => ?_, fun j hj q => ?_, fun k hk => ?_, k5, ?_, r, j5, fun j hj q => ?_⟩
  · have hj : j < mnd d := hj
    have hj2 : j < mnd c := by omega
    obtain ⟨g1, g2, g3, g4⟩ := hG j hj
    rw [em j hj2]
    refine ⟨g1, g2, ?_, g4, ?_⟩
    · show w.2.1 j = if mso d j = 2 then _ else -1
      rw [g3]
      by_cases z : mso d j = 2
      · rw [if_pos z, if_pos z, if_neg (show ¬ mso d j = 3 by rw [z]; decide)]
      · rw [if_neg z, if_neg z]
    · show k_stR 400 w.2.2.2 ne (mnd c) j = if mso d j = 3 then _ else -1
      unfold k_stR
      rw [if_pos hj2, hNe j hj2]
      obtain ⟨q1, q2⟩ := s5 j hj2
      by_cases z : mso d j = 3
      · rw [if_pos (q1.mp z), if_pos z, if_pos z, ← q2 (q1.mp z)]
        exact (p_st h hsi (k3 j hj z)).2.2.2.2
      · rw [if_neg (fun q => z (q1.mpr q)), if_neg z]
        exact p_stLm _ _
  · obtain ⟨o1, o2, o3, o4⟩ := hO
    refine ⟨fun k hk => ?_, fun k q hk => ?_, fun q => ?_, by show ob ≤ moc d; rw [s2]; exact o4⟩
    · have hk : k < moc d := hk
      have hk2 : k < moc c := by omega
      rw [eo k hk2]
      refine ⟨?_, ?_⟩
      · show k_stR 40 w.2.2.2 ou (moc c) k = _
        unfold k_stR
        rw [if_pos hk2, (o1 k hk2).1, ← s3]
        exact (p_st h hsi (k4 k hk)).2.2.2.2
      · show bo k = mbo d k
        rw [s4]; exact (o1 k hk2).2
    · have hk : k < moc d := hk
      show mbo d k = 0
      rw [s4]; exact o2 k q (by omega)
    · show mbo d (ob - 1) = 1
      rw [s4]; exact o3 q
  · have hj : j < mnd d := hj
    rw [em j (by omega)]
    refine ⟨?_, (k1 j hj).2⟩
    by_cases z : mso d j = 3
    · rw [if_pos z]
      have := (p_st h hsi (k3 j hj z)).2.1
      omega
    · rw [if_neg z]; exact (k1 j hj).1
  · have hj : j < mnd d := hj
    have q : mso d j = 2 := q
    obtain ⟨a1, a2, a3, -⟩ := k2 j hj q
    obtain ⟨b1, b2⟩ := hl j hj q
    rw [em j (by omega), if_neg (show ¬ mso d j = 3 by rw [q]; decide)]
    exact ⟨⟨a1.1, b1⟩, ⟨a2.1, b2⟩, a3⟩
  · have hj : j < mnd d := hj
    have q : mso d j = 3 := q
    rw [em j (by omega), if_pos q]
    obtain ⟨-, b1, b2, -⟩ := p_st h hsi (k3 j hj q)
    exact ⟨b1, b2⟩
  · have hk : k < moc d := hk
    rw [eo k (by omega)]
    obtain ⟨-, b1, b2, -⟩ := p_st h hsi (k4 k hk)
    exact ⟨b1, b2⟩
  · intro k hk
    have hk : k < moc d := hk
    show mbo d k = 0 ∨ mbo d k = 1
    rw [s4]
    exact hI.2.2.2.2.2.2.1 k (by omega)
  · have hj : j < mnd d := hj
    have q : mso d j = 2 := q
    obtain ⟨-, -, -, a4, a5⟩ := k2 j hj q
    rw [em j (by omega), if_neg (show ¬ mso d j = 3 by rw [q]; decide)]
    exact ⟨a4, a5⟩
def p_resx (k : Int32) (o : Int64) (u : XV) (rm : Nat → Int64) (R : Int32 × KX × (Nat → Int32)) : Prop := R.2.1.1 = k ∧ (k = 0 → o = Int32.toInt64 R.1) ∧ p_Z u R.2.1.2.1 R.2.1.2.2.1 R.2.1.2.2.2.1 rm R.2.1.2.2.2.2
theorem p_rlF {c : KC} (hI : p_I c) (be : Nat → Int32) : ∀ a b, a < mnd c → mso c a = 1 ∨ mso c a = 2 → b < 2 * mnd c → mso c (b / 2) ≠ 5 → k_it (m_cF c) 401 1 (m_cn0 be (b / 2) (mnd c)) a = 0 → m_rlF 401 160000 (m_leave a (nI b) c) := by
  intro a b ha hs hb hbl h0
  have ab := p_above (le := fun j => if mso c j = 2 then nI (mon c j) else -1) (gr := fun j => if mso c j = 2 then nI (mtw c j) else -1) (be := be) (e := ((fun _ => 0), (fun _ => 0), 0)) (v := b / 2) hI.1.2.1 (p_nodI hI) hI.2.1 (fun _ _ => ⟨rfl, rfl⟩) (by omega) a ha
  obtain ⟨⟨r, τ, T, hRI⟩, hΦ⟩ := p_repl hI ha hs hb hbl (fun q => (ab.2.mpr q) h0)
  exact (p_loop 160000 (m_leave a (nI b) c) (mso (m_leave a (nI b) c), (fun j => if mso (m_leave a (nI b) c) j = 2 then nI (mon (m_leave a (nI b) c) j) else -1), (fun j => if mso (m_leave a (nI b) c) j = 2 then nI (mtw (m_leave a (nI b) c) j) else -1), mst (m_leave a (nI b) c)) r τ T hRI (fun j _ => ⟨rfl, rfl, rfl, rfl⟩) hΦ).1
theorem p_o_replace {so le gr ne si ou bo : Nat → Int32} {n om ob : Nat} {cs : Nat → Nat → Nat} {gs : Nat → KH} {made pl kp : Nat} {ro : Nat → Int64} {wo : Int32} {lv : Nat → Int32} {e0 : KE} {c : KC} {cp : Nat → Int32} {cn : Nat} {rm : Nat → Int64} {kn : Int32} (p0 p1 : Int32) (hZ : p_Z ((so, le, gr, ne, si, ou, bo, n, om, ob), (cs, gs, made, pl, kp), ro, wo, lv, e0) c cp cn rm kn) {k : Int32} {u : (Nat → Int64) × XV} (be : Nat → Int32) (h : x_wrap Int32.toInt64 ["java/lang/IndexOutOfBoundsException", "java/lang/IllegalArgumentException"] (fun (r : Int32) u => x_yn n p0 ∧ x_yl n p1 ∧ (k_cat 400 so p0 = 1 ∨ k_cat 400 so p0 = 2) ∧ ¬ k_cat 400 so (k_nodeOf p1) = 5 ∧ ∃ e9 : KE, e9 = k_spr le gr 400 (k_mark (k_nodeOf p1) (k_clr e0)) ∧ ((k_cat 400 (k_spr le gr 400 (k_mark (k_nodeOf p1) (k_clr e0))).1 p0 = 1 ∧ r = 1 ∧ u = ((so, le, gr, ne, si, ou, bo, n, om, ob), (cs, gs, made, pl, kp), ro, wo, lv, e9)) ∨ (¬ k_cat 400 (k_spr le gr 400 (k_mark (k_nodeOf p1) (k_clr e0))).1 p0 = 1 ∧ r = 0 ∧ ∃ w : KG, w = k_reL n 160000 (k_lo (k_gone p0 p1 (so, le, gr, si)).2.1 (k_gone p0 p1 (so, le, gr, si)).2.2.1 (k_gone p0 p1 (so, le, gr, si)).2.2.2 n 0) (k_gone p0 p1 (so, le, gr, si)) ∧ x_chg ((so, le, gr, ne, si, ou, bo, n, om, ob), (cs, gs, made, pl, kp), ro, wo, lv, e0) (w.1, w.2.1, w.2.2.1, k_stR 400 w.2.2.2 ne n, w.2.2.2, k_stR 40 w.2.2.2 ou om, bo, n, om, ob) e9 u))) (fun E => (E = "java/lang/IndexOutOfBoundsException" ∧ (x_nn n p0 ∨ x_nl n p1)) ∨ (E = "java/lang/IllegalArgumentException" ∧ x_yn n p0 ∧ x_yl n p1 ∧ ((¬ k_cat 400 so p0 = 1 ∧ ¬ k_cat 400 so p0 = 2) ∨ k_cat 400 so (k_nodeOf p1) = 5))) ((so, le, gr, ne, si, ou, bo, n, om, ob), (cs, gs, made, pl, kp), ro, wo, lv, e0) k u) : p_resx k (u.1 0) u.2 rm (m_replace 401 160000 c cp cn kn be p0 p1) := by
  obtain ⟨rfl, rfl, hN, hO, hI⟩ := p_Zo hZ
  have hn := hI.1.2.1
  have hs : ∀ j, j < mnd c → so j = mso c j := fun j hj => (hN j hj).1
  have n1 : ¬ (0 : Int32) = 1 := by decide
  unfold m_replace
  rcases h with ⟨rfl, r, hr, g1, g2, g3, g4, e9, he9, hp⟩ | ⟨i, E, he, rfl, hp, hu⟩
  · rcases p_nd hn p0 with q | ⟨a, ha, ea, -, w0, ca⟩
    · exact (p_nnx q.1 g1).elim
    obtain ⟨b, hb, eb, nb, sb, wb, -, cb⟩ := p_wr0 hn hs g2
    rw [sb] at g4
    rw [if_neg g4] at wb
    have ec : k_cat 400 so p0 = mso c a := by rw [ea, p_cat (by omega) (by omega), hs a ha]
    rw [ec] at g3
    have ab := p_above (be := be) (e := e0) (v := b / 2) hn (p_nodI hI) hI.2.1 (fun j hj => ⟨(hN j hj).2.2.1, (hN j hj).2.2.2.1⟩) (by omega) a ha
    have ex : m_rpX 401 160000 c cp cn kn be p0 p1 = m_rpZ 401 160000 c cp cn kn be a b := by
      unfold m_rpX
      rw [wb, if_neg n1, if_pos (show (0 : Int32) ≤ 0 by decide), ca, cb]
    have key : p_resx 0 (u.1 0) u.2 rm (m_rpZ 401 160000 c cp cn kn be a b) := by
      unfold m_rpZ m_rpB
      rw [nb, ea, p_cat (by omega) (by omega)] at hp
      rcases hp with ⟨q1, rfl, q3⟩ | ⟨q1, rfl, w, hw, hc⟩
      · rw [if_neg (ab.2.mpr (ab.1.mp q1))]
        exact ⟨rfl, fun _ => hr, p_Z_lv hZ (by rw [q3]) (by rw [q3]) (by rw [q3]) (by rw [q3])⟩
      · have hna : ¬ p_Rch c (fun i => i = b / 2) a := fun q => q1 (ab.1.mpr q)
        rw [if_pos (Classical.byContradiction (fun q => hna (ab.2.mp q)))]
        obtain ⟨⟨rk, τ, T, hRI⟩, hΦ⟩ := p_repl hI ha g3 hb g4 hna
        have hG : p_RG (k_gone (nI a) (nI b) (so, le, gr, si)) (m_leave a (nI b) c) := by
          intro j hj
          have hj : j < mnd c := hj
          obtain ⟨q1, q2, q3, q4, -⟩ := hN j hj
          have e1 : mso (m_leave a (nI b) c) j = if j = a then 5 else mso c j := p_upd _ _ _ _
          have e2 : mst (m_leave a (nI b) c) j = if j = a then nI b else mst c j := p_upd _ _ _ _
          rw [e1, e2]
          unfold k_gone
          rw [p_cpt (by omega) (by omega), p_cpt (by omega) (by omega), p_cpt (by omega) (by omega), p_cpt (by omega) (by omega)]
          show upd _ a _ j = _ ∧ upd _ a _ j = _ ∧ upd _ a _ j = _ ∧ upd _ a _ j = _
          rw [p_upd, p_upd, p_upd, p_upd]
          by_cases e : j = a
          · have k5 : ¬ (5 : Int32) = 2 := by decide
            refine ⟨?_, ?_, ?_, ?_⟩
            · rw [if_pos e, if_pos e]
            · rw [if_pos e, if_pos e]
            · rw [if_pos e, if_pos e, if_neg k5]
            · rw [if_pos e, if_pos e, if_neg k5]
          · repeat rw [if_neg e]
            exact ⟨q1, q2, q3, q4⟩
        obtain ⟨-, ⟨r', τ', T', l2⟩, l3, l4, l5⟩ := p_loop 160000 (m_leave a (nI b) c) _ rk τ T hRI hG hΦ
        rw [eb, p_lo hRI hG (mnd c) 0 (show 0 + mnd c ≤ mnd c by omega)] at hw
        have l4 : p_RG w (m_rL 401 160000 (m_leave a (nI b) c)) := by rw [hw]; exact l4
        have hS : mnd (m_rL 401 160000 (m_leave a (nI b) c)) = mnd c ∧ moc (m_rL 401 160000 (m_leave a (nI b) c)) = moc c ∧ mou (m_rL 401 160000 (m_leave a (nI b) c)) = mou c ∧ mbo (m_rL 401 160000 (m_leave a (nI b) c)) = mbo c ∧ ∀ j, j < mnd c → (mso (m_rL 401 160000 (m_leave a (nI b) c)) j = 3 ↔ mso c j = 3) ∧ (mso c j = 3 → mon (m_rL 401 160000 (m_leave a (nI b) c)) j = mon c j) := by
          obtain ⟨t1, t2, t3, t4, t5⟩ := l3
          refine ⟨t1, t2, t3, t4, fun j hj => ?_⟩
          obtain ⟨v1, v2⟩ := t5 j hj
          have e1 : mso (m_leave a (nI b) c) j = if j = a then 5 else mso c j := p_upd _ _ _ _
          rw [e1] at v1 v2
          by_cases e : j = a
          · have z : ¬ mso c j = 3 := by
              rw [e]
              rcases g3 with q | q <;> rw [q] <;> decide
            rw [if_pos e] at v1
            exact ⟨⟨fun q => absurd (v1.mp q) (by decide), fun q => absurd q z⟩, fun q => absurd q z⟩
          · rw [if_neg e] at v1 v2
            exact ⟨v1, v2⟩
        have l5' : ∀ j, j < mnd (m_rL 401 160000 (m_leave a (nI b) c)) → mso (m_rL 401 160000 (m_leave a (nI b) c)) j = 2 → mso (m_rL 401 160000 (m_leave a (nI b) c)) (mon (m_rL 401 160000 (m_leave a (nI b) c)) j / 2) ≠ 5 ∧ mso (m_rL 401 160000 (m_leave a (nI b) c)) (mtw (m_rL 401 160000 (m_leave a (nI b) c)) j / 2) ≠ 5 := fun j hj q => l5 j (by rw [hS.1] at hj; exact hj) q
        obtain ⟨f1, f2⟩ := p_replE l2 hI hS l4 l5' (fun j hj => (hN j hj).2.2.2.2) hO
        exact ⟨rfl, fun _ => hr, p_keepZ (c' := m_rpE 401 (m_rL 401 160000 (m_leave a (nI b) c))) hZ hc f1 f2⟩
    rw [if_neg w0, ca]
    by_cases z : mso c a = 1
    · rw [if_pos z, ex]; exact key
    · rw [if_neg z, if_pos (g3.resolve_left z), ex]; exact key
  · have bad : ∀ (R : Int32 × KX × (Nat → Int32)) (i : Nat), i < 5 → R = (0, (nI (i + 1), c, cp, cn, kn), be) → p_resx (nI (i + 1)) (u.1 0) u.2 rm R := fun R i hi hR => by
      rw [hR]
      refine ⟨rfl, fun q => ?_, by rw [hu]; exact hZ⟩
      have := (nI_eq (a := i + 1) (b := 0) (by omega) (by omega)).mp q
      omega
    rcases p_ex2 he with ⟨rfl, rfl⟩ | ⟨rfl, rfl⟩
    · refine bad _ 0 (by omega) ?_
      rcases hp with ⟨-, hp⟩ | ⟨e, -⟩
      · rcases p_nd hn p0 with q | ⟨a, ha, ea, y0, w0, ca⟩
        · rw [if_pos q.2]; rfl
        · have hp := hp.resolve_left (fun q => p_nnx q y0)
          have w1 := (p_wr1 hn hs hp).1
          rw [if_neg w0]
          unfold m_rpX
          rw [w1, if_pos rfl, if_pos rfl]
          repeat' split
          all_goals rfl
      · exact absurd e (by decide)
    · refine bad _ 1 (by omega) ?_
      rcases hp with ⟨e, -⟩ | ⟨-, g1, g2, hp⟩
      · exact absurd e (by decide)
      · rcases p_nd hn p0 with q | ⟨a, ha, ea, y0, w0, ca⟩
        · exact (p_nnx q.1 g1).elim
        obtain ⟨b, hb, eb, nb, sb, wb, -, cb⟩ := p_wr0 hn hs g2
        have ec : k_cat 400 so p0 = mso c a := by rw [ea, p_cat (by omega) (by omega), hs a ha]
        rw [ec, sb] at hp
        have x1 : ¬ m_wrong c p1 = 1 := by rw [wb]; split <;> decide
        rw [if_neg w0, ca]
        unfold m_rpX
        rw [if_neg x1, if_neg x1]
        rcases hp with ⟨q1, q2⟩ | q
        · rw [if_neg q1, if_neg q2]; rfl
        · rw [if_pos q] at wb
          rw [wb, if_neg (show ¬ (2 : Int32) ≤ 0 by decide)]
          repeat' split
          all_goals rfl
