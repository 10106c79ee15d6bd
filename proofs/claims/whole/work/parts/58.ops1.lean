/-! PURE, seventh: both sides' calls, first half -/
/-- state and answer of side m against side k's -/
def p_res (k : Int32) (o : Int64) (u : XV) (rm : Nat → Int64) (R : Int32 × KX) : Prop := R.2.1 = k ∧ (k = 0 → o = Int32.toInt64 R.1) ∧ p_Z u R.2.2.1 R.2.2.2.1 R.2.2.2.2.1 rm R.2.2.2.2.2
def p_res2 (k : Int32) (o : Int64) (u : XV) (c : KC) (cp : Nat → Int32) (cn : Nat) (rm : Nat → Int64) (kn : Int32) (R : Int32 × Int32) : Prop := R.2 = k ∧ (k = 0 → o = Int32.toInt64 R.1) ∧ p_Z u c cp cn rm kn
theorem p_ex1 {E1 E : String} {i : Nat} (h : [E1][i]? = some E) : i = 0 ∧ E = E1 := by
  match i with
  | 0 => exact ⟨rfl, (Option.some.inj h).symm⟩
  | i + 1 => cases h
theorem p_ex2 {E1 E2 E : String} {i : Nat} (h : [E1, E2][i]? = some E) : (i = 0 ∧ E = E1) ∨ (i = 1 ∧ E = E2) := by
  match i with
  | 0 => exact Or.inl ⟨rfl, (Option.some.inj h).symm⟩
  | i + 1 => exact Or.inr ⟨by rw [(p_ex1 (show [E2][i]? = some E from h)).1], (p_ex1 (show [E2][i]? = some E from h)).2⟩
theorem p_ex3 {E1 E2 E3 E : String} {i : Nat} (h : [E1, E2, E3][i]? = some E) : (i = 0 ∧ E = E1) ∨ (i = 1 ∧ E = E2) ∨ (i = 2 ∧ E = E3) := by
  match i with
  | 0 => exact Or.inl ⟨rfl, (Option.some.inj h).symm⟩
  | i + 1 => exact Or.inr ((p_ex2 (show [E2, E3][i]? = some E from h)).imp (fun q => ⟨by rw [q.1], q.2⟩) (fun q => ⟨by rw [q.1], q.2⟩))
theorem p_wr {c : KC} {so : Nat → Int32} (hn : mnd c ≤ 400) (hs : ∀ j, j < mnd c → so j = mso c j) (x : Int32) : (x_nl (mnd c) x ∧ m_wrong c x = 1 ∧ m_wl c x = 1) ∨ ∃ a, a < 2 * mnd c ∧ x = nI a ∧ x_yl (mnd c) x ∧ k_nodeOf x = nI (a / 2) ∧ k_cat 400 so (k_nodeOf x) = mso c (a / 2) ∧ m_wrong c x = (if mso c (a / 2) = 5 then 2 else 0) ∧ m_wl c x = (if mso c (a / 2) = 3 then 0 else 2) ∧ x.toNatClampNeg = a := by
  by_cases h0 : x < 0
  · refine Or.inl ⟨Or.inl h0, ?_, ?_⟩
    · unfold m_wrong; rw [if_pos h0]
    · unfold m_wl; rw [if_pos h0]
  obtain ⟨a, ha, rfl⟩ := nI_of h0
  have e := p_node ha
  by_cases h1 : a / 2 < mnd c
  · refine Or.inr ⟨a, by omega, rfl, ⟨h0, ?_⟩, e, ?_, ?_, ?_, nI_clamp ha⟩
    · rw [e]; exact fun q => absurd ((nI_leI (by omega) (by omega)).mp q) (by omega)
    · rw [e, p_cat (by omega) (by omega), hs _ h1]
    · unfold m_wrong; rw [if_neg h0, nI_clamp ha, m_was_nI hn (by omega), if_pos h1, if_neg (by decide)]
    · unfold m_wl; rw [if_neg h0, nI_clamp ha, m_was_nI hn (by omega), if_pos h1, if_neg (by decide)]
  · refine Or.inl ⟨Or.inr ?_, ?_, ?_⟩
    · rw [e]; exact (nI_leI (by omega) (by omega)).mpr (by omega)
    · unfold m_wrong; rw [if_neg h0, nI_clamp ha, m_was_nI hn (by omega), if_neg h1, if_pos rfl]
    · unfold m_wl; rw [if_neg h0, nI_clamp ha, m_was_nI hn (by omega), if_neg h1, if_pos rfl]
theorem p_nlx {n : Nat} {x : Int32} (h : x_nl n x) (g : x_yl n x) : False := h.elim g.1 g.2
theorem p_nnx {n : Nat} {x : Int32} (h : x_nn n x) (g : x_yn n x) : False := h.elim g.1 g.2
theorem p_nd {n : Nat} (hn : n ≤ 400) (x : Int32) : (x_nn n x ∧ m_was n x = 0) ∨ ∃ a, a < n ∧ x = nI a ∧ x_yn n x ∧ ¬ m_was n x = 0 ∧ x.toNatClampNeg = a := by
  by_cases h0 : x < 0
  · refine Or.inl ⟨Or.inl h0, ?_⟩
    unfold m_was; rw [if_pos h0]
  obtain ⟨a, ha, rfl⟩ := nI_of h0
  by_cases h1 : a < n
  · refine Or.inr ⟨a, h1, rfl, ⟨h0, fun q => absurd ((nI_leI (by omega) (by omega)).mp q) (by omega)⟩, ?_, nI_clamp ha⟩
    rw [m_was_nI hn ha, if_pos h1]; decide
  · refine Or.inl ⟨Or.inr ((nI_leI (by omega) (by omega)).mpr (by omega)), ?_⟩
    rw [m_was_nI hn ha, if_neg h1]
theorem p_Zo {so le gr ne si ou bo : Nat → Int32} {n om ob : Nat} {cs : Nat → Nat → Nat} {gs : Nat → KH} {made pl kp : Nat} {ro : Nat → Int64} {wo : Int32} {lv : Nat → Int32} {e0 : KE} {c : KC} {cp : Nat → Int32} {cn : Nat} {rm : Nat → Int64} {kn : Int32} (hZ : p_Z ((so, le, gr, ne, si, ou, bo, n, om, ob), (cs, gs, made, pl, kp), ro, wo, lv, e0) c cp cn rm kn) : n = mnd c ∧ om = moc c ∧ p_RN so le gr ne si c ∧ p_RO ou bo ob c ∧ p_I c := ⟨hZ.1.1, hZ.1.2.1, hZ.1.2.2.1, hZ.1.2.2.2, hZ.2.1⟩
theorem p_ordZ {c : KC} (h : p_I c) : p_ord c := fun j hj q => ⟨(h.2.2.1 j hj q).2.2, (h.2.1 j hj).2⟩
/-- a new node, side m -/
theorem p_newI {c : KC} {z : Int32} {a b : Nat} (h : p_I c) (hn : mnd c < 400) (h5 : z ≠ 5) (ha : a < 800) (hb : b < 800) (h2 : z = 2 → p_lit c a ∧ p_lit c b ∧ a < b) (h3 : z = 3 → p_lit c a) : p_I (m_new z a b c) := by
  obtain ⟨⟨i1, i2, i3, i4⟩, i5, i6, i7, i8, i9, i10, r, hr0, hr⟩ := h
  have e1 : ∀ j, mso (m_new z a b c) j = if j = mnd c then z else mso c j := fun j => p_upd _ _ _ _
  have e2 : ∀ j, mon (m_new z a b c) j = if j = mnd c then a else mon c j := fun j => rfl
  have e3 : ∀ j, mtw (m_new z a b c) j = if j = mnd c then b else mtw c j := fun j => rfl
  have e4 : ∀ j, mst (m_new z a b c) j = if j = mnd c then -1 else mst c j := fun j => p_upd _ _ _ _
  have e5 : mnd (m_new z a b c) = mnd c + 1 := rfl
  have lt : ∀ x, p_lit c x → p_lit (m_new z a b c) x := fun x q => ⟨by rw [e5]; have := q.1; omega, by rw [e1, if_neg (by have := q.1; omega)]; exact q.2⟩
  refine ⟨⟨by omega, by omega, i3, by rw [e1, if_neg (by omega)]; exact i4⟩, fun j hj => ?_, fun j hj q => ?_, fun j hj q => ?_, fun k hk => lt _ (i8 k hk), fun j hj q => ?_, i10, fun x => if x = mnd c then 1 + max (r (a / 2)) (r (b / 2)) else r x, ?_, fun j hj q => ?_⟩
  · rw [e2, e3]
    by_cases e : j = mnd c
    · rw [if_pos e, if_pos e]; exact ⟨ha, hb⟩
    · rw [if_neg e, if_neg e]; exact i5 j (by omega)
  · rw [e1] at q
    rw [e2, e3]
    by_cases e : j = mnd c
    · rw [if_pos e] at q
      rw [if_pos e, if_pos e]
      exact ⟨lt _ (h2 q).1, lt _ (h2 q).2.1, (h2 q).2.2⟩
    · rw [if_neg e] at q
      rw [if_neg e, if_neg e]
      obtain ⟨a1, a2, a3⟩ := i6 j (by omega) q
      exact ⟨lt _ a1, lt _ a2, a3⟩
  · rw [e1] at q
    rw [e2]
    by_cases e : j = mnd c
    · rw [if_pos e] at q
      rw [if_pos e]; exact lt _ (h3 q)
    · rw [if_neg e] at q
      rw [if_neg e]; exact lt _ (i7 j (by omega) q)
  · rw [e1] at q
    rw [e4]
    by_cases e : j = mnd c
    · rw [if_pos e]
    · rw [if_neg e] at q
      rw [if_neg e]; exact i9 j (by omega) q
  · show (if 0 = mnd c then _ else _) = 0
    rw [if_neg (by omega)]; exact hr0
  · rw [e1] at q
    rw [e2, e3]
    show (if _ then _ else _) < (if j = mnd c then _ else _) ∧ (if _ then _ else _) < (if j = mnd c then _ else _)
    by_cases e : j = mnd c
    · rw [if_pos e] at q
      obtain ⟨a1, a2, -⟩ := h2 q
      have b1 := a1.1
      have b2 := a2.1
      have m1 := Nat.le_max_left (r (a / 2)) (r (b / 2))
      have m2 := Nat.le_max_right (r (a / 2)) (r (b / 2))
      rw [if_pos e, if_pos e, if_pos e]
      rw [if_neg (show ¬ a / 2 = mnd c by omega), if_neg (show ¬ b / 2 = mnd c by omega)]
      omega
    · rw [if_neg e] at q
      obtain ⟨a1, a2, -⟩ := i6 j (by omega) q
      have b1 := a1.1
      have b2 := a2.1
      rw [if_neg e, if_neg e, if_neg e]
      rw [if_neg (show ¬ mon c j / 2 = mnd c by omega), if_neg (show ¬ mtw c j / 2 = mnd c by omega)]
      exact hr j (by omega) q
/-- a new node, both sides -/
theorem p_newR {c : KC} {z x y w : Int32} {a b : Nat} {so le gr ne si : Nat → Int32} (h : p_RN so le gr ne si c) (hn : mnd c < 400) (hx : x = (if z = 2 then nI a else -1)) (hy : y = (if z = 2 then nI b else -1)) (hw : w = (if z = 3 then nI a else -1)) : p_RN (upd so (mnd c) z) (upd le (mnd c) x) (upd gr (mnd c) y) (upd ne (mnd c) w) (upd si (mnd c) (-1)) (m_new z a b c) := by
  intro j hj
  have hj : j < mnd c + 1 := hj
  have e1 : mso (m_new z a b c) j = if j = mnd c then z else mso c j := p_upd _ _ _ _
  have e2 : mon (m_new z a b c) j = if j = mnd c then a else mon c j := rfl
  have e3 : mtw (m_new z a b c) j = if j = mnd c then b else mtw c j := rfl
  have e4 : mst (m_new z a b c) j = if j = mnd c then -1 else mst c j := p_upd _ _ _ _
  rw [e1, e2, e3, e4, p_upd, p_upd, p_upd, p_upd, p_upd]
  by_cases e : j = mnd c
  · repeat rw [if_pos e]
    exact ⟨rfl, rfl, hx, hy, hw⟩
  · repeat rw [if_neg e]
    exact h j (by omega)
theorem p_o_input {so le gr ne si ou bo : Nat → Int32} {n om ob : Nat} {cs : Nat → Nat → Nat} {gs : Nat → KH} {made pl kp : Nat} {ro : Nat → Int64} {wo : Int32} {lv : Nat → Int32} {e0 : KE} {c : KC} {cp : Nat → Int32} {cn : Nat} {rm : Nat → Int64} {kn : Int32}  (hZ : p_Z ((so, le, gr, ne, si, ou, bo, n, om, ob), (cs, gs, made, pl, kp), ro, wo, lv, e0) c cp cn rm kn) {k : Int32} {u : (Nat → Int64) × XV} (h : x_wrap Int32.toInt64 ["java/lang/UnsupportedOperationException"] (fun (r : Int32) u => n + 1 ≤ 400 ∧ r = k_litOf (nI n) ∧ x_chg ((so, le, gr, ne, si, ou, bo, n, om, ob), (cs, gs, made, pl, kp), ro, wo, lv, e0) (k_cpt 400 so (nI n) 1, k_cpt 400 le (nI n) (-1), k_cpt 400 gr (nI n) (-1), k_cpt 400 ne (nI n) (-1), k_cpt 400 si (nI n) (-1), ou, bo, n + 1, om, ob) e0 u) (fun E => E = "java/lang/UnsupportedOperationException" ∧ 400 < n + 1) ((so, le, gr, ne, si, ou, bo, n, om, ob), (cs, gs, made, pl, kp), ro, wo, lv, e0) k u) : p_res k (u.1 0) u.2 rm (m_input c cp cn kn) := by
  obtain ⟨rfl, rfl, hN, hO, hI⟩ := p_Zo hZ
  have hn := hI.1.2.1
  unfold m_input
  rcases h with ⟨rfl, r, hr, h1, rfl, hc⟩ | ⟨i, E, he, rfl, ⟨e, hp⟩, hu⟩
  · rw [if_neg (show ¬ mnd c = 400 by omega)]
    rw [p_cpt (by omega) (by omega), p_cpt (by omega) (by omega), p_cpt (by omega) (by omega), p_cpt (by omega) (by omega), p_cpt (by omega) (by omega)] at hc
    refine ⟨rfl, fun _ => by rw [hr, p_lito (by omega)], p_keepZ (c' := m_new 1 0 0 c) hZ hc ⟨rfl, rfl, p_newR hN (by omega) rfl rfl rfl, hO⟩ (p_newI hI (by omega) (by decide) (by omega) (by omega) (fun q => absurd q (by decide)) (fun q => absurd q (by decide)))⟩
  · obtain ⟨rfl, rfl⟩ := p_ex1 he
    rw [if_pos (show mnd c = 400 by omega)]
    exact ⟨rfl, fun q => absurd q (by decide), by rw [hu]; exact hZ⟩
theorem p_o_and {so le gr ne si ou bo : Nat → Int32} {n om ob : Nat} {cs : Nat → Nat → Nat} {gs : Nat → KH} {made pl kp : Nat} {ro : Nat → Int64} {wo : Int32} {lv : Nat → Int32} {e0 : KE} {c : KC} {cp : Nat → Int32} {cn : Nat} {rm : Nat → Int64} {kn : Int32} (p0 p1 : Int32) (hZ : p_Z ((so, le, gr, ne, si, ou, bo, n, om, ob), (cs, gs, made, pl, kp), ro, wo, lv, e0) c cp cn rm kn) {k : Int32} {u : (Nat → Int64) × XV} (h : x_wrap Int32.toInt64 ["java/lang/IndexOutOfBoundsException", "java/lang/IllegalArgumentException", "java/lang/UnsupportedOperationException"] (fun (r : Int32) u => x_yl n p0 ∧ x_yl n p1 ∧ ¬ k_cat 400 so (k_nodeOf p0) = 5 ∧ ¬ k_cat 400 so (k_nodeOf p1) = 5 ∧ ((¬ k_known le gr n p0 p1 (-1) = -1 ∧ r = k_known le gr n p0 p1 (-1) ∧ u = ((so, le, gr, ne, si, ou, bo, n, om, ob), (cs, gs, made, pl, kp), ro, wo, lv, e0)) ∨ (k_known le gr n p0 p1 (-1) = -1 ∧ n + 1 ≤ 400 ∧ r = k_litOf (nI n) ∧ x_chg ((so, le, gr, ne, si, ou, bo, n, om, ob), (cs, gs, made, pl, kp), ro, wo, lv, e0) (k_cpt 400 so (nI n) 2, k_cpt 400 (k_cpt 400 le (nI n) (-1)) (nI n) (k_min p0 p1), k_cpt 400 (k_cpt 400 gr (nI n) (-1)) (nI n) (k_max p0 p1), k_cpt 400 ne (nI n) (-1), k_cpt 400 si (nI n) (-1), ou, bo, n + 1, om, ob) e0 u))) (fun E => (E = "java/lang/IndexOutOfBoundsException" ∧ (x_nl n p0 ∨ x_nl n p1)) ∨ (E = "java/lang/IllegalArgumentException" ∧ x_yl n p0 ∧ x_yl n p1 ∧ (k_cat 400 so (k_nodeOf p0) = 5 ∨ k_cat 400 so (k_nodeOf p1) = 5)) ∨ (E = "java/lang/UnsupportedOperationException" ∧ x_yl n p0 ∧ x_yl n p1 ∧ ¬ k_cat 400 so (k_nodeOf p0) = 5 ∧ ¬ k_cat 400 so (k_nodeOf p1) = 5 ∧ k_known le gr n p0 p1 (-1) = -1 ∧ 400 < n + 1)) ((so, le, gr, ne, si, ou, bo, n, om, ob), (cs, gs, made, pl, kp), ro, wo, lv, e0) k u) : p_res k (u.1 0) u.2 rm (m_and c cp cn kn p0 p1) := by
  obtain ⟨rfl, rfl, hN, hO, hI⟩ := p_Zo hZ
  have hn := hI.1.2.1
  have hs : ∀ j, j < mnd c → so j = mso c j := fun j hj => (hN j hj).1
  have hF : ∀ j, j < mnd c → le j = (if mso c j = 2 then nI (mon c j) else -1) ∧ gr j = (if mso c j = 2 then nI (mtw c j) else -1) := fun j hj => ⟨(hN j hj).2.2.1, (hN j hj).2.2.2.1⟩
  unfold m_and
  have w0 := p_wr hn hs p0
  have w1 := p_wr hn hs p1
  have n1 : ¬ (0 : Int32) = 1 := by decide
  have n2 : ¬ (2 : Int32) = 1 := by decide
  rcases h with ⟨rfl, r, hr, g1, g2, g3, g4, hp⟩ | ⟨i, E, he, rfl, hp, hu⟩
  · rcases w0 with w0 | ⟨a, ha, ea, ya, -, sa, w0, -, ca⟩
    · exact (p_nlx w0.1 g1).elim
    rcases w1 with w1 | ⟨b, hb, eb, yb, -, sb, w1, -, cb⟩
    · exact (p_nlx w1.1 g2).elim
    rw [sa] at g3
    rw [sb] at g4
    rw [if_neg g3] at w0
    rw [if_neg g4] at w1
    rw [w0, w1, if_neg n1, if_neg n1, if_neg (show ¬ (0 : Int32) < 0 by decide), if_pos (show (0 : Int32) ≤ 0 by decide), ca, cb]
    have eK : k_known le gr (mnd c) p0 p1 (-1) = m_simple c a b (-1) := by rw [ea, eb]; exact p_known hn (p_ordZ hI) hF (by omega) (by omega) _
    have sp := p_simple (w := -1) hn (p_ordZ hI) (show a < 800 by omega) (show b < 800 by omega)
    rw [eK] at hp
    rcases hp with ⟨q1, rfl, q3⟩ | ⟨q1, q2, rfl, hc⟩
    · have nn : ¬ m_simple c a b (-1) < 0 := by
        rcases sp with z | ⟨y, z, z2⟩ | ⟨j, hj, z, -⟩
        · exact absurd z.1 q1
        · rw [z]; refine nI_pos ?_
          rcases z2 with z | z | z <;> omega
        · rw [z]; exact nI_pos (by omega)
      rw [if_neg nn]
      exact ⟨rfl, fun _ => hr, by rw [q3]; exact hZ⟩
    · rw [q1, if_pos (show (-1 : Int32) < 0 by decide), if_neg (show ¬ mnd c = 400 by omega)]
      have hab : a ≠ b := by
        rcases sp with z | ⟨y, z, z2⟩ | ⟨j, hj, z, -⟩
        · exact fun e => z.2.1 (by rw [e])
        · rw [q1] at z; exact absurd z.symm (p_ne1 (by rcases z2 with z | z | z <;> omega))
        · rw [q1] at z; exact absurd z.symm (p_ne1 (by omega))
      rw [p_cpt (by omega) (by omega), p_cpt (by omega) (by omega), p_cpt (by omega) (by omega), p_cpt (by omega) (by omega), p_cpt (by omega) (by omega), p_cpt (by omega) (by omega), p_cpt (by omega) (by omega), ea, eb, p_min a b (by omega) (by omega), p_max a b (by omega) (by omega)] at hc
      have uu : ∀ (f : Nat → Int32) (x y : Int32), upd (upd f (mnd c) x) (mnd c) y = upd f (mnd c) y := fun f x y => by
        funext j
        rw [p_upd, p_upd, p_upd]
        by_cases e : j = mnd c
        · rw [if_pos e, if_pos e]
        · rw [if_neg e, if_neg e, if_neg e]
      rw [uu, uu] at hc
      have la : p_lit c a := ⟨ha, g3⟩
      have lb : p_lit c b := ⟨hb, g4⟩
      refine ⟨rfl, fun _ => by rw [hr, p_lito (by omega)], p_keepZ (c' := m_new 2 (if b ≤ a then b else a) (if b ≤ a then a else b) c) hZ hc ⟨rfl, rfl, p_newR hN (by omega) rfl rfl rfl, hO⟩ (p_newI hI (by omega) (by decide) (by split <;> omega) (by split <;> omega) (fun _ => ?_) (fun q => absurd q (by decide)))⟩
      by_cases z : b ≤ a
      · rw [if_pos z, if_pos z]; exact ⟨lb, la, by omega⟩
      · rw [if_neg z, if_neg z]; exact ⟨la, lb, by omega⟩
  · rcases p_ex3 he with ⟨rfl, rfl⟩ | ⟨rfl, rfl⟩ | ⟨rfl, rfl⟩
    · rcases hp with ⟨-, hp⟩ | ⟨e, -⟩ | ⟨e, -⟩
      · rcases hp with q | q
        · rcases w0 with w0 | ⟨a, ha, ea, ya, -⟩
          · rw [w0.2.1, if_pos rfl]; exact ⟨rfl, fun q => absurd q (by decide), by rw [hu]; exact hZ⟩
          · exact (p_nlx q ya).elim
        · rcases w1 with w1 | ⟨b, hb, eb, yb, -⟩
          · rw [w1.2.1, if_pos (rfl : (1 : Int32) = 1)]
            by_cases z : m_wrong c p0 = 1
            · rw [if_pos z]; exact ⟨rfl, fun q => absurd q (by decide), by rw [hu]; exact hZ⟩
            · rw [if_neg z]; exact ⟨rfl, fun q => absurd q (by decide), by rw [hu]; exact hZ⟩
          · exact (p_nlx q yb).elim
      · exact absurd e (by decide)
      · exact absurd e (by decide)
    · rcases hp with ⟨e, -⟩ | ⟨-, g1, g2, hp⟩ | ⟨e, -⟩
      · exact absurd e (by decide)
      · rcases w0 with w0 | ⟨a, ha, ea, ya, -, sa, w0, -, ca⟩
        · exact (p_nlx w0.1 g1).elim
        rcases w1 with w1 | ⟨b, hb, eb, yb, -, sb, w1, -, cb⟩
        · exact (p_nlx w1.1 g2).elim
        rw [sa, sb] at hp
        have x0 : ¬ m_wrong c p0 = 1 := by rw [w0]; split <;> decide
        have x1 : ¬ m_wrong c p1 = 1 := by rw [w1]; split <;> decide
        rw [if_neg x0, if_neg x1]
        by_cases z : mso c (a / 2) = 5
        · rw [if_pos z] at w0
          rw [w0, if_pos (show (0 : Int32) < 2 by decide)]
          exact ⟨rfl, fun q => absurd q (by decide), by rw [hu]; exact hZ⟩
        · rw [if_neg z] at w0
          rw [if_pos (hp.resolve_left z)] at w1
          rw [w0, w1, if_neg (show ¬ (0 : Int32) < 0 by decide), if_neg (show ¬ (2 : Int32) ≤ 0 by decide)]
          exact ⟨rfl, fun q => absurd q (by decide), by rw [hu]; exact hZ⟩
      · exact absurd e (by decide)
    · rcases hp with ⟨e, -⟩ | ⟨e, -⟩ | ⟨-, g1, g2, g3, g4, q1, q2⟩
      · exact absurd e (by decide)
      · exact absurd e (by decide)
      · rcases w0 with w0 | ⟨a, ha, ea, ya, -, sa, w0, -, ca⟩
        · exact (p_nlx w0.1 g1).elim
        rcases w1 with w1 | ⟨b, hb, eb, yb, -, sb, w1, -, cb⟩
        · exact (p_nlx w1.1 g2).elim
        rw [sa] at g3
        rw [sb] at g4
        rw [if_neg g3] at w0
        rw [if_neg g4] at w1
        have eK : k_known le gr (mnd c) p0 p1 (-1) = m_simple c a b (-1) := by rw [ea, eb]; exact p_known hn (p_ordZ hI) hF (by omega) (by omega) _
        rw [eK] at q1
        rw [w0, w1, if_neg n1, if_neg n1, if_neg (show ¬ (0 : Int32) < 0 by decide), if_pos (show (0 : Int32) ≤ 0 by decide), ca, cb, q1, if_pos (show (-1 : Int32) < 0 by decide), if_pos (show mnd c = 400 by omega)]
        exact ⟨rfl, fun q => absurd q (by decide), by rw [hu]; exact hZ⟩
theorem p_wr0 {c : KC} {so : Nat → Int32} (hn : mnd c ≤ 400) (hs : ∀ j, j < mnd c → so j = mso c j) {x : Int32} (h1 : x_yl (mnd c) x) : ∃ a, a < 2 * mnd c ∧ x = nI a ∧ k_nodeOf x = nI (a / 2) ∧ k_cat 400 so (k_nodeOf x) = mso c (a / 2) ∧ m_wrong c x = (if mso c (a / 2) = 5 then 2 else 0) ∧ m_wl c x = (if mso c (a / 2) = 3 then 0 else 2) ∧ x.toNatClampNeg = a := by
  rcases p_wr hn hs x with w | ⟨a, ha, ea, -, na, sa, w, wl, ca⟩
  · exact (p_nlx w.1 h1).elim
  · exact ⟨a, ha, ea, na, sa, w, wl, ca⟩
theorem p_wr1 {c : KC} {so : Nat → Int32} (hn : mnd c ≤ 400) (hs : ∀ j, j < mnd c → so j = mso c j) {x : Int32} (h1 : x_nl (mnd c) x) : m_wrong c x = 1 ∧ m_wl c x = 1 := by
  rcases p_wr hn hs x with w | ⟨a, ha, ea, ya, -⟩
  · exact w.2
  · exact (p_nlx h1 ya).elim
theorem p_outI {c : KC} {a : Nat} (h : p_I c) (ho : moc c < 40) (ha : p_lit c a) : p_I (m_out a c) := by
  obtain ⟨⟨i1, i2, i3, i4⟩, i5, i6, i7, i8, i9, i10, i11⟩ := h
  refine ⟨⟨i1, i2, by show moc c + 1 ≤ 40; omega, i4⟩, i5, i6, i7, fun k hk => ?_, i9, fun k hk => ?_, i11⟩
  · have hk : k < moc c + 1 := hk
    show p_lit c (k_un (mou c) (moc c) a k)
    rw [p_un]
    by_cases e : k = moc c
    · rw [if_pos e]; exact ha
    · rw [if_neg e]; exact i8 k (by omega)
  · have hk : k < moc c + 1 := hk
    show upd (mbo c) (moc c) 0 k = 0 ∨ upd (mbo c) (moc c) 0 k = 1
    rw [p_upd]
    by_cases e : k = moc c
    · rw [if_pos e]; exact Or.inl rfl
    · rw [if_neg e]; exact i10 k (by omega)
theorem p_outR {c : KC} {a ob : Nat} {ou bo : Nat → Int32} (h : p_RO ou bo ob c) : p_RO (upd ou (moc c) (nI a)) (upd bo (moc c) 0) ob (m_out a c) := by
  obtain ⟨h1, h2, h3, h4⟩ := h
  refine ⟨fun k hk => ?_, fun k a1 hk => ?_, fun q => ?_, by show ob ≤ moc c + 1; omega⟩
  · have hk : k < moc c + 1 := hk
    show upd ou (moc c) (nI a) k = nI (k_un (mou c) (moc c) a k) ∧ upd bo (moc c) 0 k = upd (mbo c) (moc c) 0 k
    rw [p_un, p_upd, p_upd, p_upd]
    by_cases e : k = moc c
    · rw [if_pos e, if_pos e, if_pos e, if_pos e]; exact ⟨rfl, rfl⟩
    · rw [if_neg e, if_neg e, if_neg e, if_neg e]; exact h1 k (by omega)
  · have hk : k < moc c + 1 := hk
    show upd (mbo c) (moc c) 0 k = 0
    rw [p_upd]
    by_cases e : k = moc c
    · rw [if_pos e]
    · rw [if_neg e]; exact h2 k a1 (by omega)
  · show upd (mbo c) (moc c) 0 (ob - 1) = 1
    rw [p_upd, if_neg (by omega)]; exact h3 q
theorem p_o_output {so le gr ne si ou bo : Nat → Int32} {n om ob : Nat} {cs : Nat → Nat → Nat} {gs : Nat → KH} {made pl kp : Nat} {ro : Nat → Int64} {wo : Int32} {lv : Nat → Int32} {e0 : KE} {c : KC} {cp : Nat → Int32} {cn : Nat} {rm : Nat → Int64} {kn : Int32} (p0 : Int32) (hZ : p_Z ((so, le, gr, ne, si, ou, bo, n, om, ob), (cs, gs, made, pl, kp), ro, wo, lv, e0) c cp cn rm kn) {k : Int32} {u : (Nat → Int64) × XV} (h : x_wrap Int32.toInt64 ["java/lang/IndexOutOfBoundsException", "java/lang/IllegalArgumentException", "java/lang/UnsupportedOperationException"] (fun (r : Int32) u => x_yl n p0 ∧ ¬ k_cat 400 so (k_nodeOf p0) = 5 ∧ om < 40 ∧ r = nI om ∧ x_chg ((so, le, gr, ne, si, ou, bo, n, om, ob), (cs, gs, made, pl, kp), ro, wo, lv, e0) (so, le, gr, ne, si, k_cpt 40 ou (nI om) p0, k_cpt 40 bo (nI om) 0, n, om + 1, ob) e0 u) (fun E => (E = "java/lang/IndexOutOfBoundsException" ∧ x_nl n p0) ∨ (E = "java/lang/IllegalArgumentException" ∧ x_yl n p0 ∧ k_cat 400 so (k_nodeOf p0) = 5) ∨ (E = "java/lang/UnsupportedOperationException" ∧ x_yl n p0 ∧ ¬ k_cat 400 so (k_nodeOf p0) = 5 ∧ om = 40)) ((so, le, gr, ne, si, ou, bo, n, om, ob), (cs, gs, made, pl, kp), ro, wo, lv, e0) k u) : p_res k (u.1 0) u.2 rm (m_output c cp cn kn p0) := by
  obtain ⟨rfl, rfl, hN, hO, hI⟩ := p_Zo hZ
  have hn := hI.1.2.1
  have ho := hI.1.2.2.1
  have hs : ∀ j, j < mnd c → so j = mso c j := fun j hj => (hN j hj).1
  unfold m_output
  rcases h with ⟨rfl, r, hr, g1, g2, g3, rfl, hc⟩ | ⟨i, E, he, rfl, hp, hu⟩
  · obtain ⟨a, ha, ea, na, sa, w, -, ca⟩ := p_wr0 hn hs g1
    rw [sa] at g2
    rw [if_neg g2] at w
    rw [w, if_pos (show (0 : Int32) ≤ 0 by decide), if_neg (show ¬ moc c = 40 by omega), ca]
    rw [p_cpt (by omega) (by omega), p_cpt (by omega) (by omega), ea] at hc
    exact ⟨rfl, fun _ => hr, p_keepZ (c' := m_out a c) hZ hc ⟨rfl, rfl, hN, p_outR hO⟩ (p_outI hI g3 ⟨ha, g2⟩)⟩
  · rcases p_ex3 he with ⟨rfl, rfl⟩ | ⟨rfl, rfl⟩ | ⟨rfl, rfl⟩
    · rcases hp with ⟨-, hp⟩ | ⟨e, -⟩ | ⟨e, -⟩
      · obtain ⟨w, -⟩ := p_wr1 hn hs hp
        rw [w, if_neg (show ¬ (1 : Int32) ≤ 0 by decide)]
        exact ⟨rfl, fun q => absurd q (by decide), by rw [hu]; exact hZ⟩
      · exact absurd e (by decide)
      · exact absurd e (by decide)
    · rcases hp with ⟨e, -⟩ | ⟨-, g1, g2⟩ | ⟨e, -⟩
      · exact absurd e (by decide)
      · obtain ⟨a, ha, ea, na, sa, w, -, ca⟩ := p_wr0 hn hs g1
        rw [sa] at g2
        rw [if_pos g2] at w
        rw [w, if_neg (show ¬ (2 : Int32) ≤ 0 by decide)]
        exact ⟨rfl, fun q => absurd q (by decide), by rw [hu]; exact hZ⟩
      · exact absurd e (by decide)
    · rcases hp with ⟨e, -⟩ | ⟨e, -⟩ | ⟨-, g1, g2, g3⟩
      · exact absurd e (by decide)
      · exact absurd e (by decide)
      · obtain ⟨a, ha, ea, na, sa, w, -, ca⟩ := p_wr0 hn hs g1
        rw [sa] at g2
        rw [if_neg g2] at w
        rw [w, if_pos (show (0 : Int32) ≤ 0 by decide), if_pos g3]
        exact ⟨rfl, fun q => absurd q (by decide), by rw [hu]; exact hZ⟩
theorem p_o_outputAt {so le gr ne si ou bo : Nat → Int32} {n om ob : Nat} {cs : Nat → Nat → Nat} {gs : Nat → KH} {made pl kp : Nat} {ro : Nat → Int64} {wo : Int32} {lv : Nat → Int32} {e0 : KE} {c : KC} {cp : Nat → Int32} {cn : Nat} {rm : Nat → Int64} {kn : Int32} (p0 : Int32) (hZ : p_Z ((so, le, gr, ne, si, ou, bo, n, om, ob), (cs, gs, made, pl, kp), ro, wo, lv, e0) c cp cn rm kn) {k : Int32} {u : (Nat → Int64) × XV} (h : x_wrap Int32.toInt64 ["java/lang/IndexOutOfBoundsException"] (fun (r : Int32) u => ¬ p0 < 0 ∧ ¬ nI om ≤ p0 ∧ ((k_cat 40 bo p0 = 1 ∧ r = -1) ∨ (¬ k_cat 40 bo p0 = 1 ∧ r = k_cat 40 ou p0)) ∧ u = ((so, le, gr, ne, si, ou, bo, n, om, ob), (cs, gs, made, pl, kp), ro, wo, lv, e0)) (fun E => E = "java/lang/IndexOutOfBoundsException" ∧ (p0 < 0 ∨ nI om ≤ p0)) ((so, le, gr, ne, si, ou, bo, n, om, ob), (cs, gs, made, pl, kp), ro, wo, lv, e0) k u) : p_res2 k (u.1 0) u.2 c cp cn rm kn (m_outputAt c p0) := by
  obtain ⟨rfl, rfl, hN, hO, hI⟩ := p_Zo hZ
  have ho := hI.1.2.2.1
  unfold m_outputAt
  rcases h with ⟨rfl, r, hr, g1, g2, hp, hu⟩ | ⟨i, E, he, rfl, ⟨-, hp⟩, hu⟩
  · obtain ⟨a, ha, rfl⟩ := nI_of g1
    have ha2 : a < moc c := Nat.lt_of_not_le (fun q => g2 ((nI_leI (by omega) (by omega)).mpr q))
    obtain ⟨e1, e2⟩ := hO.1 a ha2
    rw [p_cat (by omega) (by omega), p_cat (by omega) (by omega), e1, e2] at hp
    rw [if_neg g1, if_neg g2, nI_clamp ha]
    rcases hp with ⟨q1, q2⟩ | ⟨q1, q2⟩
    · rw [q1, if_neg (show ¬ (1 : Int32) = 0 by decide)]
      exact ⟨rfl, fun _ => by rw [hr, q2], by rw [hu]; exact hZ⟩
    · rcases hI.2.2.2.2.2.2.1 a ha2 with z | z
      · rw [if_pos z]; exact ⟨rfl, fun _ => by rw [hr, q2], by rw [hu]; exact hZ⟩
      · exact absurd z q1
  · obtain ⟨rfl, rfl⟩ := p_ex1 he
    by_cases z : p0 < 0
    · rw [if_pos z]; exact ⟨rfl, fun q => absurd q (by decide), by rw [hu]; exact hZ⟩
    · rw [if_neg z, if_pos (hp.resolve_left z)]; exact ⟨rfl, fun q => absurd q (by decide), by rw [hu]; exact hZ⟩
theorem p_o_latch {so le gr ne si ou bo : Nat → Int32} {n om ob : Nat} {cs : Nat → Nat → Nat} {gs : Nat → KH} {made pl kp : Nat} {ro : Nat → Int64} {wo : Int32} {lv : Nat → Int32} {e0 : KE} {c : KC} {cp : Nat → Int32} {cn : Nat} {rm : Nat → Int64} {kn : Int32} (p0 : Int32) (hZ : p_Z ((so, le, gr, ne, si, ou, bo, n, om, ob), (cs, gs, made, pl, kp), ro, wo, lv, e0) c cp cn rm kn) {k : Int32} {u : (Nat → Int64) × XV} (h : x_wrap Int32.toInt64 ["java/lang/IllegalArgumentException", "java/lang/UnsupportedOperationException"] (fun (r : Int32) u => (p0 = 0 ∨ p0 = 1) ∧ n + 1 ≤ 400 ∧ r = k_litOf (nI n) ∧ x_chg ((so, le, gr, ne, si, ou, bo, n, om, ob), (cs, gs, made, pl, kp), ro, wo, lv, e0) (k_cpt 400 so (nI n) 3, k_cpt 400 le (nI n) (-1), k_cpt 400 gr (nI n) (-1), k_cpt 400 (k_cpt 400 ne (nI n) (-1)) (nI n) 0, k_cpt 400 si (nI n) (-1), ou, bo, n + 1, om, ob) e0 u) (fun E => (E = "java/lang/IllegalArgumentException" ∧ ¬ p0 = 0 ∧ ¬ p0 = 1) ∨ (E = "java/lang/UnsupportedOperationException" ∧ (p0 = 0 ∨ p0 = 1) ∧ 400 < n + 1)) ((so, le, gr, ne, si, ou, bo, n, om, ob), (cs, gs, made, pl, kp), ro, wo, lv, e0) k u) : p_res k (u.1 0) u.2 rm (m_latch c cp cn kn p0) := by
  obtain ⟨rfl, rfl, hN, hO, hI⟩ := p_Zo hZ
  have hn := hI.1.2.1
  unfold m_latch
  rcases h with ⟨rfl, r, hr, g1, h1, rfl, hc⟩ | ⟨i, E, he, rfl, hp, hu⟩
  · rw [p_cpt (by omega) (by omega), p_cpt (by omega) (by omega), p_cpt (by omega) (by omega), p_cpt (by omega) (by omega), p_cpt (by omega) (by omega), p_cpt (by omega) (by omega)] at hc
    have uu : upd (upd ne (mnd c) (-1)) (mnd c) 0 = upd ne (mnd c) 0 := by
      funext j
      rw [p_upd, p_upd, p_upd]
      by_cases e : j = mnd c
      · rw [if_pos e, if_pos e]
      · rw [if_neg e, if_neg e, if_neg e]
    rw [uu] at hc
    have key : p_res 0 (u.1 0) u.2 rm (nI (2 * mnd c), m_sv c (m_new 3 0 0 c) cp cn) := ⟨rfl, fun _ => by rw [hr, p_lito (by omega)], p_keepZ (c' := m_new 3 0 0 c) hZ hc ⟨rfl, rfl, p_newR hN (by omega) rfl rfl rfl, hO⟩ (p_newI hI (by omega) (by decide) (by omega) (by omega) (fun q => absurd q (by decide)) (fun _ => ⟨by have := hI.1.1; omega, by show mso c 0 ≠ 5; rw [hI.1.2.2.2]; decide⟩))⟩
    by_cases z : p0 = 0
    · rw [if_pos z, if_neg (show ¬ mnd c = 400 by omega)]; exact key
    · rw [if_neg z, if_pos (g1.resolve_left z), if_neg (show ¬ mnd c = 400 by omega)]; exact key
  · rcases p_ex2 he with ⟨rfl, rfl⟩ | ⟨rfl, rfl⟩
    · rcases hp with ⟨-, q1, q2⟩ | ⟨e, -⟩
      · rw [if_neg q1, if_neg q2]; exact ⟨rfl, fun q => absurd q (by decide), by rw [hu]; exact hZ⟩
      · exact absurd e (by decide)
    · rcases hp with ⟨e, -⟩ | ⟨-, q1, q2⟩
      · exact absurd e (by decide)
      · by_cases z : p0 = 0
        · rw [if_pos z, if_pos (show mnd c = 400 by omega)]; exact ⟨rfl, fun q => absurd q (by decide), by rw [hu]; exact hZ⟩
        · rw [if_neg z, if_pos (q1.resolve_left z), if_pos (show mnd c = 400 by omega)]; exact ⟨rfl, fun q => absurd q (by decide), by rw [hu]; exact hZ⟩
def p_resb (k : Int32) (o : Int64) (u : XV) (rm : Nat → Int64) (R : Int32 × KX) : Prop := R.2.1 = k ∧ (k = 0 → o = (if R.1 = 0 then 0 else 1)) ∧ p_Z u R.2.2.1 R.2.2.2.1 R.2.2.2.2.1 rm R.2.2.2.2.2
theorem p_oneI {c : KC} {a b : Nat} (h : p_I c) (ha : a < mnd c) (h3 : mso c a = 3) (hb : p_lit c b) : p_I (m_one a b c) := by
  obtain ⟨⟨i1, i2, i3, i4⟩, i5, i6, i7, i8, i9, i10, r, hr0, hr⟩ := h
  have e2 : ∀ j, mon (m_one a b c) j = if j = a then b else mon c j := fun j => rfl
  refine ⟨⟨i1, i2, i3, i4⟩, fun j hj => ?_, fun j hj q => ?_, fun j hj q => ?_, i8, i9, i10, r, hr0, fun j hj q => ?_⟩
  · rw [e2]
    have := i5 j hj
    have b1 := hb.1
    refine ⟨?_, this.2⟩
    split <;> omega
  · have q : mso c j = 2 := q
    rw [e2, if_neg (fun e => by rw [e, h3] at q; exact absurd q (by decide))]
    exact i6 j hj q
  · rw [e2]
    by_cases e : j = a
    · rw [if_pos e]; exact hb
    · rw [if_neg e]; exact i7 j hj q
  · have q : mso c j = 2 := q
    rw [e2, if_neg (fun e => by rw [e, h3] at q; exact absurd q (by decide))]
    exact hr j hj q
theorem p_oneR {c : KC} {a b : Nat} {so le gr ne si : Nat → Int32} (h : p_RN so le gr ne si c) (h3 : mso c a = 3) : p_RN so le gr (upd ne a (nI b)) si (m_one a b c) := by
  intro j hj
  obtain ⟨a1, a2, a3, a4, a5⟩ := h j hj
  have e2 : mon (m_one a b c) j = if j = a then b else mon c j := rfl
  rw [e2, p_upd]
  by_cases e : j = a
  · have n2 : ¬ mso c j = 2 := by rw [e, h3]; decide
    have n3 : mso c j = 3 := by rw [e]; exact h3
    rw [if_neg n2] at a3
    refine ⟨a1, a2, ?_, a4, ?_⟩
    · show le j = if mso c j = 2 then _ else -1
      rw [if_neg n2]; exact a3
    · show _ = if mso c j = 3 then _ else -1
      rw [if_pos n3, if_pos e, if_pos e]
  · rw [if_neg e, if_neg e]; exact ⟨a1, a2, a3, a4, a5⟩
theorem p_o_next {so le gr ne si ou bo : Nat → Int32} {n om ob : Nat} {cs : Nat → Nat → Nat} {gs : Nat → KH} {made pl kp : Nat} {ro : Nat → Int64} {wo : Int32} {lv : Nat → Int32} {e0 : KE} {c : KC} {cp : Nat → Int32} {cn : Nat} {rm : Nat → Int64} {kn : Int32} (p0 p1 : Int32) (hZ : p_Z ((so, le, gr, ne, si, ou, bo, n, om, ob), (cs, gs, made, pl, kp), ro, wo, lv, e0) c cp cn rm kn) {k : Int32} {u : (Nat → Int64) × XV} (h : x_wrap (fun r : Int32 => if r = 0 then 0 else 1) ["java/lang/IndexOutOfBoundsException", "java/lang/IllegalArgumentException"] (fun (r : Int32) u => x_yl n p0 ∧ x_yl n p1 ∧ k_cat 400 so (k_nodeOf p0) = 3 ∧ ¬ k_cat 400 so (k_nodeOf p1) = 5 ∧ ((k_cat 400 ne (k_nodeOf p0) = p1 ∧ r = 0 ∧ u = ((so, le, gr, ne, si, ou, bo, n, om, ob), (cs, gs, made, pl, kp), ro, wo, lv, e0)) ∨ (¬ k_cat 400 ne (k_nodeOf p0) = p1 ∧ r = 1 ∧ x_chg ((so, le, gr, ne, si, ou, bo, n, om, ob), (cs, gs, made, pl, kp), ro, wo, lv, e0) (so, le, gr, k_cpt 400 ne (k_nodeOf p0) p1, si, ou, bo, n, om, ob) e0 u))) (fun E => (E = "java/lang/IndexOutOfBoundsException" ∧ (x_nl n p0 ∨ x_nl n p1)) ∨ (E = "java/lang/IllegalArgumentException" ∧ x_yl n p0 ∧ x_yl n p1 ∧ (¬ k_cat 400 so (k_nodeOf p0) = 3 ∨ k_cat 400 so (k_nodeOf p1) = 5))) ((so, le, gr, ne, si, ou, bo, n, om, ob), (cs, gs, made, pl, kp), ro, wo, lv, e0) k u) : p_resb k (u.1 0) u.2 rm (m_next c cp cn kn p0 p1) := by
  obtain ⟨rfl, rfl, hN, hO, hI⟩ := p_Zo hZ
  have hn := hI.1.2.1
  have hs : ∀ j, j < mnd c → so j = mso c j := fun j hj => (hN j hj).1
  have n1 : ¬ (0 : Int32) = 1 := by decide
  have n2 : ¬ (2 : Int32) = 1 := by decide
  unfold m_next
  rcases h with ⟨rfl, r, hr, g1, g2, g3, g4, hp⟩ | ⟨i, E, he, rfl, hp, hu⟩
  · obtain ⟨a, ha, ea, na, sa, -, wa, ca⟩ := p_wr0 hn hs g1
    obtain ⟨b, hb, eb, nb, sb, wb, -, cb⟩ := p_wr0 hn hs g2
    rw [sa] at g3
    rw [sb] at g4
    rw [if_pos g3] at wa
    rw [if_neg g4] at wb
    have e5 := (hN (a / 2) (by omega)).2.2.2.2
    rw [if_pos g3] at e5
    have b8 := (hI.2.1 (a / 2) (by omega)).1
    rw [na, p_cat (by omega) (by omega), e5, eb] at hp
    rw [wa, wb, if_neg n1, if_neg n1, if_neg (show ¬ (0 : Int32) < 0 by decide), if_pos (show (0 : Int32) ≤ 0 by decide), ca, cb]
    rcases hp with ⟨q1, rfl, q3⟩ | ⟨q1, rfl, hc⟩
    · rw [if_pos ((nI_eq (by omega) (by omega)).mp q1)]
      exact ⟨rfl, fun _ => hr, by rw [q3]; exact hZ⟩
    · rw [if_neg (fun q => q1 (by rw [q]))]
      rw [p_cpt (by omega) (by omega)] at hc
      exact ⟨rfl, fun _ => hr, p_keepZ (c' := m_one (a / 2) b c) hZ hc ⟨rfl, rfl, p_oneR hN g3, hO⟩ (p_oneI hI (by omega) g3 ⟨hb, g4⟩)⟩
  · rcases p_ex2 he with ⟨rfl, rfl⟩ | ⟨rfl, rfl⟩
    · rcases hp with ⟨-, hp⟩ | ⟨e, -⟩
      · by_cases z : m_wl c p0 = 1
        · rw [if_pos z]; exact ⟨rfl, fun q => absurd q (by decide), by rw [hu]; exact hZ⟩
        · rw [if_neg z, if_pos (p_wr1 hn hs (hp.resolve_left (fun q => z (p_wr1 hn hs q).2))).1]
          exact ⟨rfl, fun q => absurd q (by decide), by rw [hu]; exact hZ⟩
      · exact absurd e (by decide)
    · rcases hp with ⟨e, -⟩ | ⟨-, g1, g2, hp⟩
      · exact absurd e (by decide)
      · obtain ⟨a, ha, ea, na, sa, -, wa, ca⟩ := p_wr0 hn hs g1
        obtain ⟨b, hb, eb, nb, sb, wb, -, cb⟩ := p_wr0 hn hs g2
        rw [sa, sb] at hp
        have x0 : ¬ m_wl c p0 = 1 := by rw [wa]; split <;> decide
        have x1 : ¬ m_wrong c p1 = 1 := by rw [wb]; split <;> decide
        rw [if_neg x0, if_neg x1]
        by_cases z : mso c (a / 2) = 3
        · rw [if_pos z] at wa
          rw [if_pos (hp.resolve_left (fun q => q z))] at wb
          rw [wa, wb, if_neg (show ¬ (0 : Int32) < 0 by decide), if_neg (show ¬ (2 : Int32) ≤ 0 by decide)]
          exact ⟨rfl, fun q => absurd q (by decide), by rw [hu]; exact hZ⟩
        · rw [if_neg z] at wa
          rw [wa, if_pos (show (0 : Int32) < 2 by decide)]
          exact ⟨rfl, fun q => absurd q (by decide), by rw [hu]; exact hZ⟩
theorem p_o_nextOf {so le gr ne si ou bo : Nat → Int32} {n om ob : Nat} {cs : Nat → Nat → Nat} {gs : Nat → KH} {made pl kp : Nat} {ro : Nat → Int64} {wo : Int32} {lv : Nat → Int32} {e0 : KE} {c : KC} {cp : Nat → Int32} {cn : Nat} {rm : Nat → Int64} {kn : Int32} (p0 : Int32) (hZ : p_Z ((so, le, gr, ne, si, ou, bo, n, om, ob), (cs, gs, made, pl, kp), ro, wo, lv, e0) c cp cn rm kn) {k : Int32} {u : (Nat → Int64) × XV} (h : x_wrap Int32.toInt64 ["java/lang/IndexOutOfBoundsException", "java/lang/IllegalArgumentException"] (fun (r : Int32) u => x_yl n p0 ∧ k_cat 400 so (k_nodeOf p0) = 3 ∧ r = k_cat 400 ne (k_nodeOf p0) ∧ u = ((so, le, gr, ne, si, ou, bo, n, om, ob), (cs, gs, made, pl, kp), ro, wo, lv, e0)) (fun E => (E = "java/lang/IndexOutOfBoundsException" ∧ x_nl n p0) ∨ (E = "java/lang/IllegalArgumentException" ∧ x_yl n p0 ∧ ¬ k_cat 400 so (k_nodeOf p0) = 3)) ((so, le, gr, ne, si, ou, bo, n, om, ob), (cs, gs, made, pl, kp), ro, wo, lv, e0) k u) : p_res2 k (u.1 0) u.2 c cp cn rm kn (m_nextOf c p0) := by
  obtain ⟨rfl, rfl, hN, hO, hI⟩ := p_Zo hZ
  have hn := hI.1.2.1
  have hs : ∀ j, j < mnd c → so j = mso c j := fun j hj => (hN j hj).1
  unfold m_nextOf
  rcases h with ⟨rfl, r, hr, g1, g3, rfl, hu⟩ | ⟨i, E, he, rfl, hp, hu⟩
  · obtain ⟨a, ha, ea, na, sa, -, wa, ca⟩ := p_wr0 hn hs g1
    rw [sa] at g3
    rw [if_pos g3] at wa
    have e5 := (hN (a / 2) (by omega)).2.2.2.2
    rw [if_pos g3] at e5
    rw [na, p_cat (by omega) (by omega), e5] at hr
    rw [wa, if_pos (show (0 : Int32) ≤ 0 by decide), ca]
    exact ⟨rfl, fun _ => hr, by rw [hu]; exact hZ⟩
  · rcases p_ex2 he with ⟨rfl, rfl⟩ | ⟨rfl, rfl⟩
    · rcases hp with ⟨-, hp⟩ | ⟨e, -⟩
      · rw [(p_wr1 hn hs hp).2, if_neg (show ¬ (1 : Int32) ≤ 0 by decide)]
        exact ⟨rfl, fun q => absurd q (by decide), by rw [hu]; exact hZ⟩
      · exact absurd e (by decide)
    · rcases hp with ⟨e, -⟩ | ⟨-, g1, g2⟩
      · exact absurd e (by decide)
      · obtain ⟨a, ha, ea, na, sa, -, wa, ca⟩ := p_wr0 hn hs g1
        rw [sa] at g2
        rw [if_neg g2] at wa
        rw [wa, if_neg (show ¬ (2 : Int32) ≤ 0 by decide)]
        exact ⟨rfl, fun q => absurd q (by decide), by rw [hu]; exact hZ⟩
