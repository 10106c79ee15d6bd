/-! PURE, eighth: both sides' calls, second half -/
theorem p_fr {c : KC} {ou bo : Nat → Int32} {ob : Nat} (h : p_RO ou bo ob c) : ∀ k i, i + k = moc c → i ≤ moc c - ob → m_fr c k i = moc c - ob := by
  obtain ⟨h1, h2, h3, h4⟩ := h
  intro k
  induction k with
  | zero => intro i hi hl; rw [m_fr]; omega
  | succ k ih =>
    intro i hi hl
    rw [m_fr]
    by_cases q : i < moc c - ob
    · rw [if_pos (h2 _ (by omega) (by omega)), ih (i + 1) (by omega) (by omega)]
    · have e := h3 (by omega)
      rw [show moc c - 1 - i = ob - 1 by omega, e, if_neg (by decide)]
      omega
theorem p_bxcI {c : KC} {a : Nat} (h : p_I c) : p_I (m_bxc a c) := by
  obtain ⟨i1, i5, i6, i7, i8, i9, i10, i11⟩ := h
  refine ⟨i1, i5, i6, i7, i8, i9, fun k hk => ?_, i11⟩
  show m_bxl (mbo c) (moc c) a k = 0 ∨ m_bxl (mbo c) (moc c) a k = 1
  unfold m_bxl
  split
  · exact Or.inr rfl
  · exact i10 k hk
theorem p_bxcR {c : KC} {ou bo : Nat → Int32} {ob a : Nat} (h : p_RO ou bo ob c) (ha : a ≤ moc c - ob) : p_RO ou (k_bx bo (moc c - a) (moc c)) (if 0 < a then moc c else ob) (m_bxc a c) := by
  obtain ⟨h1, h2, h3, h4⟩ := h
  refine ⟨fun k hk => ?_, fun k q hk => ?_, fun q => ?_, ?_⟩
  · have hk : k < moc c := hk
    obtain ⟨e1, e2⟩ := h1 k hk
    refine ⟨e1, ?_⟩
    show k_bx bo (moc c - a) (moc c) k = m_bxl (mbo c) (moc c) a k
    unfold k_bx m_bxl
    by_cases z : moc c - a ≤ k ∧ k < moc c
    · rw [if_pos z, if_pos z]
    · rw [if_neg z, if_neg z, e2]
  · have hk : k < moc c := hk
    show m_bxl (mbo c) (moc c) a k = 0
    unfold m_bxl
    by_cases z : 0 < a
    · rw [if_pos z] at q; omega
    · rw [if_neg z] at q
      rw [if_neg (by omega)]; exact h2 k q hk
  · show m_bxl (mbo c) (moc c) a (_ - 1) = 1
    unfold m_bxl
    by_cases z : 0 < a
    · rw [if_pos z] at q ⊢
      rw [if_pos (by omega)]
    · rw [if_neg z] at q ⊢
      rw [if_neg (by omega)]; exact h3 q
  · show (if 0 < a then moc c else ob) ≤ moc c
    split
    · exact Nat.le_refl _
    · exact h4
theorem p_olt {d : KC} {so le gr ne si ou bo : Nat → Int32} {ob : Nat} (hI : p_I d) (hN : p_RN so le gr ne si d) (hO : p_RO ou bo ob d) : ∀ i, mnd d + i ≤ 400 → p_I (m_olt d i) ∧ p_RN (x_adf so 4 (mnd d) i) (x_adf le (-1) (mnd d) i) (x_adf gr (-1) (mnd d) i) (x_adf ne (-1) (mnd d) i) (x_adf si (-1) (mnd d) i) (m_olt d i) ∧ p_RO ou bo ob (m_olt d i) := by
  intro i
  induction i with
  | zero => intro _; exact ⟨hI, hN, hO⟩
  | succ i ih =>
    intro hi
    obtain ⟨a1, a2, a3⟩ := ih (by omega)
    have e := m_olt_nd d i
    refine ⟨p_newI a1 (by omega) (by decide) (by omega) (by omega) (fun q => absurd q (by decide)) (fun q => absurd q (by decide)), ?_, a3⟩
    have st := p_newR (c := m_olt d i) (z := 4) (x := -1) (y := -1) (w := -1) (a := 0) (b := 0) a2 (by omega) rfl rfl rfl
    rw [e] at st
    show p_RN (k_cpt 400 (x_adf so 4 (mnd d) i) (nI (mnd d + i)) 4) (k_cpt 400 (x_adf le (-1) (mnd d) i) (nI (mnd d + i)) (-1)) (k_cpt 400 (x_adf gr (-1) (mnd d) i) (nI (mnd d + i)) (-1)) (k_cpt 400 (x_adf ne (-1) (mnd d) i) (nI (mnd d + i)) (-1)) (k_cpt 400 (x_adf si (-1) (mnd d) i) (nI (mnd d + i)) (-1)) (m_olt d (i + 1))
    rw [p_cpt (by omega) (by omega), p_cpt (by omega) (by omega), p_cpt (by omega) (by omega), p_cpt (by omega) (by omega), p_cpt (by omega) (by omega)]
    exact st
theorem p_o_box {so le gr ne si ou bo : Nat → Int32} {n om ob : Nat} {cs : Nat → Nat → Nat} {gs : Nat → KH} {made pl kp : Nat} {ro : Nat → Int64} {wo : Int32} {lv : Nat → Int32} {e0 : KE} {c : KC} {cp : Nat → Int32} {cn : Nat} {rm : Nat → Int64} {kn : Int32} (p0 p1 : Int32) (hZ : p_Z ((so, le, gr, ne, si, ou, bo, n, om, ob), (cs, gs, made, pl, kp), ro, wo, lv, e0) c cp cn rm kn) {k : Int32} {u : (Nat → Int64) × XV} (h : x_wrap Int32.toInt64 ["java/lang/IllegalArgumentException", "java/lang/UnsupportedOperationException"] (fun (r : Int32) u => ∃ aa bb : Nat, p0 = nI aa ∧ p1 = nI bb ∧ aa ≤ om - ob ∧ 1 ≤ bb ∧ bb ≤ 20 ∧ n + bb ≤ 400 ∧ r = k_litOf (nI n) ∧ x_chg ((so, le, gr, ne, si, ou, bo, n, om, ob), (cs, gs, made, pl, kp), ro, wo, lv, e0) (x_adf so 4 n bb, x_adf le (-1) n bb, x_adf gr (-1) n bb, x_adf ne (-1) n bb, x_adf si (-1) n bb, ou, k_bx bo (om - aa) om, n + bb, om, if 0 < aa then om else ob) e0 u) (fun E => (E = "java/lang/IllegalArgumentException" ∧ ((p0 < 0 ∨ ¬ p0 ≤ nI (om - ob)) ∨ (p1 < 1 ∨ ¬ p1 ≤ 20))) ∨ (E = "java/lang/UnsupportedOperationException" ∧ ∃ aa bb : Nat, p0 = nI aa ∧ p1 = nI bb ∧ aa ≤ om - ob ∧ 1 ≤ bb ∧ bb ≤ 20 ∧ 400 < n + bb)) ((so, le, gr, ne, si, ou, bo, n, om, ob), (cs, gs, made, pl, kp), ro, wo, lv, e0) k u) : p_res k (u.1 0) u.2 rm (m_box c cp cn kn p0 p1) := by
  obtain ⟨rfl, rfl, hN, hO, hI⟩ := p_Zo hZ
  have hn := hI.1.2.1
  have ho := hI.1.2.2.1
  have ef : m_fr c (moc c) 0 = moc c - ob := p_fr hO (moc c) 0 (by omega) (by omega)
  unfold m_box
  rw [ef]
  rcases h with ⟨rfl, r, hr, a, b, rfl, rfl, h1, h2, h3, h4, rfl, hc⟩ | ⟨i, E, he, rfl, hp, hu⟩
  · have b1 : ¬ nI b < 1 := fun q => absurd ((nI_ltI (a := b) (b := 1) (by omega) (by omega)).mp q) (by omega)
    have b2 : nI b ≤ 20 := (nI_leI (a := b) (b := 20) (by omega) (by omega)).mpr h3
    rw [if_neg (nI_pos (by omega)), if_neg (fun q => absurd ((nI_ltI (by omega) (by omega)).mp q) (by omega)), if_neg b1, if_pos b2, nI_clamp (by omega), nI_clamp (by omega), if_pos h4]
    obtain ⟨a1, a2, a3⟩ := p_olt (d := m_bxc a c) (p_bxcI hI) hN (p_bxcR hO h1) b h4
    exact ⟨rfl, fun _ => by rw [hr, p_lito (by omega)], p_keepZ (c' := m_olt (m_bxc a c) b) hZ hc ⟨(m_olt_nd (m_bxc a c) b).symm, (m_olt_oc (m_bxc a c) b).symm, a2, a3⟩ a1⟩
  · rcases p_ex2 he with ⟨rfl, rfl⟩ | ⟨rfl, rfl⟩
    · rcases hp with ⟨-, hp⟩ | ⟨e, -⟩
      · have key : ∀ (x : Int32 × KX), x = (0, 1, c, cp, cn, kn) → p_res (nI (0 + 1)) (u.1 0) u.2 rm x := fun x hx => by rw [hx]; exact ⟨rfl, fun q => absurd q (by decide), by rw [hu]; exact hZ⟩
        refine key _ ?_
        by_cases z0 : p0 < 0
        · rw [if_pos z0]
        rw [if_neg z0]
        by_cases z1 : nI (moc c - ob) < p0
        · rw [if_pos z1]
        rw [if_neg z1]
        by_cases z2 : p1 < 1
        · rw [if_pos z2]
        rw [if_neg z2]
        by_cases z3 : p1 ≤ 20
        · exfalso
          rcases hp with (q | q) | (q | q)
          · exact z0 q
          · exact q (Int32.not_lt.mp z1)
          · exact z2 q
          · exact q z3
        · rw [if_neg z3]
      · exact absurd e (by decide)
    · rcases hp with ⟨e, -⟩ | ⟨-, a, b, rfl, rfl, h1, h2, h3, h4⟩
      · exact absurd e (by decide)
      · have b1 : ¬ nI b < 1 := fun q => absurd ((nI_ltI (a := b) (b := 1) (by omega) (by omega)).mp q) (by omega)
        have b2 : nI b ≤ 20 := (nI_leI (a := b) (b := 20) (by omega) (by omega)).mpr h3
        rw [if_neg (nI_pos (by omega)), if_neg (fun q => absurd ((nI_ltI (by omega) (by omega)).mp q) (by omega)), if_neg b1, if_pos b2, nI_clamp (by omega), nI_clamp (by omega), if_neg (show ¬ mnd c + b ≤ 400 by omega)]
        exact ⟨rfl, fun q => absurd q (by decide), by rw [hu]; exact hZ⟩
def p_resl (k : Int32) (o : Int64) (u : XV) (c : KC) (cp : Nat → Int32) (cn : Nat) (rm : Nat → Int64) (kn : Int32) (R : Int64 × Int32) : Prop := R.2 = k ∧ (k = 0 → o = R.1) ∧ p_Z u c cp cn rm kn
def p_resv (k : Int32) (o : Int64) (u : XV) (c : KC) (cp : Nat → Int32) (cn : Nat) (rm : Nat → Int64) (kn : Int32) (R : Int32 × Int32 × (Nat → Int32)) : Prop := R.2.1 = k ∧ (k = 0 → o = Int32.toInt64 R.1) ∧ p_Z u c cp cn rm kn
theorem p_nodI {c : KC} (h : p_I c) : p_nod c := fun j hj q => ⟨by have := (h.2.2.1 j hj q).1.1; omega, by have := (h.2.2.1 j hj q).2.1.1; omega⟩
theorem p_FI {c : KC} {so le gr ne si : Nat → Int32} (h : p_RN so le gr ne si c) : ∀ j, j < mnd c → so j = mso c j ∧ (mso c j = 2 → le j = nI (mon c j) ∧ gr j = nI (mtw c j)) := fun j hj => by
  obtain ⟨a1, a2, a3, a4, a5⟩ := h j hj
  refine ⟨a1, fun q => ?_⟩
  rw [if_pos q] at a3 a4
  exact ⟨a3, a4⟩
theorem p_lvZ {c : KC} {so le gr ne si lv lw : Nat → Int32} (hI : p_I c) (hN : p_RN so le gr ne si c) : (∀ j, j < mnd c → k_lw so le gr (mnd c) 400 1 (k_fillF lv 0 400) j = m_lvF 400 c lw j) ∧ ∀ j, mnd c ≤ j → j < 400 → k_lw so le gr (mnd c) 400 1 (k_fillF lv 0 400) j = 0 := by
  have hn := hI.1.2.1
  obtain ⟨a1, a2⟩ := p_lw hn (p_nodI hI) (p_FI hN) 400 1 (k_fillF lv 0 400) (k_fillF lw 0 (mnd c)) (fun j hj => by unfold k_fillF; rw [if_pos hj, if_pos (by omega)])
  refine ⟨a1, fun j hj hj4 => (a2 j hj).trans ?_⟩
  unfold k_fillF
  rw [if_pos hj4]
theorem p_o_row {so le gr ne si ou bo : Nat → Int32} {n om ob : Nat} {cs : Nat → Nat → Nat} {gs : Nat → KH} {made pl kp : Nat} {ro : Nat → Int64} {wo : Int32} {lv : Nat → Int32} {e0 : KE} {c : KC} {cp : Nat → Int32} {cn : Nat} {rm : Nat → Int64} {kn : Int32} (p0 : Int32) (hZ : p_Z ((so, le, gr, ne, si, ou, bo, n, om, ob), (cs, gs, made, pl, kp), ro, wo, lv, e0) c cp cn rm kn) {k : Int32} {u : (Nat → Int64) × XV} (h : x_wrap id ["java/lang/IndexOutOfBoundsException", "java/lang/IllegalStateException", "java/lang/IllegalArgumentException"] (fun (r : Int64) u => x_yn n p0 ∧ ¬ wo = 0 ∧ ¬ k_cat 400 so p0 = 5 ∧ r = k_catJ 400 ro p0 ∧ u = ((so, le, gr, ne, si, ou, bo, n, om, ob), (cs, gs, made, pl, kp), ro, wo, lv, e0)) (fun E => (E = "java/lang/IndexOutOfBoundsException" ∧ x_nn n p0) ∨ (E = "java/lang/IllegalStateException" ∧ x_yn n p0 ∧ wo = 0) ∨ (E = "java/lang/IllegalArgumentException" ∧ x_yn n p0 ∧ ¬ wo = 0 ∧ k_cat 400 so p0 = 5)) ((so, le, gr, ne, si, ou, bo, n, om, ob), (cs, gs, made, pl, kp), ro, wo, lv, e0) k u) : p_resl k (u.1 0) u.2 c cp cn rm kn (m_row c kn rm p0) := by
  obtain ⟨rfl, rfl, hN, hO, hI⟩ := p_Zo hZ
  have hn := hI.1.2.1
  have hwo : wo = kn := hZ.2.2.2.1
  subst hwo
  unfold m_row
  rcases h with ⟨rfl, r, hr, g1, g2, g3, rfl, hu⟩ | ⟨i, E, he, rfl, hp, hu⟩
  · rcases p_nd hn p0 with q | ⟨a, ha, rfl, -, w, ca⟩
    · exact (p_nnx q.1 g1).elim
    rw [p_cat (by omega) (by omega), (hN a ha).1] at g3
    rw [if_neg w, if_neg g2, ca, if_neg g3]
    have e : ro a = rm a := hZ.2.2.2.2.2 (hZ.2.2.2.2.1.resolve_left g2) a ha
    rw [p_catJ (by omega), e] at hr
    exact ⟨rfl, fun _ => hr, by rw [hu]; exact hZ⟩
  · rcases p_ex3 he with ⟨rfl, rfl⟩ | ⟨rfl, rfl⟩ | ⟨rfl, rfl⟩
    · rcases hp with ⟨-, hp⟩ | ⟨e, -⟩ | ⟨e, -⟩
      · rcases p_nd hn p0 with q | ⟨a, ha, ea, y, w, ca⟩
        · rw [if_pos q.2]; exact ⟨rfl, fun q => absurd q (by decide), by rw [hu]; exact hZ⟩
        · exact (p_nnx hp y).elim
      · exact absurd e (by decide)
      · exact absurd e (by decide)
    · rcases hp with ⟨e, -⟩ | ⟨-, g1, g2⟩ | ⟨e, -⟩
      · exact absurd e (by decide)
      · rcases p_nd hn p0 with q | ⟨a, ha, ea, y, w, ca⟩
        · exact (p_nnx q.1 g1).elim
        · rw [if_neg w, if_pos g2]; exact ⟨rfl, fun q => absurd q (by decide), by rw [hu]; exact hZ⟩
      · exact absurd e (by decide)
    · rcases hp with ⟨e, -⟩ | ⟨e, -⟩ | ⟨-, g1, g2, g3⟩
      · exact absurd e (by decide)
      · exact absurd e (by decide)
      · rcases p_nd hn p0 with q | ⟨a, ha, rfl, y, w, ca⟩
        · exact (p_nnx q.1 g1).elim
        · rw [p_cat (by omega) (by omega), (hN a ha).1] at g3
          rw [if_neg w, if_neg g2, ca, if_pos g3]; exact ⟨rfl, fun q => absurd q (by decide), by rw [hu]; exact hZ⟩
theorem p_o_level {so le gr ne si ou bo : Nat → Int32} {n om ob : Nat} {cs : Nat → Nat → Nat} {gs : Nat → KH} {made pl kp : Nat} {ro : Nat → Int64} {wo : Int32} {lv : Nat → Int32} {e0 : KE} {c : KC} {cp : Nat → Int32} {cn : Nat} {rm : Nat → Int64} {kn : Int32} (p0 : Int32) (hZ : p_Z ((so, le, gr, ne, si, ou, bo, n, om, ob), (cs, gs, made, pl, kp), ro, wo, lv, e0) c cp cn rm kn) {k : Int32} {u : (Nat → Int64) × XV} (lw : Nat → Int32) (h : x_wrap Int32.toInt64 ["java/lang/IndexOutOfBoundsException", "java/lang/IllegalArgumentException"] (fun (r : Int32) u => x_yn n p0 ∧ ¬ k_cat 400 so p0 = 5 ∧ r = k_cat 400 (k_lw so le gr n 400 1 (k_fillF lv 0 400)) p0 ∧ u = ((so, le, gr, ne, si, ou, bo, n, om, ob), (cs, gs, made, pl, kp), ro, wo, k_lw so le gr n 400 1 (k_fillF lv 0 400), e0)) (fun E => (E = "java/lang/IndexOutOfBoundsException" ∧ x_nn n p0) ∨ (E = "java/lang/IllegalArgumentException" ∧ x_yn n p0 ∧ k_cat 400 so p0 = 5)) ((so, le, gr, ne, si, ou, bo, n, om, ob), (cs, gs, made, pl, kp), ro, wo, lv, e0) k u) : p_resv k (u.1 0) u.2 c cp cn rm kn (m_level 400 c lw p0) := by
  obtain ⟨rfl, rfl, hN, hO, hI⟩ := p_Zo hZ
  have hn := hI.1.2.1
  unfold m_level
  rcases h with ⟨rfl, r, hr, g1, g3, rfl, hu⟩ | ⟨i, E, he, rfl, hp, hu⟩
  · rcases p_nd hn p0 with q | ⟨a, ha, rfl, -, w, ca⟩
    · exact (p_nnx q.1 g1).elim
    rw [p_cat (by omega) (by omega), (hN a ha).1] at g3
    rw [if_neg w, ca, if_neg g3]
    rw [p_cat (by omega) (by omega), (p_lvZ (lw := lw) hI hN).1 a ha] at hr
    exact ⟨rfl, fun _ => hr, p_Z_lv hZ (by rw [hu]) (by rw [hu]) (by rw [hu]) (by rw [hu])⟩
  · rcases p_ex2 he with ⟨rfl, rfl⟩ | ⟨rfl, rfl⟩
    · rcases hp with ⟨-, hp⟩ | ⟨e, -⟩
      · rcases p_nd hn p0 with q | ⟨a, ha, ea, y, w, ca⟩
        · rw [if_pos q.2]; exact ⟨rfl, fun q => absurd q (by decide), by rw [hu]; exact hZ⟩
        · exact (p_nnx hp y).elim
      · exact absurd e (by decide)
    · rcases hp with ⟨e, -⟩ | ⟨-, g1, g3⟩
      · exact absurd e (by decide)
      · rcases p_nd hn p0 with q | ⟨a, ha, rfl, y, w, ca⟩
        · exact (p_nnx q.1 g1).elim
        · rw [p_cat (by omega) (by omega), (hN a ha).1] at g3
          rw [if_neg w, ca, if_pos g3]; exact ⟨rfl, fun q => absurd q (by decide), by rw [hu]; exact hZ⟩
theorem p_o_fan {so le gr ne si ou bo : Nat → Int32} {n om ob : Nat} {cs : Nat → Nat → Nat} {gs : Nat → KH} {made pl kp : Nat} {ro : Nat → Int64} {wo : Int32} {lv : Nat → Int32} {e0 : KE} {c : KC} {cp : Nat → Int32} {cn : Nat} {rm : Nat → Int64} {kn : Int32} (p0 : Int32) (hZ : p_Z ((so, le, gr, ne, si, ou, bo, n, om, ob), (cs, gs, made, pl, kp), ro, wo, lv, e0) c cp cn rm kn) {k : Int32} {u : (Nat → Int64) × XV} (h : x_wrap Int32.toInt64 ["java/lang/IndexOutOfBoundsException", "java/lang/IllegalArgumentException"] (fun (r : Int32) u => x_yn n p0 ∧ ¬ k_cat 400 so p0 = 5 ∧ r = k_useO ou p0 (k_use3 le gr ne p0 n) om ∧ u = ((so, le, gr, ne, si, ou, bo, n, om, ob), (cs, gs, made, pl, kp), ro, wo, lv, e0)) (fun E => (E = "java/lang/IndexOutOfBoundsException" ∧ x_nn n p0) ∨ (E = "java/lang/IllegalArgumentException" ∧ x_yn n p0 ∧ k_cat 400 so p0 = 5)) ((so, le, gr, ne, si, ou, bo, n, om, ob), (cs, gs, made, pl, kp), ro, wo, lv, e0) k u) : p_res2 k (u.1 0) u.2 c cp cn rm kn (m_fan c p0) := by
  obtain ⟨rfl, rfl, hN, hO, hI⟩ := p_Zo hZ
  have hn := hI.1.2.1
  have ho := hI.1.2.2.1
  unfold m_fan
  rcases h with ⟨rfl, r, hr, g1, g3, rfl, hu⟩ | ⟨i, E, he, rfl, hp, hu⟩
  · rcases p_nd hn p0 with q | ⟨a, ha, rfl, -, w, ca⟩
    · exact (p_nnx q.1 g1).elim
    rw [p_cat (by omega) (by omega), (hN a ha).1] at g3
    rw [if_neg w, ca, if_neg g3]
    rw [p_useO (a := a) (z := k_use3 le gr ne (nI a) (mnd c)) (by omega) ho (fun k hk => (hO.1 k hk).1) (fun k hk => by have := (hI.2.2.2.2.1 k hk).1; omega) (p_use hn (by omega) (fun j hj => (hN j hj).2.2) hI.2.1 (mnd c) (Nat.le_refl _)) (moc c) (Nat.le_refl _)] at hr
    exact ⟨rfl, fun _ => hr, by rw [hu]; exact hZ⟩
  · rcases p_ex2 he with ⟨rfl, rfl⟩ | ⟨rfl, rfl⟩
    · rcases hp with ⟨-, hp⟩ | ⟨e, -⟩
      · rcases p_nd hn p0 with q | ⟨a, ha, ea, y, w, ca⟩
        · rw [if_pos q.2]; exact ⟨rfl, fun q => absurd q (by decide), by rw [hu]; exact hZ⟩
        · exact (p_nnx hp y).elim
      · exact absurd e (by decide)
    · rcases hp with ⟨e, -⟩ | ⟨-, g1, g3⟩
      · exact absurd e (by decide)
      · rcases p_nd hn p0 with q | ⟨a, ha, rfl, y, w, ca⟩
        · exact (p_nnx q.1 g1).elim
        · rw [p_cat (by omega) (by omega), (hN a ha).1] at g3
          rw [if_neg w, ca, if_pos g3]; exact ⟨rfl, fun q => absurd q (by decide), by rw [hu]; exact hZ⟩
theorem p_o_node {so le gr ne si ou bo : Nat → Int32} {n om ob : Nat} {cs : Nat → Nat → Nat} {gs : Nat → KH} {made pl kp : Nat} {ro : Nat → Int64} {wo : Int32} {lv : Nat → Int32} {e0 : KE} {c : KC} {cp : Nat → Int32} {cn : Nat} {rm : Nat → Int64} {kn : Int32} (p0 p1 : Int32) (hZ : p_Z ((so, le, gr, ne, si, ou, bo, n, om, ob), (cs, gs, made, pl, kp), ro, wo, lv, e0) c cp cn rm kn) {k : Int32} {u : (Nat → Int64) × XV} (h : x_wrap Int32.toInt64 ["java/lang/IndexOutOfBoundsException", "java/lang/IllegalArgumentException"] (fun (r : Int32) u => x_yn n p0 ∧ u = ((so, le, gr, ne, si, ou, bo, n, om, ob), (cs, gs, made, pl, kp), ro, wo, lv, e0) ∧ ((p1 = 0 ∧ r = k_cat 400 so p0) ∨ (p1 = 1 ∧ r = k_cat 400 le p0) ∨ (p1 = 2 ∧ r = k_cat 400 gr p0) ∨ (p1 = 3 ∧ r = k_cat 400 si p0))) (fun E => (E = "java/lang/IndexOutOfBoundsException" ∧ x_nn n p0) ∨ (E = "java/lang/IllegalArgumentException" ∧ x_yn n p0 ∧ ¬ p1 = 0 ∧ ¬ p1 = 1 ∧ ¬ p1 = 2 ∧ ¬ p1 = 3)) ((so, le, gr, ne, si, ou, bo, n, om, ob), (cs, gs, made, pl, kp), ro, wo, lv, e0) k u) : p_res2 k (u.1 0) u.2 c cp cn rm kn (m_node c p0 p1) := by
  obtain ⟨rfl, rfl, hN, hO, hI⟩ := p_Zo hZ
  have hn := hI.1.2.1
  unfold m_node
  rcases h with ⟨rfl, r, hr, g1, hu, hp⟩ | ⟨i, E, he, rfl, hp, hu⟩
  · rcases p_nd hn p0 with q | ⟨a, ha, rfl, -, w, ca⟩
    · exact (p_nnx q.1 g1).elim
    obtain ⟨a1, a2, a3, a4, a5⟩ := hN a ha
    rw [p_cat (by omega) (by omega), p_cat (by omega) (by omega), p_cat (by omega) (by omega), p_cat (by omega) (by omega), a1, a2, a3, a4] at hp
    rw [if_neg w, ca]
    rcases hp with ⟨rfl, q⟩ | ⟨rfl, q⟩ | ⟨rfl, q⟩ | ⟨rfl, q⟩
    · rw [if_neg (show ¬ (0 : Int32) < 0 by decide), if_pos (show (0 : Int32) ≤ 3 by decide), if_pos rfl]
      exact ⟨rfl, fun _ => by rw [hr, q], by rw [hu]; exact hZ⟩
    · rw [if_neg (show ¬ (1 : Int32) < 0 by decide), if_pos (show (1 : Int32) ≤ 3 by decide), if_neg (show ¬ (1 : Int32) = 0 by decide), if_neg (show ¬ (1 : Int32) = 3 by decide)]
      by_cases z : mso c a = 2
      · rw [if_pos z] at q
        rw [if_pos z, if_pos rfl]; exact ⟨rfl, fun _ => by rw [hr, q], by rw [hu]; exact hZ⟩
      · rw [if_neg z] at q
        rw [if_neg z]; exact ⟨rfl, fun _ => by rw [hr, q], by rw [hu]; exact hZ⟩
    · rw [if_neg (show ¬ (2 : Int32) < 0 by decide), if_pos (show (2 : Int32) ≤ 3 by decide), if_neg (show ¬ (2 : Int32) = 0 by decide), if_neg (show ¬ (2 : Int32) = 3 by decide)]
      by_cases z : mso c a = 2
      · rw [if_pos z] at q
        rw [if_pos z, if_neg (show ¬ (2 : Int32) = 1 by decide)]; exact ⟨rfl, fun _ => by rw [hr, q], by rw [hu]; exact hZ⟩
      · rw [if_neg z] at q
        rw [if_neg z]; exact ⟨rfl, fun _ => by rw [hr, q], by rw [hu]; exact hZ⟩
    · rw [if_neg (show ¬ (3 : Int32) < 0 by decide), if_pos (show (3 : Int32) ≤ 3 by decide), if_neg (show ¬ (3 : Int32) = 0 by decide), if_pos rfl]
      exact ⟨rfl, fun _ => by rw [hr, q], by rw [hu]; exact hZ⟩
  · rcases p_ex2 he with ⟨rfl, rfl⟩ | ⟨rfl, rfl⟩
    · rcases hp with ⟨-, hp⟩ | ⟨e, -⟩
      · rcases p_nd hn p0 with q | ⟨a, ha, ea, y, w, ca⟩
        · rw [if_pos q.2]; exact ⟨rfl, fun q => absurd q (by decide), by rw [hu]; exact hZ⟩
        · exact (p_nnx hp y).elim
      · exact absurd e (by decide)
    · rcases hp with ⟨e, -⟩ | ⟨-, g1, n0, n1, n2, n3⟩
      · exact absurd e (by decide)
      · rcases p_nd hn p0 with q | ⟨a, ha, rfl, y, w, ca⟩
        · exact (p_nnx q.1 g1).elim
        · have key : p1 < 0 ∨ ¬ p1 ≤ 3 := by
            rcases x_swO (x := p1) (k := 3) (by omega) (fun i hi => by rcases (show i = 0 ∨ i = 1 ∨ i = 2 ∨ i = 3 by omega) with rfl | rfl | rfl | rfl <;> assumption) with z | z
            · exact Or.inl (Int32.lt_iff_toInt_lt.mpr z)
            · refine Or.inr (fun z2 => ?_)
              have z3 : p1.toInt ≤ 3 := Int32.le_iff_toInt_le.mp z2
              omega
          rw [if_neg w]
          by_cases z : p1 < 0
          · rw [if_pos z]; exact ⟨rfl, fun q => absurd q (by decide), by rw [hu]; exact hZ⟩
          · rw [if_neg z, if_neg (key.resolve_left z)]; exact ⟨rfl, fun q => absurd q (by decide), by rw [hu]; exact hZ⟩
theorem p_o_count {so le gr ne si ou bo : Nat → Int32} {n om ob : Nat} {cs : Nat → Nat → Nat} {gs : Nat → KH} {made pl kp : Nat} {ro : Nat → Int64} {wo : Int32} {lv : Nat → Int32} {e0 : KE} {c : KC} {cp : Nat → Int32} {cn : Nat} {rm : Nat → Int64} {kn : Int32} (p0 : Int32) (hZ : p_Z ((so, le, gr, ne, si, ou, bo, n, om, ob), (cs, gs, made, pl, kp), ro, wo, lv, e0) c cp cn rm kn) {k : Int32} {u : (Nat → Int64) × XV} (lw : Nat → Int32) (h : x_wrap Int32.toInt64 ["java/lang/IllegalArgumentException"] (fun (r : Int32) u => (p0 = 0 ∧ r = nI n ∧ u = ((so, le, gr, ne, si, ou, bo, n, om, ob), (cs, gs, made, pl, kp), ro, wo, lv, e0)) ∨ (p0 = 1 ∧ r = k_cnt so 1 n ∧ u = ((so, le, gr, ne, si, ou, bo, n, om, ob), (cs, gs, made, pl, kp), ro, wo, lv, e0)) ∨ (p0 = 2 ∧ r = nI om ∧ u = ((so, le, gr, ne, si, ou, bo, n, om, ob), (cs, gs, made, pl, kp), ro, wo, lv, e0)) ∨ (p0 = 3 ∧ r = k_cnt so 3 n ∧ u = ((so, le, gr, ne, si, ou, bo, n, om, ob), (cs, gs, made, pl, kp), ro, wo, lv, e0)) ∨ (p0 = 4 ∧ r = nI kp ∧ u = ((so, le, gr, ne, si, ou, bo, n, om, ob), (cs, gs, made, pl, kp), ro, wo, lv, e0)) ∨ (p0 = 5 ∧ r = k_gmax (k_lw so le gr n 400 1 (k_fillF lv 0 400)) 400 ∧ u = ((so, le, gr, ne, si, ou, bo, n, om, ob), (cs, gs, made, pl, kp), ro, wo, k_lw so le gr n 400 1 (k_fillF lv 0 400), e0))) (fun E => E = "java/lang/IllegalArgumentException" ∧ ¬ p0 = 0 ∧ ¬ p0 = 1 ∧ ¬ p0 = 2 ∧ ¬ p0 = 3 ∧ ¬ p0 = 4 ∧ ¬ p0 = 5) ((so, le, gr, ne, si, ou, bo, n, om, ob), (cs, gs, made, pl, kp), ro, wo, lv, e0) k u) : p_resv k (u.1 0) u.2 c cp cn rm kn (m_count 400 c lw cn p0) := by
  obtain ⟨rfl, rfl, hN, hO, hI⟩ := p_Zo hZ
  have hn := hI.1.2.1
  have hs : ∀ j, j < mnd c → so j = mso c j := fun j hj => (hN j hj).1
  have hkp : kp = cn := hZ.2.2.1.1
  unfold m_count
  have same : u.2 = ((so, le, gr, ne, si, ou, bo, mnd c, moc c, ob), (cs, gs, made, pl, kp), ro, wo, lv, e0) → p_Z u.2 c cp cn rm kn := fun hu => by rw [hu]; exact hZ
  have sameL : u.2 = ((so, le, gr, ne, si, ou, bo, mnd c, moc c, ob), (cs, gs, made, pl, kp), ro, wo, k_lw so le gr (mnd c) 400 1 (k_fillF lv 0 400), e0) → p_Z u.2 c cp cn rm kn := fun hu => p_Z_lv hZ (by rw [hu]) (by rw [hu]) (by rw [hu]) (by rw [hu])
  rcases h with ⟨rfl, r, hr, ⟨rfl, q, hu⟩ | ⟨rfl, q, hu⟩ | ⟨rfl, q, hu⟩ | ⟨rfl, q, hu⟩ | ⟨rfl, q, hu⟩ | ⟨rfl, q, hu⟩⟩ | ⟨i, E, he, rfl, ⟨-, n0, n1, n2, n3, n4, n5⟩, hu⟩
  · rw [if_neg (show ¬ (0 : Int32) < 0 by decide), if_neg (show ¬ (5 : Int32) < 0 by decide), if_pos rfl]
    exact ⟨rfl, fun _ => by rw [hr, q], same hu⟩
  · rw [if_neg (show ¬ (1 : Int32) < 0 by decide), if_neg (show ¬ (5 : Int32) < 1 by decide), if_neg (show ¬ (1 : Int32) = 0 by decide), if_pos rfl, p_cntM]
    exact ⟨rfl, fun _ => by rw [hr, q, p_cntC hn hs 1 (mnd c) (Nat.le_refl _)], same hu⟩
  · rw [if_neg (show ¬ (2 : Int32) < 0 by decide), if_neg (show ¬ (5 : Int32) < 2 by decide), if_neg (show ¬ (2 : Int32) = 0 by decide), if_neg (show ¬ (2 : Int32) = 1 by decide), if_pos rfl]
    exact ⟨rfl, fun _ => by rw [hr, q], same hu⟩
  · rw [if_neg (show ¬ (3 : Int32) < 0 by decide), if_neg (show ¬ (5 : Int32) < 3 by decide), if_neg (show ¬ (3 : Int32) = 0 by decide), if_neg (show ¬ (3 : Int32) = 1 by decide), if_neg (show ¬ (3 : Int32) = 2 by decide), if_pos rfl, p_cntM]
    exact ⟨rfl, fun _ => by rw [hr, q, p_cntC hn hs 3 (mnd c) (Nat.le_refl _)], same hu⟩
  · rw [if_neg (show ¬ (4 : Int32) < 0 by decide), if_neg (show ¬ (5 : Int32) < 4 by decide), if_neg (show ¬ (4 : Int32) = 0 by decide), if_neg (show ¬ (4 : Int32) = 1 by decide), if_neg (show ¬ (4 : Int32) = 2 by decide), if_neg (show ¬ (4 : Int32) = 3 by decide), if_pos rfl]
    exact ⟨rfl, fun _ => by rw [hr, q, hkp], same hu⟩
  · rw [if_neg (show ¬ (5 : Int32) < 0 by decide), if_neg (show ¬ (5 : Int32) < 5 by decide), if_neg (show ¬ (5 : Int32) = 0 by decide), if_neg (show ¬ (5 : Int32) = 1 by decide), if_neg (show ¬ (5 : Int32) = 2 by decide), if_neg (show ¬ (5 : Int32) = 3 by decide), if_neg (show ¬ (5 : Int32) = 4 by decide)]
    obtain ⟨l1, l2⟩ := p_lvZ (lv := lv) (lw := lw) hI hN
    have e := (p_gmax hn l1 l2 400 (Nat.le_refl _)).1
    rw [Nat.min_eq_right hn] at e
    exact ⟨rfl, fun _ => by rw [hr, q, e], sameL hu⟩
  · obtain ⟨rfl, rfl⟩ := p_ex1 he
    have key : p0 < 0 ∨ 5 < p0 := by
      rcases x_swO (x := p0) (k := 5) (by omega) (fun i hi => by rcases (show i = 0 ∨ i = 1 ∨ i = 2 ∨ i = 3 ∨ i = 4 ∨ i = 5 by omega) with rfl | rfl | rfl | rfl | rfl | rfl <;> assumption) with z | z
      · exact Or.inl (Int32.lt_iff_toInt_lt.mpr z)
      · exact Or.inr (Int32.lt_iff_toInt_lt.mpr z)
    by_cases z : p0 < 0
    · rw [if_pos z]; exact ⟨rfl, fun q => absurd q (by decide), same hu⟩
    · rw [if_neg z, if_pos (key.resolve_left z)]; exact ⟨rfl, fun q => absurd q (by decide), same hu⟩
theorem p_o_size {so le gr ne si ou bo : Nat → Int32} {n om ob : Nat} {cs : Nat → Nat → Nat} {gs : Nat → KH} {made pl kp : Nat} {ro : Nat → Int64} {wo : Int32} {lv : Nat → Int32} {e0 : KE} {c : KC} {cp : Nat → Int32} {cn : Nat} {rm : Nat → Int64} {kn : Int32}  (hZ : p_Z ((so, le, gr, ne, si, ou, bo, n, om, ob), (cs, gs, made, pl, kp), ro, wo, lv, e0) c cp cn rm kn) {r : Int32} {u : XV} (h : r = k_cnt so 2 n ∧ u = ((so, le, gr, ne, si, ou, bo, n, om, ob), (cs, gs, made, pl, kp), ro, wo, lv, e0)) : r = m_cnt c 2 (mnd c) ∧ p_Z u c cp cn rm kn := by
  obtain ⟨rfl, rfl, hN, hO, hI⟩ := p_Zo hZ
  obtain ⟨h1, h2⟩ := h
  exact ⟨by rw [h1, p_cntC hI.1.2.1 (fun j hj => (hN j hj).1) 2 (mnd c) (Nat.le_refl _), p_cntM], by rw [h2]; exact hZ⟩
theorem p_o_simulate {so le gr ne si ou bo : Nat → Int32} {n om ob : Nat} {cs : Nat → Nat → Nat} {gs : Nat → KH} {made pl kp : Nat} {ro : Nat → Int64} {wo : Int32} {lv : Nat → Int32} {e0 : KE} {c : KC} {cp : Nat → Int32} {cn : Nat} {rm : Nat → Int64} {kn : Int32} (p1 : Int64) (hZ : p_Z ((so, le, gr, ne, si, ou, bo, n, om, ob), (cs, gs, made, pl, kp), ro, wo, lv, e0) c cp cn rm kn) {r : Int32} {u : XV} (lw : Nat → Int32) {h9 : Nat} (hh : m_gr (m_lvF 400 c lw) (mnd c) = nI h9) (hh4 : h9 ≤ 400) (h : r = nI n - k_cnt so 5 n ∧ u = ((so, le, gr, ne, si, ou, bo, n, om, ob), (cs, gs, made, pl, kp), k_rw so le gr n 400 1 (k_ms so p1 (k_fillJ ro 0 400) n).2, 1, lv, e0)) : r = (m_sim 400 h9 c lw rm p1).1 ∧ p_Z u c cp cn (m_sim 400 h9 c lw rm p1).2.1 1 := by
  obtain ⟨rfl, rfl, hN, hO, hI⟩ := p_Zo hZ
  have hn := hI.1.2.1
  obtain ⟨h1, h2⟩ := h
  obtain ⟨rk, hrk⟩ := hI.2.2.2.2.2.2.2
  have hs : ∀ j, j < mnd c → so j = mso c j := fun j hj => (hN j hj).1
  obtain ⟨k, -, -, -, -, -, e6⟩ := p_src (c := c) (so := so) (sd := p1) (ra := fun _ => 0) (rb := rm) hn hs (fun _ _ => rfl) (mnd c) (Nat.le_refl _)
  unfold m_sim
  refine ⟨?_, ?_⟩
  · rw [h1, p_cntC hn hs 5 (mnd c) (Nat.le_refl _), pk_sub (p_ct_le c 5 (mnd c))]
    exact e6.symm
  · rw [h2]
    refine ⟨hZ.1, hI, hZ.2.2.1, rfl, Or.inr rfl, fun _ j hj => ?_⟩
    exact p_simu hn hrk (p_nodI hI) (fun j hj _ => hI.2.1 j hj) (p_FI hN) hh hh4 j hj
