/-! PURE, third: counts, uses, rows -/
def p_ct (c : KC) (x : Int32) : Nat → Nat
  | 0 => 0
  | i + 1 => p_ct c x i + (if mso c i = x then 1 else 0)
theorem p_ct_le (c : KC) (x : Int32) : ∀ i, p_ct c x i ≤ i := by
  intro i
  induction i with
  | zero => exact Nat.le_refl _
  | succ i ih => rw [p_ct]; split <;> omega
theorem p_cntM (c : KC) (x : Int32) : ∀ i, m_cnt c x i = nI (p_ct c x i) := by
  intro i
  induction i with
  | zero => rfl
  | succ i ih =>
    rw [m_cnt, p_ct, ih]
    by_cases h : mso c i = x
    · rw [if_pos h, if_pos h]; exact nI_1 _
    · rw [if_neg h, if_neg h]; rfl
theorem p_cntC {c : KC} {so : Nat → Int32} (hn : mnd c ≤ 400) (hF : ∀ j, j < mnd c → so j = mso c j) (x : Int32) : ∀ i, i ≤ mnd c → k_cnt so x i = nI (p_ct c x i) := by
  intro i
  induction i with
  | zero => intro _; rfl
  | succ i ih =>
    intro hi
    rw [k_cnt, p_ct, ih (by omega), p_cat (by omega) (by omega), hF i (by omega)]
    by_cases h : mso c i = x
    · rw [if_pos h, if_pos h]; exact nI_1 _
    · rw [if_neg h, if_neg h]; exact nI_add _ 0
theorem p_use {c : KC} {le gr ne : Nat → Int32} {a : Nat} (hn : mnd c ≤ 400) (ha : a < 400) (hF : ∀ j, j < mnd c → le j = (if mso c j = 2 then nI (mon c j) else -1) ∧ gr j = (if mso c j = 2 then nI (mtw c j) else -1) ∧ ne j = (if mso c j = 3 then nI (mon c j) else -1)) (hb : ∀ j, j < mnd c → mon c j < 800 ∧ mtw c j < 800) : ∀ i, i ≤ mnd c → k_use3 le gr ne (nI a) i = m_fnU c a i := by
  intro i
  induction i with
  | zero => intro _; rfl
  | succ i ih =>
    intro hi
    obtain ⟨e1, e2, e3⟩ := hF i (by omega)
    obtain ⟨b1, b2⟩ := hb i (by omega)
    have n1 : (nI (mon c i / 2) = nI a) = (mon c i / 2 = a) := propext (nI_eq (by omega) (by omega))
    have n2 : (nI (mtw c i / 2) = nI a) = (mtw c i / 2 = a) := propext (nI_eq (by omega) (by omega))
    have n3 : ((-1 : Int32) = nI a) = False := eq_false (fun e => p_ne1 (by omega) e.symm)
    rw [k_use3, m_fnU, ih (by omega), p_cat (by omega) (by omega), p_cat (by omega) (by omega), p_cat (by omega) (by omega), e1, e2, e3]
    unfold m_fn2 m_fn1
    by_cases h2 : mso c i = 2
    · have h3 : ¬ mso c i = 3 := by rw [h2]; decide
      simp only [if_pos h2, if_neg h3, p_nodem, p_node (show mon c i < 2 ^ 31 by omega), p_node (show mtw c i < 2 ^ 31 by omega), n1, n2, n3]
      by_cases g1 : mon c i / 2 = a
      · by_cases g2 : mtw c i / 2 = a
        · simp [g1, g2]
        · simp [g1, g2]
      · by_cases g2 : mtw c i / 2 = a
        · simp [g1, g2]
        · simp [g1, g2]
    · by_cases h3 : mso c i = 3
      · simp only [if_neg h2, if_pos h3, p_nodem, p_node (show mon c i < 2 ^ 31 by omega), n1, n3]
        by_cases g1 : mon c i / 2 = a
        · simp [g1]
        · simp [g1]
      · simp only [if_neg h2, if_neg h3, p_nodem, n3]
        simp
theorem p_useO {c : KC} {ou : Nat → Int32} {a : Nat} {z : Int32} (ha : a < 400) (ho : moc c ≤ 40) (hF : ∀ k, k < moc c → ou k = nI (mou c k)) (hb : ∀ k, k < moc c → mou c k < 800) (hz : z = m_fnU c a (mnd c)) : ∀ i, i ≤ moc c → k_useO ou (nI a) z i = m_fnO c a i := by
  intro i
  induction i with
  | zero => intro _; exact hz
  | succ i ih =>
    intro hi
    have b := hb i (by omega)
    have n1 : (nI (mou c i / 2) = nI a) = (mou c i / 2 = a) := propext (nI_eq (by omega) (by omega))
    rw [k_useO, m_fnO, ih (by omega), p_cat (by omega) (by omega), hF i (by omega), p_node (by omega)]
    simp only [n1]
    by_cases g : mou c i / 2 = a
    · simp [g]
    · simp [g]
/-- rows -/
def p_op (c : KC) (j : Nat) (x : Nat → Int64) : Int64 := m_rowOf x (mon c j) &&& m_rowOf x (mtw c j)
theorem p_op_op (c : KC) : ∀ j (x y : Nat → Int64), x (mon c j / 2) = y (mon c j / 2) → x (mtw c j / 2) = y (mtw c j / 2) → p_op c j x = p_op c j y := by
  intro j x y h1 h2
  unfold p_op m_rowOf
  rw [h1, h2]
theorem p_catJ {f : Nat → Int64} {j : Nat} (h : j < 400) : k_catJ 400 f (nI j) = f j := by
  unfold k_catJ
  rw [if_neg (nI_pos (by omega)), if_neg (fun q => absurd ((nI_leI (by omega) (by omega)).mp q) (by omega)), nI_clamp (by omega)]
theorem p_cptJ {f : Nat → Int64} {j : Nat} {x : Int64} (h : j < 400) : k_cptJ 400 f (nI j) x = vp_updL f j x := by
  unfold k_cptJ
  rw [if_neg (nI_pos (by omega)), if_neg (fun q => absurd ((nI_leI (by omega) (by omega)).mp q) (by omega)), nI_clamp (by omega)]
theorem p_updL (f : Nat → Int64) (i j : Nat) (x : Int64) : vp_updL f i x j = if j = i then x else f j := by
  by_cases h : j = i
  · subst h; rw [pk_uLs, if_pos rfl]
  · rw [pk_uLn h, if_neg h]
theorem p_bits {ro : Nat → Int64} {a : Nat} (h : a < 800) : k_bits ro (nI a) = m_rowOf ro a := by
  unfold k_bits m_rowOf
  rw [p_isT a (by omega), p_node (by omega), p_catJ (by omega)]
  by_cases g : a % 2 = 1
  · rw [if_pos g, if_neg (by decide), if_neg (by omega)]
  · rw [if_neg g, if_pos rfl, if_pos (by omega)]
theorem p_pa2 {c : KC} {so le gr : Nat → Int32} (hn : mnd c ≤ 400) (hd : ∀ j, j < mnd c → mso c j = 2 → mon c j < 800 ∧ mtw c j < 800) (hF : ∀ j, j < mnd c → so j = mso c j ∧ (mso c j = 2 → le j = nI (mon c j) ∧ gr j = nI (mtw c j))) (x : Nat → Int64) : ∀ i, i ≤ mnd c → (k_pa so le gr x i).2 = p_ps (p_A c) (p_op c) x i := by
  intro i
  induction i with
  | zero => intro _; rfl
  | succ i ih =>
    intro hi
    obtain ⟨f1, f2⟩ := hF i (by omega)
    rw [k_pa, p_ps, k_paS, p_cat (by omega) (by omega), f1]
    by_cases h : mso c i = 2
    · obtain ⟨f3, f4⟩ := f2 h
      obtain ⟨d1, d2⟩ := hd i (by omega) h
      rw [if_pos h, if_pos (p_A_y.mpr h), p_cat (by omega) (by omega), p_cat (by omega) (by omega), f3, f4, p_bits d1, p_bits d2, p_cptJ (by omega), ih (by omega)]
      funext j
      show vp_updL _ i _ j = _
      rw [p_updL]
      rfl
    · rw [if_neg h, if_neg (fun q => h (p_A_y.mp q)), ih (by omega)]
theorem p_pa1 {c : KC} {so le gr : Nat → Int32} (hn : mnd c ≤ 400) (hd : ∀ j, j < mnd c → mso c j = 2 → mon c j < 800 ∧ mtw c j < 800) (hF : ∀ j, j < mnd c → so j = mso c j ∧ (mso c j = 2 → le j = nI (mon c j) ∧ gr j = nI (mtw c j))) (x : Nat → Int64) : (∀ j, j < mnd c → p_ps (p_A c) (p_op c) x (mnd c) j = x j) ↔ (k_pa so le gr x (mnd c)).1 = 0 := by
  refine p_flag (n := mnd c) (fl := fun i => (k_pa so le gr x i).1) rfl (fun i hi hA => ?_) (fun i hi hA => ?_) (mnd c) (Nat.le_refl _)
  · have h := p_A_y.mp hA
    obtain ⟨f1, f2⟩ := hF i hi
    obtain ⟨f3, f4⟩ := f2 h
    obtain ⟨d1, d2⟩ := hd i hi h
    show (k_paS so le gr i (k_pa so le gr x i)).1 = 0 ↔ _
    have e0 : p_ps (p_A c) (p_op c) x i i = x i := p_ps_out i i (Nat.le_refl _)
    rw [k_paS, p_cat (by omega) (by omega), f1, if_pos h, p_cat (by omega) (by omega), p_cat (by omega) (by omega), f3, f4, p_bits d1, p_bits d2, p_catJ (by omega), p_pa2 hn hd hF x i (by omega), e0]
    show (if (k_pa so le gr x i).1 = 0 then (if lg_cmp (x i) (p_op c i (p_ps (p_A c) (p_op c) x i)) = 0 then 0 else 1) else (1 : Int32)) = 0 ↔ _
    by_cases g : (k_pa so le gr x i).1 = 0
    · rw [if_pos g]
      by_cases g2 : p_op c i (p_ps (p_A c) (p_op c) x i) = x i
      · rw [if_pos ((lg_cmp_eq _ _).mpr g2.symm)]; exact ⟨fun _ => ⟨g, g2⟩, fun _ => rfl⟩
      · rw [if_neg (fun q => g2 ((lg_cmp_eq _ _).mp q).symm)]; exact ⟨fun q => absurd q (by decide), fun q => absurd q.2 g2⟩
    · rw [if_neg g]; exact ⟨fun q => absurd q (by decide), fun q => absurd q.1 g⟩
  · show (k_paS so le gr i (k_pa so le gr x i)).1 = _
    rw [k_paS, p_cat (by omega) (by omega), (hF i hi).1, if_neg (fun h => hA (p_A_y.mpr h))]
theorem p_rw {so le gr : Nat → Int32} {n : Nat} : ∀ (k : Nat) (z : Int32) (ro : Nat → Int64), k_rw so le gr n k z ro = k_it (fun b => k_pa so le gr b n) k z ro := by
  intro k
  induction k with
  | zero => intro z ro; rw [k_rw, k_it]
  | succ k ih => intro z ro; rw [k_rw, k_it, ih]
theorem p_rows {c : KC} {r : Nat → Nat} {so le gr : Nat → Int32} (hn : mnd c ≤ 400) (hr : p_rank c r) (hd : p_nod c) (hd8 : ∀ j, j < mnd c → mso c j = 2 → mon c j < 800 ∧ mtw c j < 800) (hF : ∀ j, j < mnd c → so j = mso c j ∧ (mso c j = 2 → le j = nI (mon c j) ∧ gr j = nI (mtw c j))) (x : Nat → Int64) :
    (∀ j, j < mnd c → ¬ mso c j = 2 → k_rw so le gr (mnd c) 400 1 x j = x j) ∧ (∀ j, j < mnd c → mso c j = 2 → k_rw so le gr (mnd c) 400 1 x j = p_op c j (k_rw so le gr (mnd c) 400 1 x)) := by
  have hfin := p_ends (p_op_op c) (p_Lb hr hd) (fun j hj => by have := p_L_lt hr hd hj; omega) (F := fun b => k_pa so le gr b (mnd c)) (fun y => p_pa2 hn hd8 hF y (mnd c) (Nat.le_refl _)) (fun y => p_pa1 hn hd8 hF y) x
  obtain ⟨h1, h2⟩ := p_fixed (p_op_op c) (fun j hj hA => hd j hj (p_A_y.mp hA)) (F := fun b => k_pa so le gr b (mnd c)) (fun y => p_pa2 hn hd8 hF y (mnd c) (Nat.le_refl _)) (fun y => p_pa1 hn hd8 hF y) hfin
  rw [p_rw]
  exact ⟨fun j hj h => h1 j hj (fun q => h (p_A_y.mp q)), fun j hj h => h2 j hj (p_A_y.mpr h)⟩
/-- level by level -/
theorem p_rl {c : KC} {lv : Nat → Int32} {L : Nat → Nat} {y z ro : Nat → Int64} {l : Nat} (hn : mnd c ≤ 400) (hlv : ∀ j, j < mnd c → lv j = nI (L j)) (hb : ∀ j, j < mnd c → L j ≤ 400) (hl : l < 400) (hL : ∀ j, j < mnd c → p_A c j = true → L (mon c j / 2) < L j ∧ L (mtw c j / 2) < L j ∧ mon c j / 2 < mnd c ∧ mtw c j / 2 < mnd c)
    (hy : ∀ j, j < mnd c → mso c j = 2 → y j = p_op c j y) (hro : ∀ j, j < mnd c → ro j = if mso c j = 2 ∧ l < L j then z j else y j) : ∀ i, i ≤ mnd c → ∀ j, j < mnd c → m_rl c lv (l + 1) ro i j = if mso c j = 2 ∧ (l + 1 < L j ∨ (L j = l + 1 ∧ i ≤ j)) then z j else y j := by
  intro i
  induction i with
  | zero =>
    intro _ j hj
    show ro j = _
    rw [hro j hj]
    by_cases h : mso c j = 2 ∧ l < L j
    · rw [if_pos h, if_pos ⟨h.1, by omega⟩]
    · rw [if_neg h, if_neg (fun q => h ⟨q.1, by have := q.2; omega⟩)]
  | succ i ih =>
    intro hi j hj
    have ihj := ih (by omega) j hj
    rw [m_rl]
    by_cases h : mso c i = 2
    · rw [if_pos h]
      by_cases g : lv i = nI (l + 1)
      · rw [if_pos g]
        rw [hlv i (by omega)] at g
        have g2 : L i = l + 1 := (nI_eq (by have := hb i (by omega); omega) (by omega)).mp g
        rw [p_updL]
        by_cases e : j = i
        · rw [if_pos e]
          subst e
          rw [if_neg (fun q => by have := q.2; omega), hy j hj h]
          obtain ⟨a1, a2, a3, a4⟩ := hL j hj (p_A_y.mpr h)
          refine p_op_op c j _ _ ?_ ?_
          · rw [ih (by omega) _ a3, if_neg (fun q => by have := q.2; omega)]
          · rw [ih (by omega) _ a4, if_neg (fun q => by have := q.2; omega)]
        · rw [if_neg e, ihj]
          by_cases q : mso c j = 2 ∧ (l + 1 < L j ∨ (L j = l + 1 ∧ i ≤ j))
          · rw [if_pos q, if_pos ⟨q.1, by have := q.2; omega⟩]
          · rw [if_neg q, if_neg (fun q2 => q ⟨q2.1, by have := q2.2; omega⟩)]
      · rw [if_neg g, ihj]
        by_cases q : mso c j = 2 ∧ (l + 1 < L j ∨ (L j = l + 1 ∧ i ≤ j))
        · rw [if_pos q]
          by_cases e : j = i
          · subst e
            have g2 : ¬ L j = l + 1 := fun q9 => g (by rw [hlv j hj, q9])
            rw [if_pos ⟨q.1, by have := q.2; omega⟩]
          · rw [if_pos ⟨q.1, by have := q.2; omega⟩]
        · rw [if_neg q, if_neg (fun q2 => q ⟨q2.1, by have := q2.2; omega⟩)]
    · rw [if_neg h, ihj]
      by_cases q : mso c j = 2 ∧ (l + 1 < L j ∨ (L j = l + 1 ∧ i ≤ j))
      · rw [if_pos q]
        have e : j ≠ i := fun e => h (e ▸ q.1)
        rw [if_pos ⟨q.1, by have := q.2; omega⟩]
      · rw [if_neg q, if_neg (fun q2 => q ⟨q2.1, by have := q2.2; omega⟩)]
theorem p_rlv {c : KC} {lv : Nat → Int32} {L : Nat → Nat} {y z : Nat → Int64} (hn : mnd c ≤ 400) (hlv : ∀ j, j < mnd c → lv j = nI (L j)) (hb : ∀ j, j < mnd c → L j ≤ 400) (hL : ∀ j, j < mnd c → p_A c j = true → L (mon c j / 2) < L j ∧ L (mtw c j / 2) < L j ∧ mon c j / 2 < mnd c ∧ mtw c j / 2 < mnd c)
    (hy : ∀ j, j < mnd c → mso c j = 2 → y j = p_op c j y) (hz : ∀ j, j < mnd c → ¬ mso c j = 2 → y j = z j) : ∀ l, l ≤ 400 → ∀ j, j < mnd c → m_rlv c lv z l j = if mso c j = 2 ∧ l < L j then z j else y j := by
  intro l
  induction l with
  | zero =>
    intro _ j hj
    show z j = _
    by_cases h : mso c j = 2
    · have a := (hL j hj (p_A_y.mpr h)).1
      rw [if_pos ⟨h, by omega⟩]
    · rw [if_neg (fun q => h q.1), hz j hj h]
  | succ l ih =>
    intro hl j hj
    rw [m_rlv, p_rl hn hlv hb (by omega) hL hy (ih (by omega)) (mnd c) (Nat.le_refl _) j hj]
    by_cases h : mso c j = 2 ∧ l + 1 < L j
    · rw [if_pos h, if_pos ⟨h.1, Or.inl h.2⟩]
    · rw [if_neg h, if_neg (fun q => h ⟨q.1, by have := q.2; omega⟩)]
theorem p_mix (sd : Int64) {k : Nat} (hk : k < 1000) : k_mix sd (nI k) = m_mix sd (Int32.toInt64 (nI k)) := by
  unfold k_mix m_mix k_mix1
  rw [nI_1, nI_l (by omega), nI_l (by omega), lN_1]
/-- the sources' rows -/
theorem p_src {c : KC} {so : Nat → Int32} {sd : Int64} {ra rb : Nat → Int64} (hn : mnd c ≤ 400) (hF : ∀ j, j < mnd c → so j = mso c j) (h0 : ∀ j, j < mnd c → ra j = 0) : ∀ i, i ≤ mnd c → ∃ k, k ≤ i ∧ (k_ms so sd ra i).1 = nI k ∧ (m_si c sd rb i).1 = nI k ∧ (∀ j, j < i → (k_ms so sd ra i).2 j = (m_si c sd rb i).2.2 j) ∧ (∀ j, i ≤ j → (k_ms so sd ra i).2 j = ra j) ∧ (m_si c sd rb i).2.1 = nI (i - p_ct c 5 i) := by
  intro i
  induction i with
  | zero => intro _; exact ⟨0, Nat.le_refl _, rfl, rfl, fun j h => absurd h (Nat.not_lt_zero _), fun j _ => rfl, rfl⟩
  | succ i ih =>
    intro hi
    obtain ⟨k, hk, e1, e2, e3, e4, e5⟩ := ih (by omega)
    have hct := p_ct_le c 5 i
    have hnn : m_nn c i (m_si c sd rb i).2.1 = nI (i + 1 - p_ct c 5 (i + 1)) := by
      unfold m_nn
      rw [e5, p_ct]
      by_cases h : mso c i = 5
      · rw [if_pos h, if_pos h, show i + 1 - (p_ct c 5 i + 1) = i - p_ct c 5 i by omega]
      · rw [if_neg h, if_neg h, nI_1, show i + 1 - (p_ct c 5 i + 0) = i - p_ct c 5 i + 1 by omega]
    rw [k_ms, m_si]
    unfold k_msS m_siS
    rw [p_cat (by omega) (by omega), hF i (by omega)]
    have src : ∀ (P : Prop), P → ∃ k', k' ≤ i + 1 ∧ nI k + 1 = nI k' ∧ True := fun _ _ => ⟨k + 1, by omega, nI_1 k, trivial⟩
    by_cases hs : mso c i = 1 ∨ mso c i = 3 ∨ mso c i = 4
    · rw [if_pos hs]
      have em : (if mso c i = 1 then ((m_si c sd rb i).1 + 1, m_nn c i (m_si c sd rb i).2.1, vp_updL (m_si c sd rb i).2.2 i (m_mix sd (Int32.toInt64 (m_si c sd rb i).1))) else if mso c i = 3 then ((m_si c sd rb i).1 + 1, m_nn c i (m_si c sd rb i).2.1, vp_updL (m_si c sd rb i).2.2 i (m_mix sd (Int32.toInt64 (m_si c sd rb i).1))) else if mso c i = 4 then ((m_si c sd rb i).1 + 1, m_nn c i (m_si c sd rb i).2.1, vp_updL (m_si c sd rb i).2.2 i (m_mix sd (Int32.toInt64 (m_si c sd rb i).1))) else ((m_si c sd rb i).1, m_nn c i (m_si c sd rb i).2.1, vp_updL (m_si c sd rb i).2.2 i 0) : K3) = ((m_si c sd rb i).1 + 1, m_nn c i (m_si c sd rb i).2.1, vp_updL (m_si c sd rb i).2.2 i (m_mix sd (Int32.toInt64 (m_si c sd rb i).1))) := by
        rcases hs with h | h | h
        · rw [if_pos h]
        · rw [if_neg (by rw [h]; decide), if_pos h]
        · rw [if_neg (by rw [h]; decide), if_neg (by rw [h]; decide), if_pos h]
      rw [em, e1, e2]
      refine ⟨k + 1, by omega, nI_1 k, nI_1 k, fun j hj => ?_, fun j hj => ?_, hnn⟩
      · show k_cptJ 400 _ _ _ j = vp_updL _ _ _ j
        rw [p_cptJ (by omega), p_updL, p_updL, p_mix sd (by omega)]
        by_cases e : j = i
        · rw [if_pos e, if_pos e]
        · rw [if_neg e, if_neg e]; exact e3 j (by omega)
      · show k_cptJ 400 _ _ _ j = _
        rw [p_cptJ (by omega), p_updL, if_neg (by omega)]
        exact e4 j (by omega)
    · have n1 : ¬ mso c i = 1 := fun h => hs (Or.inl h)
      have n3 : ¬ mso c i = 3 := fun h => hs (Or.inr (Or.inl h))
      have n4 : ¬ mso c i = 4 := fun h => hs (Or.inr (Or.inr h))
      rw [if_neg hs, if_neg n1, if_neg n3, if_neg n4]
      refine ⟨k, by omega, e1, e2, fun j hj => ?_, fun j hj => e4 j (by omega), hnn⟩
      show _ = vp_updL _ _ _ j
      rw [p_updL]
      by_cases e : j = i
      · rw [if_pos e, e, e4 i (Nat.le_refl _), h0 i (by omega)]
      · rw [if_neg e]; exact e3 j (by omega)
/-- simulating: both sides have the same rows -/
theorem p_simu {c : KC} {r : Nat → Nat} {so le gr lv : Nat → Int32} {ra rb : Nat → Int64} {sd : Int64} {h : Nat} (hn : mnd c ≤ 400) (hr : p_rank c r) (hd : p_nod c) (hd8 : ∀ j, j < mnd c → mso c j = 2 → mon c j < 800 ∧ mtw c j < 800) (hF : ∀ j, j < mnd c → so j = mso c j ∧ (mso c j = 2 → le j = nI (mon c j) ∧ gr j = nI (mtw c j))) (hh : m_gr (m_lvF 400 c lv) (mnd c) = nI h) (hh4 : h ≤ 400) :
    ∀ j, j < mnd c → k_rw so le gr (mnd c) 400 1 (k_ms so sd (k_fillJ ra 0 400) (mnd c)).2 j = m_rlv c (m_lvF 400 c lv) (m_si c sd rb (mnd c)).2.2 h j := by
  intro j hj
  obtain ⟨k, -, -, -, e3, -, -⟩ := p_src (c := c) (so := so) (sd := sd) (ra := k_fillJ ra 0 400) (rb := rb) hn (fun j hj => (hF j hj).1) (fun j hj => by unfold k_fillJ; rw [if_pos (by omega)]) (mnd c) (Nat.le_refl _)
  obtain ⟨g1, g2⟩ := p_rows hn hr hd hd8 hF (k_ms so sd (k_fillJ ra 0 400) (mnd c)).2
  have hlv := p_lv_end hn hr hd lv
  have hb : ∀ j, j < mnd c → p_L c r j ≤ 400 := fun j hj => by have := p_L_lt hr hd hj; omega
  obtain ⟨m, em, hm, hall⟩ := p_gr hn hlv hb (mnd c) (Nat.le_refl _)
  have ehm : h = m := (nI_eq (by omega) (by omega)).mp (hh.symm.trans em)
  have key := p_rlv (z := (m_si c sd rb (mnd c)).2.2) hn hlv hb (p_Lb hr hd) g2 (fun i hi h2 => (g1 i hi h2).trans (e3 i hi)) h hh4 j hj
  have := hall j hj
  rw [key, if_neg (fun q => by have := q.2; omega)]
