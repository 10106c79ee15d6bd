/-! PURE, first: literals as numbers; what both sides' states have in common; ands that are known -/
theorem p_xor (a b : Nat) : nI a ^^^ nI b = nI (a ^^^ b) := by
  have h : BitVec.ofNat 32 a ^^^ BitVec.ofNat 32 b = BitVec.ofNat 32 (a ^^^ b) := by
    apply BitVec.eq_of_toNat_eq
    rw [BitVec.toNat_xor, BitVec.toNat_ofNat, BitVec.toNat_ofNat, BitVec.toNat_ofNat, Nat.xor_mod_two_pow]
  exact Int32.toBitVec_inj.mp (by rw [Int32.toBitVec_xor]; exact h)
theorem p_node {a : Nat} (h : a < 2 ^ 31) : k_nodeOf (nI a) = nI (a / 2) := pk_shrN h _ 1 (by decide)
theorem p_nodem : k_nodeOf (-1) = -1 := by decide
theorem p_lito {a : Nat} (h : a < 2 ^ 30) : k_litOf (nI a) = nI (2 * a) := by
  have := pk_shlN (n := a) (1 &&& 31) 1 (by decide) (by omega)
  rw [show a * 2 ^ 1 = 2 * a by omega] at this
  exact this
theorem p_turn (a : Nat) : k_turned (nI a) = nI (a ^^^ 1) := p_xor a 1
theorem p_x1d (a : Nat) : (a ^^^ 1) / 2 = a / 2 := by rw [Nat.xor_div_two]; simp
theorem p_x1m (a : Nat) : (a ^^^ 1) % 2 = 1 - a % 2 := by
  have h := @Nat.xor_mod_two_eq_one a 1
  have e : (1 % 2 = 1) = True := by simp
  rw [e] at h
  by_cases g : a % 2 = 1
  · have h2 : ¬ (a ^^^ 1) % 2 = 1 := fun h3 => (h.mp h3) ⟨fun _ => trivial, fun _ => g⟩
    omega
  · have h2 : (a ^^^ 1) % 2 = 1 := h.mpr (fun h3 => g (h3.mpr trivial))
    omega
theorem p_x1 (a b : Nat) : a = b ^^^ 1 ↔ a / 2 = b / 2 ∧ a ≠ b := by
  have h1 := p_x1d b
  have h2 := p_x1m b
  generalize b ^^^ 1 = c at *
  omega
theorem p_isT (a : Nat) (h : a < 2 ^ 31) : k_isTurned (nI a) = if a % 2 = 1 then 1 else 0 := by
  have e : nI a &&& 1 = nI (a % 2) := pk_andN (n := a) (by omega) (m := 1) 1 (by decide)
  unfold k_isTurned
  rw [e]
  by_cases g : a % 2 = 1
  · rw [g]; rfl
  · rw [show a % 2 = 0 by omega]; rfl
theorem p_and1 (a : Nat) (h : a < 2 ^ 31) : nI a &&& 1 = nI (a % 2) := pk_andN (n := a) (by omega) (m := 1) 1 (by decide)
theorem p_ne1 {a : Nat} (h : a < 2 ^ 31) : ¬ nI a = -1 := fun e => nI_pos h (by rw [e]; decide)
theorem p_cat {m j : Nat} {f : Nat → Int32} (hj : j < m) (hm : m ≤ 400) : k_cat m f (nI j) = f j := k_cat_in hj (by omega)
theorem p_catm {m : Nat} {f : Nat → Int32} : k_cat m f (-1) = -1 := k_cat_neg (by decide)
theorem p_cpt {m j : Nat} {f : Nat → Int32} {x : Int32} (hj : j < m) (hm : m ≤ 400) : k_cpt m f (nI j) x = upd f j x := k_cpt_in hj (by omega)
theorem p_upd (f : Nat → Int32) (i j : Nat) (x : Int32) : upd f i x j = if j = i then x else f j := by
  by_cases h : j = i
  · subst h; rw [pk_us, if_pos rfl]
  · rw [pk_un h, if_neg h]
theorem p_un (f : Nat → Nat) (i j x : Nat) : k_un f i x j = if j = i then x else f j := rfl
theorem p_min (a b : Nat) (ha : a < 2 ^ 31) (hb : b < 2 ^ 31) : k_min (nI a) (nI b) = nI (if b ≤ a then b else a) := by
  unfold k_min
  by_cases h : b < a
  · rw [if_pos ((nI_ltI hb ha).mpr h), if_pos (by omega)]
  · rw [if_neg (fun h2 => h ((nI_ltI hb ha).mp h2))]
    by_cases h3 : b ≤ a
    · rw [if_pos h3, show a = b by omega]
    · rw [if_neg h3]
theorem p_max (a b : Nat) (ha : a < 2 ^ 31) (hb : b < 2 ^ 31) : k_max (nI a) (nI b) = nI (if b ≤ a then a else b) := by
  unfold k_max
  by_cases h : a < b
  · rw [if_pos ((nI_ltI ha hb).mpr h), if_neg (by omega)]
  · rw [if_neg (fun h2 => h ((nI_ltI ha hb).mp h2)), if_pos (by omega)]
/-- a literal that stands -/
def p_lit (c : KC) (a : Nat) : Prop := a < 2 * mnd c ∧ mso c (a / 2) ≠ 5
/-- the nodes of the two sides -/
def p_RN (so le gr ne si : Nat → Int32) (c : KC) : Prop := ∀ j, j < mnd c → so j = mso c j ∧ si j = mst c j ∧ le j = (if mso c j = 2 then nI (mon c j) else -1) ∧ gr j = (if mso c j = 2 then nI (mtw c j) else -1) ∧ ne j = (if mso c j = 3 then nI (mon c j) else -1)
def p_RO (ou bo : Nat → Int32) (ob : Nat) (c : KC) : Prop := (∀ k, k < moc c → ou k = nI (mou c k) ∧ bo k = mbo c k) ∧ (∀ k, ob ≤ k → k < moc c → mbo c k = 0) ∧ (0 < ob → mbo c (ob - 1) = 1) ∧ ob ≤ moc c
def p_R (g : KH) (c : KC) : Prop := KH.n g = mnd c ∧ KH.om g = moc c ∧ p_RN (KH.so g) (KH.le g) (KH.gr g) (KH.ne g) (KH.si g) c ∧ p_RO (KH.ou g) (KH.bo g) (KH.ob g) c
/-- ands stand above lesser ranks -/
def p_rank (c : KC) (r : Nat → Nat) : Prop := r 0 = 0 ∧ ∀ j, j < mnd c → mso c j = 2 → r (mon c j / 2) < r j ∧ r (mtw c j / 2) < r j
/-- what holds of the reference's graph between calls -/
def p_I (c : KC) : Prop := (0 < mnd c ∧ mnd c ≤ 400 ∧ moc c ≤ 40 ∧ mso c 0 = 0) ∧ (∀ j, j < mnd c → mon c j < 800 ∧ mtw c j < 800) ∧ (∀ j, j < mnd c → mso c j = 2 → p_lit c (mon c j) ∧ p_lit c (mtw c j) ∧ mon c j < mtw c j) ∧ (∀ j, j < mnd c → mso c j = 3 → p_lit c (mon c j)) ∧ (∀ k, k < moc c → p_lit c (mou c k)) ∧ (∀ j, j < mnd c → mso c j ≠ 5 → mst c j = -1) ∧ (∀ k, k < moc c → mbo c k = 0 ∨ mbo c k = 1) ∧ ∃ r, p_rank c r
/-- ands of which the fanins are in order -/
def p_ord (c : KC) : Prop := ∀ j, j < mnd c → mso c j = 2 → mon c j < mtw c j ∧ mtw c j < 800
theorem p_hit {c : KC} {a b i : Nat} {w : Int32} (hab : a ≠ b) (ho : mso c i = 2 → mon c i < mtw c i) : m_hit c a b w i = if mso c i = 2 ∧ nI i ≠ w ∧ mon c i = (if b ≤ a then b else a) ∧ mtw c i = (if b ≤ a then a else b) then 1 else 0 := by
  unfold m_hit
  by_cases h1 : mso c i = 2
  · have ho := ho h1
    rw [if_pos h1]
    by_cases h2 : nI i = w
    · rw [if_pos h2, if_neg (fun h => h.2.1 h2)]
    · rw [if_neg h2]
      by_cases h3 : mon c i = (if b ≤ a then b else a) ∧ mtw c i = (if b ≤ a then a else b)
      · rw [if_pos (show _ ∧ _ from ⟨h1, h2, h3.1, h3.2⟩)]
        obtain ⟨e1, e2⟩ := h3
        by_cases g : b ≤ a
        · rw [if_pos g] at e1 e2
          rw [if_neg (show ¬ mon c i = a by omega), if_pos e1, if_pos e2]
        · rw [if_neg g] at e1 e2
          rw [if_pos e1, if_pos e2]
      · have hne : ¬ (mso c i = 2 ∧ nI i ≠ w ∧ mon c i = (if b ≤ a then b else a) ∧ mtw c i = (if b ≤ a then a else b)) := fun h => h3 h.2.2
        rw [if_neg hne]
        by_cases g : b ≤ a
        · rw [if_pos g, if_pos g] at h3
          repeat' split
          all_goals first | rfl | (exfalso; omega)
        · rw [if_neg g, if_neg g] at h3
          repeat' split
          all_goals first | rfl | (exfalso; omega)
  · rw [if_neg h1, if_neg (fun h => h1 h.1)]
theorem p_sa {c : KC} {le gr : Nat → Int32} (hn : mnd c ≤ 400) (ho : p_ord c) (hF : ∀ j, j < mnd c → le j = (if mso c j = 2 then nI (mon c j) else -1) ∧ gr j = (if mso c j = 2 then nI (mtw c j) else -1)) {a b : Nat} (hab : a ≠ b) (ha : a < 800) (hb : b < 800) (w : Int32) :
    ∀ k i, i + k ≤ mnd c → k_sa le gr (nI (if b ≤ a then b else a)) (nI (if b ≤ a then a else b)) w k i = m_sa c a b w k i := by
  intro k
  induction k with
  | zero => intro i _; rfl
  | succ k ih =>
    intro i hi
    have e := hF i (by omega)
    have hh := p_hit (w := w) (i := i) hab (fun h => (ho i (by omega) h).1)
    rw [k_sa, m_sa, p_cat (by omega) (by omega), p_cat (by omega) (by omega), e.1, e.2, ih (i + 1) (by omega)]
    by_cases h1 : mso c i = 2
    · have ho1 := ho i (by omega) h1
      rw [if_pos h1, if_pos h1]
      by_cases h3 : mon c i = (if b ≤ a then b else a)
      · rw [if_pos (show nI (mon c i) = nI (if b ≤ a then b else a) by rw [h3])]
        by_cases h4 : mtw c i = (if b ≤ a then a else b)
        · rw [if_pos (show nI (mtw c i) = nI (if b ≤ a then a else b) by rw [h4])]
          by_cases h2 : nI i = w
          · have h0 : m_hit c a b w i = 0 := by
              rw [hh]; exact if_neg (fun h => h.2.1 h2)
            rw [if_pos h2, if_pos h0]
          · have h0 : m_hit c a b w i = 1 := by
              rw [hh]; exact if_pos ⟨h1, h2, h3, h4⟩
            rw [if_neg h2, h0, if_neg (by decide), p_lito (by omega)]
        · have h0 : m_hit c a b w i = 0 := by
            rw [hh]; exact if_neg (fun h => h4 h.2.2.2)
          have q : ¬ nI (mtw c i) = nI (if b ≤ a then a else b) := fun h => h4 ((nI_eq (by omega) (by split <;> omega)).mp h)
          rw [if_neg q, if_pos h0]
      · have h0 : m_hit c a b w i = 0 := by
          rw [hh]; exact if_neg (fun h => h3 h.2.2.1)
        have q : ¬ nI (mon c i) = nI (if b ≤ a then b else a) := fun h => h3 ((nI_eq (by omega) (by split <;> omega)).mp h)
        rw [if_neg q, if_pos h0]
    · have h0 : m_hit c a b w i = 0 := by
        rw [hh]; exact if_neg (fun h => h1 h.1)
      have q : ¬ (-1 : Int32) = nI (if b ≤ a then b else a) := fun h => p_ne1 (by split <;> omega) h.symm
      rw [if_neg h1, if_neg h1, if_neg q, if_pos h0]
theorem p_known {c : KC} {le gr : Nat → Int32} (hn : mnd c ≤ 400) (ho : p_ord c) (hF : ∀ j, j < mnd c → le j = (if mso c j = 2 then nI (mon c j) else -1) ∧ gr j = (if mso c j = 2 then nI (mtw c j) else -1)) {a b : Nat} (ha : a < 800) (hb : b < 800) (w : Int32) :
    k_known le gr (mnd c) (nI a) (nI b) w = m_simple c a b w := by
  unfold k_known m_simple
  by_cases h1 : a = b
  · rw [if_pos (by rw [h1]), if_pos h1]
  rw [if_neg (fun h => h1 ((nI_eq (by omega) (by omega)).mp h)), if_neg h1, p_turn]
  have hx := p_x1 a b
  by_cases h2 : a / 2 = b / 2
  · rw [if_pos (by rw [← hx.mpr ⟨h2, h1⟩]), if_pos h2]
  have hb1 : b ^^^ 1 < 2 ^ 31 := by
    have := p_x1d b
    omega
  rw [if_neg (fun h => h2 (hx.mp ((nI_eq (by omega) hb1).mp h)).1), if_neg h2]
  have z : ∀ (x y : Nat), x < 800 → y < 800 → (nI x = nI y) = (x = y) := fun x y hx hy => propext (nI_eq (by omega) (by omega))
  have z0 : ∀ x : Nat, x < 800 → (nI x = 0) = (x = 0) := fun x hx => z x 0 hx (by omega)
  have z1 : ∀ x : Nat, x < 800 → (nI x = 1) = (x = 1) := fun x hx => z x 1 hx (by omega)
  simp only [z0 a ha, z0 b hb, z1 a ha, z1 b hb]
  by_cases h3 : a = 0
  · rw [if_pos h3, if_pos h3]
  rw [if_neg h3, if_neg h3]
  by_cases h4 : b = 0
  · rw [if_pos h4, if_pos h4]
  rw [if_neg h4, if_neg h4]
  by_cases h5 : a = 1
  · rw [if_pos h5, if_pos h5]
  rw [if_neg h5, if_neg h5]
  by_cases h6 : b = 1
  · rw [if_pos h6, if_pos h6]
  rw [if_neg h6, if_neg h6, p_min a b (by omega) (by omega), p_max a b (by omega) (by omega)]
  exact p_sa hn ho hF h1 ha hb w (mnd c) 0 (by omega)
theorem p_sa_spec {c : KC} {a b : Nat} {w : Int32} (hn : mnd c ≤ 400) : ∀ k i, i + k ≤ mnd c → (m_sa c a b w k i = -1 ∧ ∀ j, i ≤ j → j < i + k → m_hit c a b w j = 0) ∨ ∃ j, i ≤ j ∧ j < i + k ∧ m_sa c a b w k i = nI (2 * j) ∧ ¬ m_hit c a b w j = 0 := by
  intro k
  induction k with
  | zero => intro i _; exact Or.inl ⟨rfl, fun j h1 h2 => absurd h2 (by omega)⟩
  | succ k ih =>
    intro i hi
    rw [m_sa]
    by_cases h : m_hit c a b w i = 0
    · rw [if_pos h]
      rcases ih (i + 1) (by omega) with ⟨h1, h2⟩ | ⟨j, h1, h2, h3, h4⟩
      · refine Or.inl ⟨h1, fun j g1 g2 => ?_⟩
        by_cases e : j = i
        · subst e; exact h
        · exact h2 j (by omega) (by omega)
      · exact Or.inr ⟨j, by omega, by omega, h3, h4⟩
    · rw [if_neg h]
      exact Or.inr ⟨i, by omega, by omega, rfl, h⟩
/-- what an and would be -/
theorem p_simple {c : KC} {a b : Nat} {w : Int32} (hn : mnd c ≤ 400) (ho : p_ord c) (ha : a < 800) (hb : b < 800) : (m_simple c a b w = -1 ∧ a / 2 ≠ b / 2 ∧ 2 ≤ a ∧ 2 ≤ b) ∨ (∃ y, m_simple c a b w = nI y ∧ (y = a ∨ y = 0 ∨ y = b)) ∨ ∃ j, j < mnd c ∧ m_simple c a b w = nI (2 * j) ∧ mso c j = 2 ∧ nI j ≠ w ∧ ((mon c j = a ∧ mtw c j = b) ∨ (mon c j = b ∧ mtw c j = a)) := by
  unfold m_simple
  by_cases h1 : a = b
  · rw [if_pos h1]; exact Or.inr (Or.inl ⟨a, rfl, Or.inl rfl⟩)
  rw [if_neg h1]
  by_cases h2 : a / 2 = b / 2
  · rw [if_pos h2]; exact Or.inr (Or.inl ⟨0, rfl, Or.inr (Or.inl rfl)⟩)
  rw [if_neg h2]
  by_cases h3 : a = 0
  · rw [if_pos h3]; exact Or.inr (Or.inl ⟨0, rfl, Or.inr (Or.inl rfl)⟩)
  rw [if_neg h3]
  by_cases h4 : b = 0
  · rw [if_pos h4]; exact Or.inr (Or.inl ⟨0, rfl, Or.inr (Or.inl rfl)⟩)
  rw [if_neg h4]
  by_cases h5 : a = 1
  · rw [if_pos h5]; exact Or.inr (Or.inl ⟨b, rfl, Or.inr (Or.inr rfl)⟩)
  rw [if_neg h5]
  by_cases h6 : b = 1
  · rw [if_pos h6]; exact Or.inr (Or.inl ⟨a, rfl, Or.inl rfl⟩)
  rw [if_neg h6]
  rcases p_sa_spec (a := a) (b := b) (w := w) hn (mnd c) 0 (by omega) with ⟨g1, g2⟩ | ⟨j, g1, g2, g3, g4⟩
  · exact Or.inl ⟨g1, h2, by omega, by omega⟩
  · have hh := p_hit (w := w) (i := j) h1 (fun h => (ho j (by omega) h).1)
    by_cases h9 : mso c j = 2 ∧ nI j ≠ w ∧ mon c j = (if b ≤ a then b else a) ∧ mtw c j = (if b ≤ a then a else b)
    · refine Or.inr (Or.inr ⟨j, by omega, g3, h9.1, h9.2.1, ?_⟩)
      obtain ⟨-, -, e1, e2⟩ := h9
      by_cases h7 : b ≤ a
      · rw [if_pos h7] at e1 e2; exact Or.inr ⟨e1, e2⟩
      · rw [if_neg h7] at e1 e2; exact Or.inl ⟨e1, e2⟩
    · exact absurd (hh.trans (if_neg h9)) g4
