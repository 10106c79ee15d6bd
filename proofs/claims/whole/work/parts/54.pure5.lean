/-! PURE, fifth: replacing -/
def p_cb (p : Nat → Bool) : Nat → Nat
  | 0 => 0
  | n + 1 => p_cb p n + (if p n = true then 1 else 0)
theorem p_cb_le (p : Nat → Bool) : ∀ n, p_cb p n ≤ n := by
  intro n
  induction n with
  | zero => exact Nat.le_refl _
  | succ n ih => rw [p_cb]; split <;> omega
theorem p_cb_mono {p q : Nat → Bool} : ∀ n, (∀ j, j < n → q j = true → p j = true) → p_cb q n ≤ p_cb p n := by
  intro n
  induction n with
  | zero => intro _; exact Nat.le_refl _
  | succ n ih =>
    intro h
    have a := ih (fun j hj => h j (by omega))
    have b := h n (by omega)
    rw [p_cb, p_cb]
    by_cases e : q n = true
    · rw [if_pos e, if_pos (b e)]; omega
    · rw [if_neg e]; split <;> omega
theorem p_cb_lt {p q : Nat → Bool} : ∀ n, (∀ j, j < n → q j = true → p j = true) → (∃ j, j < n ∧ p j = true ∧ ¬ q j = true) → p_cb q n < p_cb p n := by
  intro n
  induction n with
  | zero => rintro _ ⟨j, hj, _⟩; omega
  | succ n ih =>
    rintro h ⟨j, hj, h1, h2⟩
    rw [p_cb, p_cb]
    by_cases e : j = n
    · subst e
      have a := p_cb_mono j (fun i hi => h i (by omega))
      rw [if_neg h2, if_pos h1]
      omega
    · have a := ih (fun j hj => h j (by omega)) ⟨j, by omega, h1, h2⟩
      have b := h n (by omega)
      by_cases e2 : q n = true
      · rw [if_pos e2, if_pos (b e2)]; omega
      · rw [if_neg e2]; split <;> omega
theorem p_cb_two {p : Nat → Bool} {n i j : Nat} (hi : i < n) (hj : j < n) (hij : i ≠ j) (h1 : ¬ p i = true) (h2 : ¬ p j = true) : p_cb p n + 2 ≤ n := by
  have a := p_cb_lt (p := fun k => p k || decide (k = i)) (q := p) n (fun k _ h => by simp [h]) ⟨i, hi, by simp, h1⟩
  have b := p_cb_lt (p := fun _ => true) (q := fun k => p k || decide (k = i)) n (fun k _ _ => rfl) ⟨j, hj, rfl, by
    have e : ¬ j = i := fun e => hij e.symm
    have e2 : p j = false := by simpa using h2
    simp [e, e2]⟩
  have c := p_cb_le (fun _ => true) n
  omega
/-- a literal that stands or was replaced in this call -/
def p_gd (c : KC) (τ : Nat → Nat) (a : Nat) : Prop := a < 2 * mnd c ∧ (mso c (a / 2) ≠ 5 ∨ 0 < τ (a / 2))
def p_lv (c : KC) : Nat := p_cb (p_A c) (mnd c)
/-- while replacing: ranks r, times of replacing τ (0: not in this call), T the next time -/
def p_RI (c : KC) (r τ : Nat → Nat) (T : Nat) : Prop := (0 < mnd c ∧ mnd c ≤ 400 ∧ moc c ≤ 40 ∧ mso c 0 = 0 ∧ r 0 = 0 ∧ 0 < T ∧ T + p_lv c ≤ 400) ∧ (∀ j, j < mnd c → mon c j < 800 ∧ mtw c j < 800) ∧
  (∀ j, j < mnd c → mso c j = 2 → p_gd c τ (mon c j) ∧ p_gd c τ (mtw c j) ∧ mon c j < mtw c j ∧ r (mon c j / 2) < r j ∧ r (mtw c j / 2) < r j) ∧
  (∀ j, j < mnd c → mso c j = 3 → p_gd c τ (mon c j)) ∧ (∀ k, k < moc c → p_gd c τ (mou c k)) ∧ (∀ j, j < mnd c → mso c j ≠ 5 → mst c j = -1) ∧
  (∀ v, 0 < τ v → v < mnd c ∧ mso c v = 5 ∧ τ v < T ∧ ∃ b, b < 2 * mnd c ∧ mst c v = nI b ∧ r (b / 2) ≤ r v ∧ (mso c (b / 2) ≠ 5 ∨ τ v < τ (b / 2)))
theorem p_chain {c : KC} {r τ : Nat → Nat} {T : Nat} (h : p_RI c r τ T) {si : Nat → Int32} (hsi : ∀ j, j < mnd c → si j = mst c j) : ∀ k a, p_gd c τ a → (mso c (a / 2) = 5 → T ≤ k + τ (a / 2)) → m_stF c k a ∧ ∃ s, s < 2 * mnd c ∧ mso c (s / 2) ≠ 5 ∧ r (s / 2) ≤ r (a / 2) ∧ (∀ G, k ≤ G → m_st c G a = s) ∧ (∀ F, k ≤ F → k_stL si F (nI a) = nI s) := by
  obtain ⟨⟨h01, h02, h03, h04, h05, h06, h07⟩, h1, h2, h3, h4, h5, h6⟩ := h
  have live : ∀ k a, a < 2 * mnd c → mso c (a / 2) ≠ 5 → m_stF c k a ∧ ∃ s, s < 2 * mnd c ∧ mso c (s / 2) ≠ 5 ∧ r (s / 2) ≤ r (a / 2) ∧ (∀ G, k ≤ G → m_st c G a = s) ∧ (∀ F, k ≤ F → k_stL si F (nI a) = nI s) := by
    intro k a ha hl
    refine ⟨?_, a, ha, hl, Nat.le_refl _, fun G _ => ?_, fun F _ => ?_⟩
    · cases k with
      | zero => exact ⟨ha, Or.inl hl⟩
      | succ k => exact ⟨ha, Or.inl (Or.inl hl)⟩
    · cases G with
      | zero => rw [m_st]
      | succ G => rw [m_st, if_neg hl]
    · cases F with
      | zero => rw [k_stL]
      | succ F =>
        have e : k_isRep si (nI a) = 0 := by
          unfold k_isRep
          rw [p_node (by omega), p_cat (by omega) (by omega), hsi _ (by omega), h5 _ (by omega) hl, if_pos rfl]
        rw [k_stL, if_pos e]
  intro k
  induction k with
  | zero =>
    intro a hg ht
    by_cases hl : mso c (a / 2) = 5
    · have := (h6 (a / 2) (hg.2.resolve_left (fun q => q hl))).2.2.1
      have := ht hl
      omega
    · exact live 0 a hg.1 hl
  | succ k ih =>
    intro a hg ht
    by_cases hl : mso c (a / 2) = 5
    · obtain ⟨g1, g2, g3, b, g4, g5, g6, g7⟩ := h6 (a / 2) (hg.2.resolve_left (fun q => q hl))
      have ht := ht hl
      have hb : (b ^^^ (a % 2)) / 2 = b / 2 := by
        rcases Nat.mod_two_eq_zero_or_one a with q | q
        · rw [q, Nat.xor_zero]
        · rw [q]; exact p_x1d b
      have hgd : p_gd c τ (b ^^^ (a % 2)) := ⟨by omega, by rw [hb]; exact g7.imp id (fun q => by omega)⟩
      obtain ⟨f1, s, f2, f3, f4, f5, f6⟩ := ih (b ^^^ (a % 2)) hgd (fun q => by
        rw [hb] at q ⊢
        have := g7.resolve_left (fun q2 => q2 q)
        omega)
      have ha := hg.1
      have es : m_stS c a = nI (b ^^^ (a % 2)) := by
        unfold m_stS
        rw [g5, p_and1 a (by omega), p_xor]
      have ec : (m_stS c a).toNatClampNeg = b ^^^ (a % 2) := by rw [es]; exact nI_clamp (by have := hgd.1; omega)
      rw [hb] at f4
      refine ⟨⟨ha, Or.inr ⟨by rw [ec]; exact es, by rw [ec]; exact f1⟩⟩, s, f2, f3, by omega, fun G hG => ?_, fun F hF => ?_⟩
      · cases G with
        | zero => omega
        | succ G => rw [m_st, if_pos hl, if_neg (by rw [g5]; exact nI_pos (by omega)), ec]; exact f5 G (by omega)
      · cases F with
        | zero => omega
        | succ F =>
          have e1 : k_cat 400 si (k_nodeOf (nI a)) = nI b := by rw [p_node (by omega), p_cat (by omega) (by omega), hsi _ (by omega), g5]
          have e : k_isRep si (nI a) = 1 := by
            unfold k_isRep
            rw [e1, if_neg (p_ne1 (by omega))]
          have e2 : k_stS si (nI a) = nI (b ^^^ (a % 2)) := by
            unfold k_stS
            rw [e1]
            have e3 := p_isT a (by omega)
            rcases Nat.mod_two_eq_zero_or_one a with q | q
            · rw [q] at e3 ⊢
              rw [e3, Nat.xor_zero]; exact if_pos rfl
            · rw [q] at e3 ⊢
              rw [e3, p_turn]; exact if_neg (by decide)
          rw [k_stL, e, if_neg (by decide), e2]
          exact f6 F (by omega)
    · exact live (k + 1) a hg.1 hl
/-- what stands for a literal -/
theorem p_st {c : KC} {r τ : Nat → Nat} {T : Nat} (h : p_RI c r τ T) {si : Nat → Int32} (hsi : ∀ j, j < mnd c → si j = mst c j) {a : Nat} (hg : p_gd c τ a) : m_stF c 401 a ∧ m_st c 401 a < 2 * mnd c ∧ mso c (m_st c 401 a / 2) ≠ 5 ∧ r (m_st c 401 a / 2) ≤ r (a / 2) ∧ k_stL si 400 (nI a) = nI (m_st c 401 a) := by
  have hT := h.1.2.2.2.2.2.2
  obtain ⟨-, s, f2, f3, f4, f5, f6⟩ := p_chain h hsi 400 a hg (fun _ => by omega)
  have e := f5 401 (by omega)
  rw [e]
  exact ⟨(p_chain h hsi 401 a hg (fun _ => by omega)).1, f2, f3, f4, f6 400 (by omega)⟩
theorem p_stLm (si : Nat → Int32) (k : Nat) : k_stL si k (-1) = -1 := by
  cases k with
  | zero => rw [k_stL]
  | succ k =>
    have e : k_isRep si (-1) = 0 := by
      unfold k_isRep
      rw [p_nodem, p_catm, if_pos rfl]
    rw [k_stL, if_pos e]
/-- the first outdated and of side m -/
theorem p_fod {c : KC} : ∀ k i, i + k = mnd c → (m_fod c k i = none ∧ ∀ j, i ≤ j → j < mnd c → mso c j = 2 → mso c (mon c j / 2) ≠ 5 ∧ mso c (mtw c j / 2) ≠ 5) ∨ ∃ n, m_fod c k i = some n ∧ i ≤ n ∧ n < mnd c ∧ mso c n = 2 ∧ (mso c (mon c n / 2) = 5 ∨ mso c (mtw c n / 2) = 5) ∧ ∀ j, i ≤ j → j < n → mso c j = 2 → mso c (mon c j / 2) ≠ 5 ∧ mso c (mtw c j / 2) ≠ 5 := by
  intro k
  induction k with
  | zero => intro i hi; exact Or.inl ⟨rfl, fun j h1 h2 => by omega⟩
  | succ k ih =>
    intro i hi
    rw [m_fod]
    have recu : (mso c i = 2 → mso c (mon c i / 2) ≠ 5 ∧ mso c (mtw c i / 2) ≠ 5) → (m_fod c k (i + 1) = none ∧ ∀ j, i ≤ j → j < mnd c → mso c j = 2 → mso c (mon c j / 2) ≠ 5 ∧ mso c (mtw c j / 2) ≠ 5) ∨ ∃ n, m_fod c k (i + 1) = some n ∧ i ≤ n ∧ n < mnd c ∧ mso c n = 2 ∧ (mso c (mon c n / 2) = 5 ∨ mso c (mtw c n / 2) = 5) ∧ ∀ j, i ≤ j → j < n → mso c j = 2 → mso c (mon c j / 2) ≠ 5 ∧ mso c (mtw c j / 2) ≠ 5 := by
      intro h
      rcases ih (i + 1) (by omega) with ⟨g1, g2⟩ | ⟨n, g1, g2, g3, g4, g5, g6⟩
      · refine Or.inl ⟨g1, fun j h1 h2 h3 => ?_⟩
        by_cases e : j = i
        · subst e; exact h h3
        · exact g2 j (by omega) h2 h3
      · refine Or.inr ⟨n, g1, by omega, g3, g4, g5, fun j h1 h2 h3 => ?_⟩
        by_cases e : j = i
        · subst e; exact h h3
        · exact g6 j (by omega) h2 h3
    by_cases h : mso c i = 2
    · rw [if_pos h]
      by_cases h1 : mso c (mon c i / 2) = 5
      · have e : ¬ m_isRep c (mon c i) = 0 := by unfold m_isRep; rw [if_pos h1]; decide
        rw [if_neg e]
        exact Or.inr ⟨i, rfl, Nat.le_refl _, by omega, h, Or.inl h1, fun j h1 h2 => by omega⟩
      · have e : m_isRep c (mon c i) = 0 := by unfold m_isRep; rw [if_neg h1]
        rw [if_pos e]
        by_cases h2 : mso c (mtw c i / 2) = 5
        · have e2 : ¬ m_isRep c (mtw c i) = 0 := by unfold m_isRep; rw [if_pos h2]; decide
          rw [if_neg e2]
          exact Or.inr ⟨i, rfl, Nat.le_refl _, by omega, h, Or.inr h2, fun j h1 h2 => by omega⟩
        · have e2 : m_isRep c (mtw c i) = 0 := by unfold m_isRep; rw [if_neg h2]
          rw [if_pos e2]
          exact recu (fun _ => ⟨h1, h2⟩)
    · rw [if_neg h]
      exact recu (fun q => absurd q h)
theorem p_fod_skip {c : KC} : ∀ i, i ≤ mnd c → (∀ j, j < i → mso c j = 2 → mso c (mon c j / 2) ≠ 5 ∧ mso c (mtw c j / 2) ≠ 5) → m_fod c (mnd c) 0 = m_fod c (mnd c - i) i := by
  intro i
  induction i with
  | zero => intro _ _; rfl
  | succ i ih =>
    intro hi h
    rw [ih (by omega) (fun j hj => h j (by omega)), show mnd c - i = mnd c - (i + 1) + 1 by omega, m_fod]
    by_cases h2 : mso c i = 2
    · obtain ⟨g1, g2⟩ := h i (by omega) h2
      have e1 : m_isRep c (mon c i) = 0 := by unfold m_isRep; rw [if_neg g1]
      have e2 : m_isRep c (mtw c i) = 0 := by unfold m_isRep; rw [if_neg g2]
      rw [if_pos h2, if_pos e1, if_pos e2]
    · rw [if_neg h2]
def p_on : Option Nat → Int32
  | none => -1
  | some n => nI n
/-- the graphs while replacing -/
def p_RG (g : KG) (c : KC) : Prop := ∀ j, j < mnd c → g.1 j = mso c j ∧ g.2.2.2 j = mst c j ∧ g.2.1 j = (if mso c j = 2 then nI (mon c j) else -1) ∧ g.2.2.1 j = (if mso c j = 2 then nI (mtw c j) else -1)
theorem p_isRep {c : KC} {r τ : Nat → Nat} {T : Nat} (h : p_RI c r τ T) {si : Nat → Int32} (hsi : ∀ j, j < mnd c → si j = mst c j) {a : Nat} (hg : p_gd c τ a) : k_isRep si (nI a) = m_isRep c a := by
  obtain ⟨⟨h01, h02, h03, h04, h05, h06, h07⟩, h1, h2, h3, h4, h5, h6⟩ := h
  have ha := hg.1
  unfold k_isRep m_isRep
  rw [p_node (by omega), p_cat (by omega) (by omega), hsi _ (by omega)]
  by_cases hl : mso c (a / 2) = 5
  · obtain ⟨g1, g2, g3, b, g4, g5, g6, g7⟩ := h6 (a / 2) (hg.2.resolve_left (fun q => q hl))
    rw [if_pos hl, g5, if_neg (p_ne1 (by omega))]
  · rw [if_neg hl, h5 _ (by omega) hl, if_pos rfl]
theorem p_lo {c : KC} {r τ : Nat → Nat} {T : Nat} {g : KG} (h : p_RI c r τ T) (hG : p_RG g c) : ∀ k i, i + k ≤ mnd c → k_lo g.2.1 g.2.2.1 g.2.2.2 k i = p_on (m_fod c k i) := by
  have hsi : ∀ j, j < mnd c → g.2.2.2 j = mst c j := fun j hj => (hG j hj).2.1
  have hn := h.1.2.1
  intro k
  induction k with
  | zero => intro i _; rfl
  | succ k ih =>
    intro i hi
    obtain ⟨g1, g2, g3, g4⟩ := hG i (by omega)
    rw [k_lo, m_fod, p_cat (by omega) (by omega), p_cat (by omega) (by omega), g3, g4, ih (i + 1) (by omega)]
    by_cases h2 : mso c i = 2
    · obtain ⟨a1, a2, -⟩ := h.2.2.1 i (by omega) h2
      rw [if_pos h2, if_pos h2, if_pos h2, p_isRep h hsi a1, p_isRep h hsi a2]
      by_cases e1 : m_isRep c (mon c i) = 0
      · rw [if_pos e1, if_pos e1]
        by_cases e2 : m_isRep c (mtw c i) = 0
        · rw [if_pos e2, if_pos e2]
        · rw [if_neg e2, if_neg e2]; rfl
      · rw [if_neg e1, if_neg e1]; rfl
    · have e : k_isRep g.2.2.2 (-1) = 0 := by
        unfold k_isRep
        rw [p_nodem, p_catm, if_pos rfl]
      rw [if_neg h2, if_neg h2, if_neg h2, if_pos e, if_pos e]
/-- how far it is to the end -/
def p_od (c : KC) : Nat := p_cb (fun j => decide (mso c j = 2 ∧ (mso c (mon c j / 2) = 5 ∨ mso c (mtw c j / 2) = 5))) (mnd c)
def p_Φ (c : KC) : Nat := 400 * p_lv c + p_od c
theorem p_od_le (c : KC) : p_od c ≤ p_lv c := p_cb_mono (mnd c) (fun j _ h => p_A_y.mpr (of_decide_eq_true h).1)
/-- an and gets other fanins -/
theorem p_RI_stay {c c' : KC} {r τ : Nat → Nat} {T n A B : Nat} (h : p_RI c r τ T) (hn : n < mnd c) (h2 : mso c n = 2) (e1 : ∀ j, mso c' j = mso c j) (e2 : ∀ j, mon c' j = if j = n then A else mon c j) (e3 : ∀ j, mtw c' j = if j = n then B else mtw c j) (e4 : ∀ j, mst c' j = mst c j) (e5 : mnd c' = mnd c) (e6 : moc c' = moc c) (e7 : ∀ k, mou c' k = mou c k)
    (hA : A < 2 * mnd c ∧ mso c (A / 2) ≠ 5 ∧ r (A / 2) < r n) (hB : B < 2 * mnd c ∧ mso c (B / 2) ≠ 5 ∧ r (B / 2) < r n) (hAB : A < B) (ho : mso c (mon c n / 2) = 5 ∨ mso c (mtw c n / 2) = 5) : p_RI c' r τ T ∧ p_Φ c' < p_Φ c := by
  obtain ⟨⟨h01, h02, h03, h04, h05, h06, h07⟩, h1, h2', h3, h4, h5, h6⟩ := h
  have gd : ∀ a, p_gd c τ a → p_gd c' τ a := fun a q => ⟨by rw [e5]; exact q.1, by rw [e1]; exact q.2⟩
  have lv : p_lv c' = p_lv c := by
    unfold p_lv
    rw [e5]
    have : p_A c' = p_A c := by funext j; unfold p_A; rw [e1]
    rw [this]
  refine ⟨⟨⟨by rw [e5]; exact h01, by rw [e5]; exact h02, by rw [e6]; exact h03, by rw [e1]; exact h04, h05, h06, by rw [lv]; exact h07⟩, fun j hj => ?_, fun j hj q => ?_, fun j hj q => ?_, fun k hk => ?_, fun j hj q => ?_, fun v hv => ?_⟩, ?_⟩
  · rw [e5] at hj
    have := h1 j hj
    rw [e2, e3]
    constructor
    · split <;> omega
    · split <;> omega
  · rw [e5] at hj
    rw [e1] at q
    rw [e2, e3]
    by_cases e : j = n
    · rw [if_pos e, if_pos e, e]
      exact ⟨gd A ⟨hA.1, Or.inl hA.2.1⟩, gd B ⟨hB.1, Or.inl hB.2.1⟩, hAB, hA.2.2, hB.2.2⟩
    · rw [if_neg e, if_neg e]
      obtain ⟨a1, a2, a3⟩ := h2' j hj q
      exact ⟨gd _ a1, gd _ a2, a3⟩
  · rw [e5] at hj
    rw [e1] at q
    rw [e2, if_neg (fun e => by rw [e, h2] at q; exact absurd q (by decide))]
    exact gd _ (h3 j hj q)
  · rw [e6] at hk
    rw [e7]
    exact gd _ (h4 k hk)
  · rw [e5] at hj
    rw [e1] at q
    rw [e4]
    exact h5 j hj q
  · obtain ⟨g1, g2, g3, b, g4, g5, g6, g7⟩ := h6 v hv
    exact ⟨by rw [e5]; exact g1, by rw [e1]; exact g2, g3, b, by rw [e5]; exact g4, by rw [e4]; exact g5, g6, by rw [e1]; exact g7⟩
  · unfold p_Φ
    rw [lv]
    have : p_od c' < p_od c := by
      unfold p_od
      rw [e5]
      refine p_cb_lt (mnd c) (fun j hj q => ?_) ⟨n, hn, decide_eq_true ⟨h2, ho⟩, fun q => ?_⟩
      · have q := of_decide_eq_true q
        refine decide_eq_true ?_
        rw [e1, e1, e1, e2, e3] at q
        by_cases e : j = n
        · rw [e]; exact ⟨h2, ho⟩
        · rw [if_neg e, if_neg e] at q; exact q
      · have q := (of_decide_eq_true q).2
        rw [e1, e1, e2, e3, if_pos rfl, if_pos rfl] at q
        exact q.elim hA.2.1 hB.2.1
    omega
/-- an and goes: what stands for it is y -/
theorem p_RI_gone {c c' : KC} {r τ : Nat → Nat} {T n A B y : Nat} (h : p_RI c r τ T) (hn : n < mnd c) (h2 : mso c n = 2) (e1 : ∀ j, mso c' j = if j = n then 5 else mso c j) (e2 : ∀ j, mon c' j = if j = n then A else mon c j) (e3 : ∀ j, mtw c' j = if j = n then B else mtw c j) (e4 : ∀ j, mst c' j = if j = n then nI y else mst c j) (e5 : mnd c' = mnd c) (e6 : moc c' = moc c) (e7 : ∀ k, mou c' k = mou c k)
    (hA : A < 800) (hB : B < 800) (hy : y < 2 * mnd c) (hyl : mso c (y / 2) ≠ 5) (hyn : y / 2 ≠ n) (hyr : mso c (y / 2) = 2 → r (mon c (y / 2) / 2) < r n ∧ r (mtw c (y / 2) / 2) < r n) : ∃ r' τ' T', p_RI c' r' τ' T' ∧ p_Φ c' < p_Φ c := by
  obtain ⟨⟨h01, h02, h03, h04, h05, h06, h07⟩, h1, h2', h3, h4, h5, h6⟩ := h
  have hn0 : n ≠ 0 := fun e => by rw [e, h04] at h2; exact absurd h2 (by decide)
  have lv : p_lv c' < p_lv c := by
    unfold p_lv
    rw [e5]
    refine p_cb_lt (mnd c) (fun j _ q => ?_) ⟨n, hn, p_A_y.mpr h2, fun q => ?_⟩
    · have q := p_A_y.mp q
      rw [e1] at q
      by_cases e : j = n
      · rw [if_pos e] at q; exact absurd q (by decide)
      · rw [if_neg e] at q; exact p_A_y.mpr q
    · have q := p_A_y.mp q
      rw [e1, if_pos rfl] at q
      exact absurd q (by decide)
  have od := p_od_le c'
  have lvn := p_cb_le (p_A c) (mnd c)
  have hlv : p_lv c ≤ 400 := by unfold p_lv; omega
  have gd : ∀ a, p_gd c τ a → p_gd c' (fun x => if x = n then T else τ x) a := by
    intro a q
    refine ⟨by rw [e5]; exact q.1, ?_⟩
    rw [e1]
    by_cases e : a / 2 = n
    · right
      show 0 < (if a / 2 = n then T else τ (a / 2))
      rw [if_pos e]; exact h06
    · rw [if_neg e]
      refine q.2.imp id (fun q => ?_)
      show 0 < (if a / 2 = n then T else τ (a / 2))
      rw [if_neg e]; exact q
  have rle : ∀ x, (if x = y / 2 then min (r x) (r n) else r x) ≤ r x := by
    intro x
    split
    · exact Nat.min_le_left _ _
    · exact Nat.le_refl _
  refine ⟨fun x => if x = y / 2 then min (r x) (r n) else r x, fun x => if x = n then T else τ x, T + 1, ⟨⟨by rw [e5]; exact h01, by rw [e5]; exact h02, by rw [e6]; exact h03, ?_, ?_, by omega, by omega⟩, fun j hj => ?_, fun j hj q => ?_, fun j hj q => ?_, fun k hk => ?_, fun j hj q => ?_, fun v hv => ?_⟩, ?_⟩
  · rw [e1, if_neg (fun e => hn0 e.symm)]; exact h04
  · show (if 0 = y / 2 then min (r 0) (r n) else r 0) = 0
    split
    · rw [h05]; exact Nat.zero_min _
    · exact h05
  · rw [e5] at hj
    have := h1 j hj
    rw [e2, e3]
    constructor
    · split <;> omega
    · split <;> omega
  · rw [e5] at hj
    rw [e1] at q
    by_cases e : j = n
    · rw [if_pos e] at q; exact absurd q (by decide)
    rw [if_neg e] at q
    rw [e2, e3, if_neg e, if_neg e]
    obtain ⟨a1, a2, a3, a4, a5⟩ := h2' j hj q
    refine ⟨gd _ a1, gd _ a2, a3, ?_, ?_⟩
    · show (if mon c j / 2 = y / 2 then _ else _) < (if j = y / 2 then _ else _)
      refine Nat.lt_of_le_of_lt (rle _) ?_
      by_cases z : j = y / 2
      · rw [if_pos z]
        rw [z] at a4 q ⊢
        exact Nat.lt_min.mpr ⟨a4, (hyr q).1⟩
      · rw [if_neg z]; exact a4
    · show (if mtw c j / 2 = y / 2 then _ else _) < (if j = y / 2 then _ else _)
      refine Nat.lt_of_le_of_lt (rle _) ?_
      by_cases z : j = y / 2
      · rw [if_pos z]
        rw [z] at a5 q ⊢
        exact Nat.lt_min.mpr ⟨a5, (hyr q).2⟩
      · rw [if_neg z]; exact a5
  · rw [e5] at hj
    rw [e1] at q
    by_cases e : j = n
    · rw [if_pos e] at q; exact absurd q (by decide)
    rw [if_neg e] at q
    rw [e2, if_neg e]
    exact gd _ (h3 j hj q)
  · rw [e6] at hk
    rw [e7]
    exact gd _ (h4 k hk)
  · rw [e5] at hj
    rw [e1] at q
    by_cases e : j = n
    · rw [if_pos e] at q; exact absurd rfl q
    rw [if_neg e] at q
    rw [e4, if_neg e]
    exact h5 j hj q
  · have hv : 0 < (if v = n then T else τ v) := hv
    show v < mnd c' ∧ mso c' v = 5 ∧ (if v = n then T else τ v) < T + 1 ∧ ∃ b, b < 2 * mnd c' ∧ mst c' v = nI b ∧ (if b / 2 = y / 2 then min (r (b / 2)) (r n) else r (b / 2)) ≤ (if v = y / 2 then min (r v) (r n) else r v) ∧ (mso c' (b / 2) ≠ 5 ∨ (if v = n then T else τ v) < (if b / 2 = n then T else τ (b / 2)))
    by_cases e : v = n
    · rw [if_pos e, e]
      refine ⟨by rw [e5]; exact hn, by rw [e1, if_pos rfl], by omega, y, by rw [e5]; exact hy, by rw [e4, if_pos rfl], ?_, Or.inl ?_⟩
      · rw [if_pos rfl, if_neg (fun q => hyn q.symm)]; exact Nat.min_le_right _ _
      · rw [e1, if_neg hyn]; exact hyl
    · rw [if_neg e] at hv ⊢
      obtain ⟨g1, g2, g3, b, g4, g5, g6, g7⟩ := h6 v hv
      refine ⟨by rw [e5]; exact g1, by rw [e1, if_neg e]; exact g2, by omega, b, by rw [e5]; exact g4, by rw [e4, if_neg e]; exact g5, ?_, ?_⟩
      · rw [if_neg (show ¬ v = y / 2 from fun q => hyl (by rw [← q]; exact g2))]
        exact Nat.le_trans (rle _) g6
      · by_cases z : b / 2 = n
        · right; rw [if_pos z]; exact g3
        · rw [e1, if_neg z, if_neg z]; exact g7
  · unfold p_Φ
    omega
/-- what stays while replacing -/
def p_same (c c' : KC) : Prop := mnd c' = mnd c ∧ moc c' = moc c ∧ mou c' = mou c ∧ mbo c' = mbo c ∧ ∀ j, j < mnd c → (mso c' j = 3 ↔ mso c j = 3) ∧ (mso c j = 3 → mon c' j = mon c j)
theorem p_same_tr {a b c : KC} (h : p_same a b) (g : p_same b c) : p_same a c := by
  obtain ⟨h1, h2, h3, h4, h5⟩ := h
  obtain ⟨g1, g2, g3, g4, g5⟩ := g
  refine ⟨g1.trans h1, g2.trans h2, g3.trans h3, g4.trans h4, fun j hj => ?_⟩
  have a := h5 j hj
  have b := g5 j (by rw [h1]; exact hj)
  exact ⟨b.1.trans a.1, fun q => (b.2 (a.1.mpr q)).trans (a.2 q)⟩
theorem p_ordI {c : KC} {r τ : Nat → Nat} {T : Nat} (h : p_RI c r τ T) : p_ord c := fun j hj q => ⟨(h.2.2.1 j hj q).2.2.1, (h.2.1 j hj).2⟩
/-- one step of both sides -/
theorem p_step {c : KC} {r τ : Nat → Nat} {T n : Nat} {g : KG} (h : p_RI c r τ T) (hG : p_RG g c) (hn : n < mnd c) (h2 : mso c n = 2) (ho : mso c (mon c n / 2) = 5 ∨ mso c (mtw c n / 2) = 5) (hb : ∀ j, j < n → mso c j = 2 → mso c (mon c j / 2) ≠ 5 ∧ mso c (mtw c j / 2) ≠ 5) :
    (∃ r' τ' T', p_RI (m_change 401 n c) r' τ' T') ∧ p_Φ (m_change 401 n c) < p_Φ c ∧ p_same c (m_change 401 n c) ∧ p_RG (k_reG (mnd c) (nI n) g) (m_change 401 n c) ∧ (¬ k_reR (mnd c) (nI n) g = 0 → m_fod (m_change 401 n c) (mnd c) 0 = m_fod (m_change 401 n c) (mnd c - (n + 1)) (n + 1)) := by
  have hnd := h.1.2.1
  have h00 := h.1.2.2.2.1
  have hr0 := h.1.2.2.2.2.1
  obtain ⟨ga, gb, glt, gra, grb⟩ := h.2.2.1 n hn h2
  have hsi : ∀ j, j < mnd c → g.2.2.2 j = mst c j := fun j hj => (hG j hj).2.1
  obtain ⟨-, sa1, sa2, sa3, sa4⟩ := p_st h hsi ga
  obtain ⟨-, sb1, sb2, sb3, sb4⟩ := p_st h hsi gb
  obtain ⟨gn1, gn2, gn3, gn4⟩ := hG n hn
  rw [if_pos h2] at gn3 gn4
  have eA : k_reA (nI n) g = nI (m_chA 401 c n) := by
    unfold k_reA m_chA
    rw [p_cat (by omega) (by omega), gn3, sa4]
  have eB : k_reB (nI n) g = nI (m_chB 401 c n) := by
    unfold k_reB m_chB
    rw [p_cat (by omega) (by omega), gn4, sb4]
  have sa1 : m_chA 401 c n < 2 * mnd c := sa1
  have sb1 : m_chB 401 c n < 2 * mnd c := sb1
  have sa2 : mso c (m_chA 401 c n / 2) ≠ 5 := sa2
  have sb2 : mso c (m_chB 401 c n / 2) ≠ 5 := sb2
  have sa3 : r (m_chA 401 c n / 2) < r n := Nat.lt_of_le_of_lt sa3 gra
  have sb3 : r (m_chB 401 c n / 2) < r n := Nat.lt_of_le_of_lt sb3 grb
  have eK : k_reK (mnd c) (nI n) g = m_chL 401 c n := by
    unfold k_reK m_chL
    rw [eA, eB]
    exact p_known hnd (p_ordI h) (fun j hj => (hG j hj).2.2) (by omega) (by omega) _
  have sp := p_simple (a := m_chA 401 c n) (b := m_chB 401 c n) (w := nI n) hnd (p_ordI h) (by omega) (by omega)
  have sp : (m_chL 401 c n = -1 ∧ m_chA 401 c n / 2 ≠ m_chB 401 c n / 2 ∧ 2 ≤ m_chA 401 c n ∧ 2 ≤ m_chB 401 c n) ∨ (∃ y, m_chL 401 c n = nI y ∧ (y = m_chA 401 c n ∨ y = 0 ∨ y = m_chB 401 c n)) ∨ ∃ j, j < mnd c ∧ m_chL 401 c n = nI (2 * j) ∧ mso c j = 2 ∧ nI j ≠ nI n ∧ ((mon c j = m_chA 401 c n ∧ mtw c j = m_chB 401 c n) ∨ (mon c j = m_chB 401 c n ∧ mtw c j = m_chA 401 c n)) := sp
  by_cases hneg : m_chL 401 c n = -1
  · -- it stays
    have ech : m_change 401 n c = m_ch1 401 c n := by unfold m_change; rw [if_pos (by rw [hneg]; decide)]
    have hd : m_chA 401 c n ≠ m_chB 401 c n := by
      rcases sp with q | ⟨y, q, q2⟩ | ⟨j, hj, q, _⟩
      · intro e; exact q.2.1 (by rw [e])
      · exfalso; rw [hneg] at q; exact p_ne1 (show y < 2 ^ 31 by omega) q.symm
      · exfalso; rw [hneg] at q; exact p_ne1 (show 2 * j < 2 ^ 31 by omega) q.symm
    rw [ech]
    have st := p_RI_stay (c' := m_ch1 401 c n) (A := if m_chB 401 c n ≤ m_chA 401 c n then m_chB 401 c n else m_chA 401 c n) (B := if m_chB 401 c n ≤ m_chA 401 c n then m_chA 401 c n else m_chB 401 c n) h hn h2 (fun _ => rfl) (fun _ => rfl) (fun _ => rfl) (fun _ => rfl) rfl rfl (fun _ => rfl) (by split <;> exact ⟨by omega, by assumption, by assumption⟩) (by split <;> exact ⟨by omega, by assumption, by assumption⟩) (by split <;> omega) ho
    refine ⟨⟨r, τ, T, st.1⟩, st.2, ⟨rfl, rfl, rfl, rfl, fun j _ => ⟨Iff.rfl, fun q => ?_⟩⟩, fun j hj => ?_, fun _ => ?_⟩
    · show k_un (mon c) n _ j = mon c j
      rw [p_un, if_neg (fun e => by rw [e, h2] at q; exact absurd q (by decide))]
    · have hj : j < mnd c := hj
      have eG : k_reG (mnd c) (nI n) g = (g.1, k_cpt 400 g.2.1 (nI n) (k_min (k_reA (nI n) g) (k_reB (nI n) g)), k_cpt 400 g.2.2.1 (nI n) (k_max (k_reA (nI n) g) (k_reB (nI n) g)), g.2.2.2) := by
        unfold k_reG
        rw [eK, if_pos hneg]
      obtain ⟨q1, q2, q3, q4⟩ := hG j hj
      rw [eG, eA, eB, p_min _ _ (by omega) (by omega), p_max _ _ (by omega) (by omega), p_cpt (by omega) (by omega), p_cpt (by omega) (by omega)]
      refine ⟨q1, q2, ?_, ?_⟩
      · show upd _ n _ j = (if mso c j = 2 then nI (k_un _ n _ j) else -1)
        rw [p_upd, p_un]
        by_cases e : j = n
        · rw [if_pos e, e, if_pos h2, if_pos rfl]
        · rw [if_neg e, if_neg e]; exact q3
      · show upd _ n _ j = (if mso c j = 2 then nI (k_un _ n _ j) else -1)
        rw [p_upd, p_un]
        by_cases e : j = n
        · rw [if_pos e, e, if_pos h2, if_pos rfl]
        · rw [if_neg e, if_neg e]; exact q4
    · refine p_fod_skip (c := m_ch1 401 c n) (n + 1) (show n + 1 ≤ mnd c by omega) (fun j hj q => ?_)
      have q : mso c j = 2 := q
      show mso c (k_un (mon c) n _ j / 2) ≠ 5 ∧ mso c (k_un (mtw c) n _ j / 2) ≠ 5
      rw [p_un, p_un]
      by_cases e : j = n
      · rw [if_pos e, if_pos e]
        constructor
        · split <;> assumption
        · split <;> assumption
      · rw [if_neg e, if_neg e]; exact hb j (by omega) q
  · -- it goes
    have hy : ∃ y, m_chL 401 c n = nI y ∧ y < 2 * mnd c ∧ mso c (y / 2) ≠ 5 ∧ y / 2 ≠ n ∧ (mso c (y / 2) = 2 → r (mon c (y / 2) / 2) < r n ∧ r (mtw c (y / 2) / 2) < r n) := by
      have low : ∀ z, z < 2 * mnd c → r (z / 2) < r n → mso c (z / 2) = 2 → r (mon c (z / 2) / 2) < r n ∧ r (mtw c (z / 2) / 2) < r n := fun z hz1 hz2 hz3 => by
        obtain ⟨-, -, -, w1, w2⟩ := h.2.2.1 (z / 2) (by omega) hz3
        exact ⟨by omega, by omega⟩
      rcases sp with q | ⟨y, q, q2⟩ | ⟨j, hj, q, q2, q3, q4⟩
      · exact absurd q.1 hneg
      · rcases q2 with e | e | e
        · rw [e] at q; exact ⟨_, q, sa1, sa2, fun e => by rw [e] at sa3; omega, low _ sa1 sa3⟩
        · rw [e] at q
          refine ⟨0, q, by omega, ?_, ?_, ?_⟩
          · show mso c 0 ≠ 5
            rw [h00]; decide
          · show 0 ≠ n
            exact fun e => by rw [← e, h00] at h2; exact absurd h2 (by decide)
          · show mso c 0 = 2 → _
            intro q; rw [h00] at q; exact absurd q (by decide)
        · rw [e] at q; exact ⟨_, q, sb1, sb2, fun e => by rw [e] at sb3; omega, low _ sb1 sb3⟩
      · refine ⟨2 * j, q, by omega, ?_, ?_, fun _ => ?_⟩
        · rw [show 2 * j / 2 = j by omega, q2]; decide
        · rw [show 2 * j / 2 = j by omega]; exact fun e => q3 (by rw [e])
        · rw [show 2 * j / 2 = j by omega]
          rcases q4 with ⟨w1, w2⟩ | ⟨w1, w2⟩
          · rw [w1, w2]; exact ⟨sa3, sb3⟩
          · rw [w1, w2]; exact ⟨sb3, sa3⟩
    obtain ⟨y, ey, y1, y2, y3, y4⟩ := hy
    have ech : m_change 401 n c = m_leave n (nI y) (m_ch1 401 c n) := by
      unfold m_change
      rw [ey, if_neg (nI_pos (by omega))]
    have hR : k_reR (mnd c) (nI n) g = 0 := by
      unfold k_reR
      rw [eK, if_neg hneg]
    rw [ech]
    have e1 : ∀ j, mso (m_leave n (nI y) (m_ch1 401 c n)) j = if j = n then 5 else mso c j := fun j => p_upd _ _ _ _
    have e4 : ∀ j, mst (m_leave n (nI y) (m_ch1 401 c n)) j = if j = n then nI y else mst c j := fun j => p_upd _ _ _ _
    obtain ⟨r', τ', T', a1, a2⟩ := p_RI_gone (c' := m_leave n (nI y) (m_ch1 401 c n)) (A := if m_chB 401 c n ≤ m_chA 401 c n then m_chB 401 c n else m_chA 401 c n) (B := if m_chB 401 c n ≤ m_chA 401 c n then m_chA 401 c n else m_chB 401 c n) h hn h2 e1 (fun _ => rfl) (fun _ => rfl) e4 rfl rfl (fun _ => rfl) (by split <;> omega) (by split <;> omega) y1 y2 y3 y4
    refine ⟨⟨r', τ', T', a1⟩, a2, ⟨rfl, rfl, rfl, rfl, fun j _ => ⟨?_, fun q => ?_⟩⟩, fun j hj => ?_, fun q => absurd hR q⟩
    · rw [e1]
      by_cases e : j = n
      · rw [if_pos e, e, h2]; exact ⟨fun q => absurd q (by decide), fun q => absurd q (by decide)⟩
      · rw [if_neg e]
    · show k_un (mon c) n _ j = mon c j
      rw [p_un, if_neg (fun e => by rw [e, h2] at q; exact absurd q (by decide))]
    · have hj : j < mnd c := hj
      have eG : k_reG (mnd c) (nI n) g = k_gone (nI n) (nI y) g := by
        unfold k_reG
        rw [eK, if_neg hneg, ey]
      obtain ⟨q1, q2, q3, q4⟩ := hG j hj
      rw [eG, e1, e4]
      unfold k_gone
      rw [p_cpt (by omega) (by omega), p_cpt (by omega) (by omega), p_cpt (by omega) (by omega), p_cpt (by omega) (by omega)]
      show upd _ n _ j = _ ∧ upd _ n _ j = _ ∧ upd _ n _ j = (if _ then nI (k_un _ n _ j) else -1) ∧ upd _ n _ j = (if _ then nI (k_un _ n _ j) else -1)
      rw [p_upd, p_upd, p_upd, p_upd, p_un, p_un]
      by_cases e : j = n
      · have k5 : ¬ (5 : Int32) = 2 := by decide
        refine ⟨?_, ?_, ?_, ?_⟩
        · rw [if_pos e, if_pos e]
        · rw [if_pos e, if_pos e]
        · rw [if_pos e, if_pos e, if_neg k5]
        · rw [if_pos e, if_pos e, if_neg k5]
      · rw [if_neg e, if_neg e, if_neg e, if_neg e, if_neg e, if_neg e, if_neg e, if_neg e]
        exact ⟨q1, q2, q3, q4⟩
theorem p_okI {c : KC} {r τ : Nat → Nat} {T : Nat} (h : p_RI c r τ T) : m_ok 401 c := by
  have hsi : ∀ j, j < mnd c → mst c j = mst c j := fun _ _ => rfl
  refine ⟨h.1.2.1, h.1.2.2.1, fun j hj q => ⟨(h.2.2.1 j hj q).1.1, (h.2.2.1 j hj q).2.1.1⟩, fun j hj q => ?_, fun j hj q => (p_st h hsi (h.2.2.1 j hj q).2.1).1, fun k hk => (p_st h hsi (h.2.2.2.2.1 k hk)).1⟩
  rcases q with q | q
  · exact (p_st h hsi (h.2.2.1 j hj q).1).1
  · exact (p_st h hsi (h.2.2.2.1 j hj q)).1
/-- all steps of both sides -/
theorem p_loop : ∀ (k : Nat) (c : KC) (g : KG) (r τ : Nat → Nat) (T : Nat), p_RI c r τ T → p_RG g c → p_Φ c ≤ k → m_rlF 401 k c ∧ (∃ r' τ' T', p_RI (m_rL 401 k c) r' τ' T') ∧ p_same c (m_rL 401 k c) ∧ p_RG (k_reL (mnd c) k (p_on (m_fod c (mnd c) 0)) g) (m_rL 401 k c) ∧ ∀ j, j < mnd c → mso (m_rL 401 k c) j = 2 → mso (m_rL 401 k c) (mon (m_rL 401 k c) j / 2) ≠ 5 ∧ mso (m_rL 401 k c) (mtw (m_rL 401 k c) j / 2) ≠ 5 := by
  intro k
  induction k with
  | zero =>
    intro c g r τ T h hG hk
    rcases p_fod (c := c) (mnd c) 0 (by omega) with ⟨f1, f2⟩ | ⟨n, f1, f2, f3, f4, f5, f6⟩
    · rw [m_rL, k_reL]
      exact ⟨⟨p_okI h, f1⟩, ⟨r, τ, T, h⟩, ⟨rfl, rfl, rfl, rfl, fun j _ => ⟨Iff.rfl, fun _ => rfl⟩⟩, hG, fun j hj q => f2 j (by omega) hj q⟩
    · exfalso
      have := (p_step h hG f3 f4 f5 (fun j hj => f6 j (by omega) hj)).2.1
      omega
  | succ k ih =>
    intro c g r τ T h hG hk
    rcases p_fod (c := c) (mnd c) 0 (by omega) with ⟨f1, f2⟩ | ⟨n, f1, f2, f3, f4, f5, f6⟩
    · have e : m_rL 401 (k + 1) c = c := by rw [m_rL, f1]
      rw [e, k_reL, f1, if_pos (show p_on none = -1 from rfl)]
      exact ⟨⟨p_okI h, Or.inl f1⟩, ⟨r, τ, T, h⟩, ⟨rfl, rfl, rfl, rfl, fun j _ => ⟨Iff.rfl, fun _ => rfl⟩⟩, hG, fun j hj q => f2 j (by omega) hj q⟩
    · obtain ⟨⟨r', τ', T', s1⟩, s2, s3, s4, s5⟩ := p_step h hG f3 f4 f5 (fun j hj => f6 j (by omega) hj)
      have e : m_rL 401 (k + 1) c = m_rL 401 k (m_change 401 n c) := by rw [m_rL, f1]
      have hnd := h.1.2.1
      obtain ⟨i1, i2, i3, i4, i5⟩ := ih (m_change 401 n c) _ r' τ' T' s1 s4 (by omega)
      have em : mnd (m_change 401 n c) = mnd c := s3.1
      rw [em] at i4 i5
      have eL : k_reL (mnd c) (k + 1) (p_on (m_fod c (mnd c) 0)) g = k_reL (mnd c) k (p_on (m_fod (m_change 401 n c) (mnd c) 0)) (k_reG (mnd c) (nI n) g) := by
        rw [k_reL, f1, if_neg (show ¬ p_on (some n) = -1 from p_ne1 (show n < 2 ^ 31 by omega))]
        show (if k_reR (mnd c) (nI n) g = 0 then k_reL (mnd c) k (k_lo (k_reG (mnd c) (nI n) g).2.1 (k_reG (mnd c) (nI n) g).2.2.1 (k_reG (mnd c) (nI n) g).2.2.2 (mnd c) 0) (k_reG (mnd c) (nI n) g) else k_reL (mnd c) k (k_lo (k_reG (mnd c) (nI n) g).2.1 (k_reG (mnd c) (nI n) g).2.2.1 (k_reG (mnd c) (nI n) g).2.2.2 (mnd c - ((nI n).toNatClampNeg + 1)) ((nI n).toNatClampNeg + 1)) (k_reG (mnd c) (nI n) g)) = _
        rw [nI_clamp (show n < 2 ^ 31 by omega)]
        by_cases q : k_reR (mnd c) (nI n) g = 0
        · rw [if_pos q, p_lo s1 s4 (mnd c) 0 (by omega)]
        · rw [if_neg q, p_lo s1 s4 (mnd c - (n + 1)) (n + 1) (by omega), s5 q]
      rw [e, eL]
      exact ⟨⟨p_okI h, Or.inr ⟨n, f1, i1⟩⟩, i2, p_same_tr s3 i3, i4, i5⟩
