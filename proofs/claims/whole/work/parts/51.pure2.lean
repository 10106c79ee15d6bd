/-! PURE, second: passes that settle; levels, the greatest one -/
theorem fb_holes : ∀ (m n : Nat) (f : Nat → Nat), (∀ i, i < n → f i < m) → (∀ i j, i < j → j < n → f i ≠ f j) → n ≤ m := by
  intro m
  induction m with
  | zero =>
    intro n f h1 _
    rcases Nat.eq_zero_or_pos n with h | h
    · omega
    · exact absurd (h1 0 h) (Nat.not_lt_zero _)
  | succ m ih =>
    intro n f h1 h2
    by_cases hx : ∃ i, i < n ∧ f i = m
    · obtain ⟨a, ha, hfa⟩ := hx
      have hg := ih (n - 1) (fun i => if i < a then f i else f (i + 1)) (by
        intro i hi
        by_cases q : i < a
        · simp only [if_pos q]
          have b1 := h1 i (by omega)
          have b2 := h2 i a q ha
          omega
        · simp only [if_neg q]
          have b1 := h1 (i + 1) (by omega)
          have b2 := h2 a (i + 1) (by omega) (by omega)
          omega) (by
        intro i j hij hj
        by_cases q : i < a
        · by_cases r : j < a
          · simp only [if_pos q, if_pos r]
            exact h2 i j hij (by omega)
          · simp only [if_pos q, if_neg r]
            exact h2 i (j + 1) (by omega) (by omega)
        · have r : ¬ j < a := by omega
          simp only [if_neg q, if_neg r]
          exact h2 (i + 1) (j + 1) (by omega) (by omega))
      omega
    · have hg := ih n f (fun i hi => by
        have b1 := h1 i hi
        have b2 : f i ≠ m := fun e => hx ⟨i, hi, e⟩
        omega) h2
      omega
def p_ps {V : Type} (A : Nat → Bool) (op : Nat → (Nat → V) → V) (x : Nat → V) : Nat → (Nat → V)
  | 0 => x
  | i + 1 => if A i = true then (fun j => if j = i then op i (p_ps A op x i) else p_ps A op x i j) else p_ps A op x i
theorem p_ps_out {V : Type} {A : Nat → Bool} {op : Nat → (Nat → V) → V} {x : Nat → V} : ∀ i j, i ≤ j → p_ps A op x i j = x j := by
  intro i
  induction i with
  | zero => intro j _; rfl
  | succ i ih =>
    intro j hj
    rw [p_ps]
    by_cases h : A i = true
    · rw [if_pos h]
      show (if j = i then _ else _) = _
      rw [if_neg (by omega), ih j (by omega)]
    · rw [if_neg h, ih j (by omega)]
theorem p_ps_no {V : Type} {A : Nat → Bool} {op : Nat → (Nat → V) → V} {x : Nat → V} {j : Nat} (hA : ¬ A j = true) : ∀ i, p_ps A op x i j = x j := by
  intro i
  induction i with
  | zero => rfl
  | succ i ih =>
    rw [p_ps]
    by_cases h : A i = true
    · rw [if_pos h]
      show (if j = i then _ else _) = _
      rw [if_neg (show ¬ j = i from fun e => hA (by rw [e]; exact h)), ih]
    · rw [if_neg h, ih]
theorem p_ps_yes {V : Type} {A : Nat → Bool} {op : Nat → (Nat → V) → V} {x : Nat → V} {j : Nat} (hA : A j = true) : ∀ i, j < i → p_ps A op x i j = op j (p_ps A op x j) := by
  intro i
  induction i with
  | zero => intro h; omega
  | succ i ih =>
    intro hj
    rw [p_ps]
    by_cases e : j = i
    · subst e
      rw [if_pos hA]
      show (if j = j then _ else _) = _
      rw [if_pos rfl]
    · by_cases h : A i = true
      · rw [if_pos h]
        show (if j = i then _ else _) = _
        rw [if_neg e, ih (by omega)]
      · rw [if_neg h, ih (by omega)]
theorem p_ps_mid {V : Type} {A : Nat → Bool} {op : Nat → (Nat → V) → V} {x : Nat → V} {n j f : Nat} (hj : j ≤ n) : p_ps A op x j f = p_ps A op x n f ∨ p_ps A op x j f = x f := by
  by_cases h : A f = true
  · by_cases h2 : f < j
    · left; rw [p_ps_yes h j h2, p_ps_yes h n (by omega)]
    · right; exact p_ps_out j f (by omega)
  · right; exact p_ps_no h j
/-- after p passes what is of no greater level than p stays -/
theorem p_settle {V : Type} {A : Nat → Bool} {op : Nat → (Nat → V) → V} {n : Nat} {d1 d2 L : Nat → Nat} (hop : ∀ j (x y : Nat → V), x (d1 j) = y (d1 j) → x (d2 j) = y (d2 j) → op j x = op j y)
    (hL : ∀ j, j < n → A j = true → L (d1 j) < L j ∧ L (d2 j) < L j ∧ d1 j < n ∧ d2 j < n) {X : Nat → Nat → V} (hX : ∀ p, X (p + 1) = p_ps A op (X p) n) : ∀ p j, j < n → L j ≤ p → X (p + 1) j = X p j := by
  intro p
  induction p with
  | zero =>
    intro j hj h
    rw [hX]
    refine p_ps_no (fun hA => ?_) n
    have := (hL j hj hA).1
    omega
  | succ p ih =>
    have key : ∀ l, l ≤ p + 1 → ∀ j, j < n → L j ≤ l → X (p + 1 + 1) j = X (p + 1) j := by
      intro l
      induction l with
      | zero =>
        intro _ j hj h
        rw [hX (p + 1)]
        refine p_ps_no (fun hA => ?_) n
        have := (hL j hj hA).1
        omega
      | succ l ihl =>
        intro hl j hj h
        by_cases hA : A j = true
        · obtain ⟨a1, a2, a3, a4⟩ := hL j hj hA
          rw [hX (p + 1), p_ps_yes hA n hj]
          have e : X (p + 1) j = op j (p_ps A op (X p) j) := by rw [hX p, p_ps_yes hA n hj]
          rw [e]
          have one : ∀ f, f < n → L f ≤ l → p_ps A op (X (p + 1)) j f = p_ps A op (X p) j f := by
            intro f hf hlf
            have g1 : p_ps A op (X (p + 1)) j f = X (p + 1) f := by
              rcases p_ps_mid (A := A) (op := op) (x := X (p + 1)) (f := f) (show j ≤ n by omega) with g | g
              · rw [g, ← hX (p + 1)]; exact ihl (by omega) f hf hlf
              · exact g
            have g2 : p_ps A op (X p) j f = X (p + 1) f := by
              rcases p_ps_mid (A := A) (op := op) (x := X p) (f := f) (show j ≤ n by omega) with g | g
              · rw [g, ← hX p]
              · rw [g]; exact (ih f hf (by omega)).symm
            rw [g1, g2]
          exact hop j _ _ (one _ a3 (by omega)) (one _ a4 (by omega))
        · have e : X (p + 1 + 1) j = X (p + 1) j := by
            rw [hX (p + 1)]
            exact p_ps_no hA n
          exact e
    intro j hj h
    exact key (p + 1) (Nat.le_refl _) j hj h
/-- sweeps one after another -/
def p_itr {σ : Type} (F : σ → Int32 × σ) (x : σ) : Nat → σ
  | 0 => x
  | p + 1 => (F (p_itr F x p)).2
theorem p_itr_s {σ : Type} (F : σ → Int32 × σ) (x : σ) : ∀ p, p_itr F (F x).2 p = p_itr F x (p + 1) := by
  intro p
  induction p with
  | zero => rfl
  | succ p ih => rw [p_itr, ih]; rfl
theorem p_itF0 {σ : Type} (F : σ → Int32 × σ) (K : Nat) (x : σ) : k_itF F (fun _ => True) K 0 x := by
  cases K with
  | zero => exact ⟨rfl, trivial⟩
  | succ K => exact ⟨trivial, Or.inl rfl⟩
theorem p_itF {σ : Type} (F : σ → Int32 × σ) : ∀ (K : Nat) (z : Int32) (x : σ) (p : Nat), p < K → (F (p_itr F x p)).1 = 0 → k_itF F (fun _ => True) K z x := by
  intro K
  induction K with
  | zero => intro z x p h; omega
  | succ K ih =>
    intro z x p hp h
    refine ⟨trivial, Or.inr ?_⟩
    cases p with
    | zero => rw [show (F x).1 = 0 from h]; exact p_itF0 F K _
    | succ p => exact ih _ _ p (by omega) (by rw [p_itr_s]; exact h)
theorem p_it0 {σ : Type} (F : σ → Int32 × σ) (K : Nat) (x : σ) : k_it F K 0 x = x := by
  cases K with
  | zero => rw [k_it]
  | succ K => rw [k_it, if_pos rfl]
/-- where they end, the last one reported nothing -/
theorem p_it_end {σ : Type} (F : σ → Int32 × σ) : ∀ (K : Nat) (z : Int32) (x : σ), k_itF F (fun _ => True) K z x → z ≠ 0 → ∃ x', k_it F K z x = (F x').2 ∧ (F x').1 = 0 := by
  intro K
  induction K with
  | zero => intro z x h hz; exact absurd h.1 hz
  | succ K ih =>
    intro z x h hz
    rw [k_it, if_neg hz]
    rcases h.2 with g | g
    · exact absurd g hz
    · by_cases e : (F x).1 = 0
      · exact ⟨x, by rw [e, p_it0], e⟩
      · exact ih _ _ g e
theorem p_it_all {σ : Type} (F : σ → Int32 × σ) (P : σ → Prop) (hP : ∀ x, P x → P (F x).2) : ∀ (K : Nat) (z : Int32) (x : σ), P x → P (k_it F K z x) := by
  intro K
  induction K with
  | zero => intro z x h; rw [k_it]; exact h
  | succ K ih =>
    intro z x h
    rw [k_it]
    by_cases e : z = 0
    · rw [if_pos e]; exact h
    · rw [if_neg e]; exact ih _ _ (hP x h)
/-- levels as numbers -/
def p_lev (c : KC) : Nat → Nat → Nat
  | 0, _ => 0
  | k + 1, j => if mso c j = 2 then 1 + max (p_lev c k (mon c j / 2)) (p_lev c k (mtw c j / 2)) else 0
/-- the nodes that an and has are nodes -/
def p_nod (c : KC) : Prop := ∀ j, j < mnd c → mso c j = 2 → mon c j / 2 < mnd c ∧ mtw c j / 2 < mnd c
theorem p_lev_st {c : KC} {r : Nat → Nat} (hr : p_rank c r) (hd : p_nod c) : ∀ k j, j < mnd c → r j < k → p_lev c (k + 1) j = p_lev c k j := by
  intro k
  induction k with
  | zero => intro j _ h; omega
  | succ k ih =>
    intro j hj h
    rw [p_lev]
    conv => rhs; rw [p_lev]
    by_cases h2 : mso c j = 2
    · have g := hr.2 j hj h2
      have d := hd j hj h2
      rw [if_pos h2, if_pos h2, ih _ d.1 (by omega), ih _ d.2 (by omega)]
    · rw [if_neg h2, if_neg h2]
theorem p_lev_up {c : KC} {r : Nat → Nat} (hr : p_rank c r) (hd : p_nod c) {j : Nat} (hj : j < mnd c) : ∀ d, p_lev c (r j + 1 + d) j = p_lev c (r j + 1) j := by
  intro d
  induction d with
  | zero => rfl
  | succ d ih => rw [show r j + 1 + (d + 1) = r j + 1 + d + 1 by omega, p_lev_st hr hd _ j hj (by omega), ih]
def p_L (c : KC) (r : Nat → Nat) (j : Nat) : Nat := p_lev c (r j + 1) j
theorem p_L_and {c : KC} {r : Nat → Nat} (hr : p_rank c r) (hd : p_nod c) {j : Nat} (hj : j < mnd c) (h : mso c j = 2) : p_L c r j = 1 + max (p_L c r (mon c j / 2)) (p_L c r (mtw c j / 2)) := by
  have g := hr.2 j hj h
  have d := hd j hj h
  unfold p_L
  rw [p_lev, if_pos h]
  have e1 := p_lev_up hr hd d.1 (r j - (r (mon c j / 2) + 1))
  have e2 := p_lev_up hr hd d.2 (r j - (r (mtw c j / 2) + 1))
  rw [show r (mon c j / 2) + 1 + (r j - (r (mon c j / 2) + 1)) = r j by omega] at e1
  rw [show r (mtw c j / 2) + 1 + (r j - (r (mtw c j / 2) + 1)) = r j by omega] at e2
  rw [e1, e2]
theorem p_L_no {c : KC} {r : Nat → Nat} {j : Nat} (h : ¬ mso c j = 2) : p_L c r j = 0 := by unfold p_L; rw [p_lev, if_neg h]
theorem p_L_all {c : KC} {r : Nat → Nat} (hr : p_rank c r) (hd : p_nod c) {j : Nat} (hj : j < mnd c) : ∀ d, d ≤ p_L c r j → ∃ i, i < mnd c ∧ p_L c r i = p_L c r j - d := by
  intro d
  induction d with
  | zero => intro _; exact ⟨j, hj, rfl⟩
  | succ d ih =>
    intro h
    obtain ⟨i, hi, e⟩ := ih (by omega)
    by_cases h2 : mso c i = 2
    · have a := p_L_and hr hd hi h2
      have dd := hd i hi h2
      rcases Nat.le_total (p_L c r (mon c i / 2)) (p_L c r (mtw c i / 2)) with g | g
      · rw [Nat.max_eq_right g] at a; exact ⟨_, dd.2, by omega⟩
      · rw [Nat.max_eq_left g] at a; exact ⟨_, dd.1, by omega⟩
    · rw [p_L_no h2] at e; omega
theorem p_L_lt {c : KC} {r : Nat → Nat} (hr : p_rank c r) (hd : p_nod c) {j : Nat} (hj : j < mnd c) : p_L c r j < mnd c := by
  have hc : ∀ d, ∃ i, d ≤ p_L c r j → i < mnd c ∧ p_L c r i = p_L c r j - d := fun d => by
    by_cases h : d ≤ p_L c r j
    · obtain ⟨i, a, b⟩ := p_L_all hr hd hj d h
      exact ⟨i, fun _ => ⟨a, b⟩⟩
    · exact ⟨0, fun g => absurd g h⟩
  have := fb_holes (mnd c) (p_L c r j + 1) (fun d => Classical.choose (hc d)) (fun i hi => (Classical.choose_spec (hc i) (by omega)).1) (fun a b hab hb e => by
    have e1 := (Classical.choose_spec (hc a) (by omega)).2
    have e2 := (Classical.choose_spec (hc b) (by omega)).2
    have e3 : p_L c r (Classical.choose (hc a)) = p_L c r (Classical.choose (hc b)) := congrArg (p_L c r) e
    omega)
  omega
def p_A (c : KC) : Nat → Bool := fun j => decide (mso c j = 2)
theorem p_A_y {c : KC} {j : Nat} : p_A c j = true ↔ mso c j = 2 := by unfold p_A; exact decide_eq_true_iff
/-- side m's levels are passes -/
theorem p_fw2 (c : KC) (lv : Nat → Int32) : ∀ i, (m_fw c lv i).2 = p_ps (p_A c) (fun j x => m_due c x j) lv i := by
  intro i
  induction i with
  | zero => rfl
  | succ i ih =>
    rw [m_fw, p_ps, m_fwS, ih]
    by_cases h : mso c i = 2
    · rw [if_pos h, if_pos (p_A_y.mpr h)]
      funext j
      show upd _ i _ j = _
      rw [p_upd]
    · rw [if_neg h, if_neg (fun g => h (p_A_y.mp g)), ih]
/-- no flag: nothing moved -/
theorem p_flag {V : Type} {A : Nat → Bool} {op : Nat → (Nat → V) → V} {x : Nat → V} {n : Nat} {fl : Nat → Int32} (h0 : fl 0 = 0) (h1 : ∀ i, i < n → A i = true → (fl (i + 1) = 0 ↔ (fl i = 0 ∧ op i (p_ps A op x i) = x i))) (h2 : ∀ i, i < n → ¬ A i = true → fl (i + 1) = fl i) : ∀ i, i ≤ n → ((∀ j, j < i → p_ps A op x i j = x j) ↔ fl i = 0) := by
  intro i
  induction i with
  | zero => intro _; exact ⟨fun _ => h0, fun _ j h => absurd h (Nat.not_lt_zero _)⟩
  | succ i ih =>
    intro hi
    have keep : ∀ j, j < i → p_ps A op x (i + 1) j = p_ps A op x i j := by
      intro j hj
      rw [p_ps]
      by_cases h : A i = true
      · rw [if_pos h]
        show (if j = i then _ else _) = _
        rw [if_neg (by omega)]
      · rw [if_neg h]
    have split : (∀ j, j < i + 1 → p_ps A op x (i + 1) j = x j) ↔ ((∀ j, j < i → p_ps A op x i j = x j) ∧ (A i = true → op i (p_ps A op x i) = x i)) := by
      constructor
      · intro h
        refine ⟨fun j hj => by rw [← keep j hj]; exact h j (by omega), fun h2 => ?_⟩
        have := h i (by omega)
        rw [p_ps_yes h2 (i + 1) (by omega)] at this
        exact this
      · rintro ⟨h1, h2⟩ j hj
        by_cases e : j = i
        · subst e
          by_cases h3 : A j = true
          · rw [p_ps_yes h3 (j + 1) (by omega)]; exact h2 h3
          · exact p_ps_no h3 _
        · rw [keep j (by omega)]; exact h1 j (by omega)
    rw [split, ih (by omega)]
    by_cases h : A i = true
    · rw [h1 i (by omega) h]
      exact ⟨fun q => ⟨q.1, q.2 h⟩, fun q => ⟨q.1, fun _ => q.2⟩⟩
    · rw [h2 i (by omega) h]
      exact ⟨fun q => q.1, fun q => ⟨q, fun q2 => absurd q2 h⟩⟩
/-- where passes with a flag end, each value is what it is due -/
theorem p_fixed {V : Type} {A : Nat → Bool} {op : Nat → (Nat → V) → V} {n : Nat} {d1 d2 : Nat → Nat} (hop : ∀ j (x y : Nat → V), x (d1 j) = y (d1 j) → x (d2 j) = y (d2 j) → op j x = op j y) (hd : ∀ j, j < n → A j = true → d1 j < n ∧ d2 j < n)
    {F : (Nat → V) → Int32 × (Nat → V)} (hF2 : ∀ x, (F x).2 = p_ps A op x n) (hF1 : ∀ x, (∀ j, j < n → p_ps A op x n j = x j) ↔ (F x).1 = 0) {K : Nat} {x0 : Nat → V} (hfin : k_itF F (fun _ => True) K 1 x0) :
    (∀ j, j < n → ¬ A j = true → k_it F K 1 x0 j = x0 j) ∧ (∀ j, j < n → A j = true → k_it F K 1 x0 j = op j (k_it F K 1 x0)) := by
  obtain ⟨x', e, h0⟩ := p_it_end F K 1 x0 hfin (by decide)
  have hfix := (hF1 x').mpr h0
  have hy : ∀ j, j < n → k_it F K 1 x0 j = x' j := by
    intro j hj
    rw [← hfix j hj, e, hF2]
  refine ⟨fun j hj h2 => ?_, fun j hj h2 => ?_⟩
  · refine p_it_all F (fun x => x j = x0 j) (fun x hx => ?_) K 1 x0 rfl
    show (F x).2 j = x0 j
    rw [hF2, p_ps_no h2]
    exact hx
  · have d := hd j hj h2
    have one : ∀ f, f < n → p_ps A op x' j f = k_it F K 1 x0 f := by
      intro f hf
      rw [hy f hf]
      rcases p_ps_mid (A := A) (op := op) (x := x') (f := f) (show j ≤ n by omega) with g | g
      · rw [g]; exact hfix f hf
      · exact g
    rw [hy j hj, ← hfix j hj, p_ps_yes h2 _ hj]
    exact hop j _ _ (one _ d.1) (one _ d.2)
/-- they do end -/
theorem p_ends {V : Type} {A : Nat → Bool} {op : Nat → (Nat → V) → V} {n : Nat} {d1 d2 L : Nat → Nat} (hop : ∀ j (x y : Nat → V), x (d1 j) = y (d1 j) → x (d2 j) = y (d2 j) → op j x = op j y) (hL : ∀ j, j < n → A j = true → L (d1 j) < L j ∧ L (d2 j) < L j ∧ d1 j < n ∧ d2 j < n) (hb : ∀ j, j < n → L j ≤ 399)
    {F : (Nat → V) → Int32 × (Nat → V)} (hF2 : ∀ x, (F x).2 = p_ps A op x n) (hF1 : ∀ x, (∀ j, j < n → p_ps A op x n j = x j) ↔ (F x).1 = 0) (x0 : Nat → V) : k_itF F (fun _ => True) 400 1 x0 := by
  refine p_itF F 400 1 x0 399 (by omega) ((hF1 _).mp (fun j hj => ?_))
  have := p_settle (A := A) (op := op) (n := n) (d1 := d1) (d2 := d2) (L := L) hop hL (X := p_itr F x0) (fun p => hF2 _) 399 j hj (hb j hj)
  rw [← this]
  exact (congrFun (hF2 (p_itr F x0 399)) j).symm
theorem p_fw1 (c : KC) (lv : Nat → Int32) : (∀ j, j < mnd c → p_ps (p_A c) (fun j x => m_due c x j) lv (mnd c) j = lv j) ↔ (m_fw c lv (mnd c)).1 = 0 := by
  refine p_flag (n := mnd c) (fl := fun i => (m_fw c lv i).1) rfl (fun i _ hA => ?_) (fun i _ hA => ?_) (mnd c) (Nat.le_refl _)
  · have h := p_A_y.mp hA
    show (m_fwS c i (m_fw c lv i)).1 = 0 ↔ _
    have e0 : p_ps (p_A c) (fun j x => m_due c x j) lv i i = lv i := p_ps_out i i (Nat.le_refl _)
    rw [m_fwS, if_pos h, p_fw2, e0]
    show (if _ then _ else (1 : Int32)) = 0 ↔ _
    by_cases g : (m_fw c lv i).1 = 0
    · rw [if_pos g]
      by_cases g2 : m_due c (p_ps (p_A c) (fun j x => m_due c x j) lv i) i = lv i
      · rw [if_pos g2]; exact ⟨fun _ => ⟨g, g2⟩, fun _ => rfl⟩
      · rw [if_neg g2]; exact ⟨fun q => absurd q (by decide), fun q => absurd q.2 g2⟩
    · rw [if_neg g]; exact ⟨fun q => absurd q (by decide), fun q => absurd q.1 g⟩
  · show (m_fwS c i (m_fw c lv i)).1 = _
    rw [m_fwS, if_neg (fun h => hA (p_A_y.mpr h))]
theorem p_due_op (c : KC) : ∀ j (x y : Nat → Int32), x (mon c j / 2) = y (mon c j / 2) → x (mtw c j / 2) = y (mtw c j / 2) → m_due c x j = m_due c y j := by
  intro j x y h1 h2
  unfold m_due
  rw [h1, h2]
theorem p_Lb {c : KC} {r : Nat → Nat} (hr : p_rank c r) (hd : p_nod c) : ∀ j, j < mnd c → p_A c j = true → p_L c r (mon c j / 2) < p_L c r j ∧ p_L c r (mtw c j / 2) < p_L c r j ∧ mon c j / 2 < mnd c ∧ mtw c j / 2 < mnd c := by
  intro j hj hA
  have a := p_L_and hr hd hj (p_A_y.mp hA)
  have d := hd j hj (p_A_y.mp hA)
  have b1 := Nat.le_max_left (p_L c r (mon c j / 2)) (p_L c r (mtw c j / 2))
  have b2 := Nat.le_max_right (p_L c r (mon c j / 2)) (p_L c r (mtw c j / 2))
  exact ⟨by omega, by omega, d.1, d.2⟩
theorem p_lv_fin {c : KC} {r : Nat → Nat} (hn : mnd c ≤ 400) (hr : p_rank c r) (hd : p_nod c) (lv : Nat → Int32) : k_itF (m_fF c) (fun _ => True) 400 1 lv :=
  p_ends (p_due_op c) (p_Lb hr hd) (fun j hj => by have := p_L_lt hr hd hj; omega) (fun x => p_fw2 c x (mnd c)) (fun x => p_fw1 c x) lv
/-- at the end the levels are the levels -/
theorem p_lv_end {c : KC} {r : Nat → Nat} (hn : mnd c ≤ 400) (hr : p_rank c r) (hd : p_nod c) (lv : Nat → Int32) : ∀ j, j < mnd c → m_lvF 400 c lv j = nI (p_L c r j) := by
  obtain ⟨hno, hand⟩ := p_fixed (p_due_op c) (fun j hj hA => hd j hj (p_A_y.mp hA)) (fun x => p_fw2 c x (mnd c)) (fun x => p_fw1 c x) (p_lv_fin hn hr hd (k_fillF lv 0 (mnd c)))
  have key : ∀ k j, j < mnd c → r j < k → m_lvF 400 c lv j = nI (p_L c r j) := by
    intro k
    induction k with
    | zero => intro j _ h; omega
    | succ k ih =>
      intro j hj h
      by_cases h2 : mso c j = 2
      · have g := hr.2 j hj h2
        have d := hd j hj h2
        have b1 := p_L_lt hr hd d.1
        have b2 := p_L_lt hr hd d.2
        have e : m_lvF 400 c lv j = m_due c (m_lvF 400 c lv) j := hand j hj (p_A_y.mpr h2)
        rw [e, p_L_and hr hd hj h2]
        unfold m_due
        rw [ih _ d.1 (by omega), ih _ d.2 (by omega)]
        by_cases g3 : p_L c r (mon c j / 2) ≤ p_L c r (mtw c j / 2)
        · rw [if_pos ((nI_leI (by omega) (by omega)).mpr g3), Nat.max_eq_right g3]; exact nI_add 1 _
        · rw [if_neg (fun q => g3 ((nI_leI (by omega) (by omega)).mp q)), Nat.max_eq_left (by omega)]; exact nI_add 1 _
      · have e : m_lvF 400 c lv j = k_fillF lv 0 (mnd c) j := hno j hj (fun q => h2 (p_A_y.mp q))
        rw [e, p_L_no h2]
        unfold k_fillF
        rw [if_pos hj]
        rfl
  exact fun j hj => key (r j + 1) j hj (by omega)
theorem p_gr {lv : Nat → Int32} {L : Nat → Nat} {n : Nat} (hn : n ≤ 400) (h : ∀ j, j < n → lv j = nI (L j)) (hb : ∀ j, j < n → L j ≤ 400) : ∀ i, i ≤ n → ∃ m, m_gr lv i = nI m ∧ m ≤ 400 ∧ ∀ j, j < i → L j ≤ m := by
  intro i
  induction i with
  | zero => intro _; exact ⟨0, rfl, by omega, fun j h => absurd h (Nat.not_lt_zero _)⟩
  | succ i ih =>
    intro hi
    obtain ⟨m, e, hm, hall⟩ := ih (by omega)
    have b := hb i (by omega)
    rw [m_gr, e, h i (by omega)]
    by_cases g : m < L i
    · refine ⟨L i, by rw [if_pos ((nI_ltI (by omega) (by omega)).mpr g)], b, fun j hj => ?_⟩
      by_cases q : j = i
      · subst q; exact Nat.le_refl _
      · have := hall j (by omega); omega
    · refine ⟨m, by rw [if_neg (fun q => g ((nI_ltI (by omega) (by omega)).mp q))], hm, fun j hj => ?_⟩
      by_cases q : j = i
      · subst q; omega
      · exact hall j (by omega)
/-- side k's levels are side m's -/
theorem p_dueC {c : KC} {le gr lv lw : Nat → Int32} {i : Nat} (hn : mnd c ≤ 400) (hi : i < mnd c) (h2 : mso c i = 2) (d : mon c i / 2 < mnd c ∧ mtw c i / 2 < mnd c) (e1 : le i = nI (mon c i)) (e2 : gr i = nI (mtw c i)) (h : ∀ j, j < mnd c → lv j = lw j) : k_due le gr lv i = m_due c lw i := by
  unfold k_due m_due
  rw [p_cat (by omega) (by omega), p_cat (by omega) (by omega), e1, e2, p_node (by omega), p_node (by omega), p_cat (by omega) (by omega), p_cat (by omega) (by omega), h _ d.1, h _ d.2]
  unfold k_max
  by_cases g : lw (mon c i / 2) < lw (mtw c i / 2)
  · rw [if_pos g, if_pos (Int32.le_of_lt g)]
  · rw [if_neg g]
    by_cases g2 : lw (mon c i / 2) ≤ lw (mtw c i / 2)
    · rw [if_pos g2, Int32.le_antisymm g2 (Int32.not_lt.mp g)]
    · rw [if_neg g2]
theorem p_rs {c : KC} {so le gr lv lw : Nat → Int32} (hn : mnd c ≤ 400) (hd : p_nod c) (hF : ∀ j, j < mnd c → so j = mso c j ∧ (mso c j = 2 → le j = nI (mon c j) ∧ gr j = nI (mtw c j))) (h : ∀ j, j < mnd c → lv j = lw j) : ∀ i, i ≤ mnd c → (k_rs so le gr lv i).1 = (m_fw c lw i).1 ∧ (∀ j, j < mnd c → (k_rs so le gr lv i).2 j = (m_fw c lw i).2 j) ∧ ∀ j, mnd c ≤ j → (k_rs so le gr lv i).2 j = lv j := by
  intro i
  induction i with
  | zero => intro _; exact ⟨rfl, h, fun _ _ => rfl⟩
  | succ i ih =>
    intro hi
    obtain ⟨a1, a2, a3⟩ := ih (by omega)
    obtain ⟨f1, f2⟩ := hF i (by omega)
    rw [k_rs, m_fw, k_rsS, m_fwS, p_cat (by omega) (by omega), f1]
    by_cases h2 : mso c i = 2
    · have d := hd i (by omega) h2
      obtain ⟨f3, f4⟩ := f2 h2
      have e := p_dueC hn (by omega) h2 d f3 f4 a2
      rw [if_pos h2, if_pos h2, e, p_cat (by omega) (by omega), p_cpt (by omega) (by omega), a1, a2 i (by omega)]
      refine ⟨?_, fun j hj => ?_, fun j hj => ?_⟩
      · show (if _ then _ else _) = (if _ then _ else _)
        by_cases g : (m_fw c lw i).1 = 0
        · rw [if_pos g, if_pos g]
          by_cases g2 : (m_fw c lw i).2 i = m_due c (m_fw c lw i).2 i
          · rw [if_pos g2, if_pos g2.symm]
          · rw [if_neg g2, if_neg (fun q => g2 q.symm)]
        · rw [if_neg g, if_neg g]
      · show upd _ i _ j = upd _ i _ j
        rw [p_upd, p_upd, a2 j hj]
      · show upd _ i _ j = _
        rw [p_upd, if_neg (by omega), a3 j hj]
    · rw [if_neg h2, if_neg h2]
      exact ⟨a1, a2, a3⟩
theorem p_lw {c : KC} {so le gr : Nat → Int32} (hn : mnd c ≤ 400) (hd : p_nod c) (hF : ∀ j, j < mnd c → so j = mso c j ∧ (mso c j = 2 → le j = nI (mon c j) ∧ gr j = nI (mtw c j))) : ∀ (k : Nat) (z : Int32) (lv lw : Nat → Int32), (∀ j, j < mnd c → lv j = lw j) → (∀ j, j < mnd c → k_lw so le gr (mnd c) k z lv j = k_it (m_fF c) k z lw j) ∧ ∀ j, mnd c ≤ j → k_lw so le gr (mnd c) k z lv j = lv j := by
  intro k
  induction k with
  | zero => intro z lv lw h; rw [k_lw, k_it]; exact ⟨h, fun _ _ => rfl⟩
  | succ k ih =>
    intro z lv lw h
    rw [k_lw, k_it]
    by_cases g : z = 0
    · rw [if_pos g, if_pos g]; exact ⟨h, fun _ _ => rfl⟩
    · rw [if_neg g, if_neg g]
      obtain ⟨a1, a2, a3⟩ := p_rs hn hd hF h (mnd c) (Nat.le_refl _)
      have b := ih (k_rs so le gr lv (mnd c)).1 (k_rs so le gr lv (mnd c)).2 (m_fw c lw (mnd c)).2 a2
      rw [a1] at b ⊢
      exact ⟨b.1, fun j hj => (b.2 j hj).trans (a3 j hj)⟩
theorem p_gmax {lv lw : Nat → Int32} {n : Nat} (hn : n ≤ 400) (h : ∀ j, j < n → lv j = lw j) (h0 : ∀ j, n ≤ j → j < 400 → lv j = 0) : ∀ i, i ≤ 400 → k_gmax lv i = m_gr lw (min i n) ∧ ¬ k_gmax lv i < 0 := by
  intro i
  induction i with
  | zero => intro _; rw [Nat.min_eq_left (Nat.zero_le _)]; exact ⟨rfl, show ¬ (0 : Int32) < 0 by decide⟩
  | succ i ih =>
    intro hi
    obtain ⟨a1, a2⟩ := ih (by omega)
    rw [k_gmax, p_cat (by omega) (by omega)]
    by_cases g : i < n
    · rw [Nat.min_eq_left (by omega)] at a1 ⊢
      rw [m_gr, ← a1, h i g]
      unfold k_max
      refine ⟨rfl, ?_⟩
      by_cases q : k_gmax lv i < lw i
      · rw [if_pos q]; exact fun q2 => a2 (Int32.lt_trans q q2)
      · rw [if_neg q]; exact a2
    · rw [Nat.min_eq_right (by omega)] at a1 ⊢
      rw [h0 i (by omega) (by omega)]
      unfold k_max
      rw [if_neg a2]
      exact ⟨a1, a2⟩
