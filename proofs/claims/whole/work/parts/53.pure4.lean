/-! PURE, fourth: what marks reach -/
def p_Rch (c : KC) (S : Nat → Prop) (j : Nat) : Prop := ∀ P : Nat → Prop, (∀ i, S i → P i) → (∀ i, i < mnd c → mso c i = 2 → P i → P (mon c i / 2) ∧ P (mtw c i / 2)) → P j
theorem p_Rch_iff {c : KC} {S T : Nat → Prop} (h : ∀ i, S i ↔ T i) (j : Nat) : p_Rch c S j ↔ p_Rch c T j :=
  ⟨fun g P a b => g P (fun i hi => a i ((h i).mp hi)) b, fun g P a b => g P (fun i hi => a i ((h i).mpr hi)) b⟩
/-- how many are not marked -/
def p_uc (f : Nat → Int32) : Nat → Nat
  | 0 => 0
  | n + 1 => p_uc f n + (if f n = 0 then 1 else 0)
theorem p_uc_le (f : Nat → Int32) : ∀ n, p_uc f n ≤ n := by
  intro n
  induction n with
  | zero => exact Nat.le_refl _
  | succ n ih => rw [p_uc]; split <;> omega
theorem p_uc_mono {f g : Nat → Int32} : ∀ n, (∀ j, j < n → f j ≠ 0 → g j ≠ 0) → p_uc g n ≤ p_uc f n := by
  intro n
  induction n with
  | zero => intro _; exact Nat.le_refl _
  | succ n ih =>
    intro h
    have a := ih (fun j hj => h j (by omega))
    have b := h n (by omega)
    rw [p_uc, p_uc]
    by_cases e : f n = 0
    · rw [if_pos e]; split <;> omega
    · rw [if_neg e, if_neg (b e)]; omega
theorem p_uc_lt {f g : Nat → Int32} : ∀ n, (∀ j, j < n → f j ≠ 0 → g j ≠ 0) → (∃ j, j < n ∧ f j = 0 ∧ g j ≠ 0) → p_uc g n < p_uc f n := by
  intro n
  induction n with
  | zero => rintro _ ⟨j, hj, _⟩; omega
  | succ n ih =>
    rintro h ⟨j, hj, h1, h2⟩
    rw [p_uc, p_uc]
    by_cases e : j = n
    · subst e
      have a := p_uc_mono j (fun i hi => h i (by omega))
      rw [if_pos h1, if_neg h2]
      omega
    · have a := ih (fun j hj => h j (by omega)) ⟨j, by omega, h1, h2⟩
      have b := h n (by omega)
      by_cases e2 : f n = 0
      · rw [if_pos e2]; split <;> omega
      · rw [if_neg e2, if_neg (b e2)]; omega
/-- one sweep of side m -/
theorem p_cw {c : KC} (hd : p_nod c) (be : Nat → Int32) : ∀ i, i ≤ mnd c → (∀ j, be j ≠ 0 → (m_cw c be i).2 j ≠ 0) ∧ (((m_cw c be i).1 = 0 ∧ (m_cw c be i).2 = be ∧ ∀ j, j < i → mso c j = 2 → be j ≠ 0 → be (mon c j / 2) ≠ 0 ∧ be (mtw c j / 2) ≠ 0) ∨ ((m_cw c be i).1 = 1 ∧ ∃ j, j < mnd c ∧ be j = 0 ∧ (m_cw c be i).2 j ≠ 0)) ∧
    ∀ P : Nat → Prop, (∀ i, i < mnd c → mso c i = 2 → P i → P (mon c i / 2) ∧ P (mtw c i / 2)) → (∀ j, j < mnd c → be j ≠ 0 → P j) → ∀ j, j < mnd c → (m_cw c be i).2 j ≠ 0 → P j := by
  intro i
  induction i with
  | zero => intro _; exact ⟨fun j h => h, Or.inl ⟨rfl, rfl, fun j h => absurd h (Nat.not_lt_zero _)⟩, fun P _ h => h⟩
  | succ i ih =>
    intro hi
    obtain ⟨a1, a2, a3⟩ := ih (by omega)
    rw [m_cw]
    unfold m_cwS
    by_cases h0 : (m_cw c be i).2 i = 0
    · rw [if_pos h0]
      refine ⟨a1, a2.imp (fun q => ⟨q.1, q.2.1, fun j hj h2 hb => ?_⟩) id, a3⟩
      by_cases e : j = i
      · subst e; rw [q.2.1] at h0; exact absurd h0 hb
      · exact q.2.2 j (by omega) h2 hb
    · rw [if_neg h0]
      by_cases h2 : mso c i = 2
      · rw [if_pos h2]
        have d := hd i (by omega) h2
        have pr : ∀ j, upd (upd (m_cw c be i).2 (mon c i / 2) 1) (mtw c i / 2) 1 j = if j = mtw c i / 2 then 1 else if j = mon c i / 2 then 1 else (m_cw c be i).2 j := fun j => by rw [p_upd, p_upd]
        have grow : ∀ j, (m_cw c be i).2 j ≠ 0 → upd (upd (m_cw c be i).2 (mon c i / 2) 1) (mtw c i / 2) 1 j ≠ 0 := fun j h => by
          rw [pr]
          split
          · decide
          · split
            · decide
            · exact h
        have clo : ∀ P : Nat → Prop, (∀ i, i < mnd c → mso c i = 2 → P i → P (mon c i / 2) ∧ P (mtw c i / 2)) → (∀ j, j < mnd c → be j ≠ 0 → P j) → ∀ j, j < mnd c → upd (upd (m_cw c be i).2 (mon c i / 2) 1) (mtw c i / 2) 1 j ≠ 0 → P j := fun P h1 h3 j hj hm => by
          have pi := h1 i (by omega) h2 (a3 P h1 h3 i (by omega) h0)
          rw [pr] at hm
          by_cases e1 : j = mtw c i / 2
          · rw [e1]; exact pi.2
          · rw [if_neg e1] at hm
            by_cases e2 : j = mon c i / 2
            · rw [e2]; exact pi.1
            · rw [if_neg e2] at hm; exact a3 P h1 h3 j hj hm
        have new : ∀ v, v < mnd c → (v = mon c i / 2 ∨ v = mtw c i / 2) → (m_cw c be i).2 v = 0 → ∃ j, j < mnd c ∧ be j = 0 ∧ upd (upd (m_cw c be i).2 (mon c i / 2) 1) (mtw c i / 2) 1 j ≠ 0 := fun v hv hw h => by
          refine ⟨v, hv, Classical.byContradiction (fun q => a1 v q h), ?_⟩
          rw [pr]
          by_cases e1 : v = mtw c i / 2
          · rw [if_pos e1]; decide
          · rw [if_neg e1]
            rcases hw with e | e
            · rw [if_pos e]; decide
            · exact absurd e e1
        by_cases g1 : (m_cw c be i).2 (mon c i / 2) = 0
        · rw [if_pos g1]
          exact ⟨fun j h => grow j (a1 j h), Or.inr ⟨rfl, new _ d.1 (Or.inl rfl) g1⟩, clo⟩
        · rw [if_neg g1]
          by_cases g2 : (m_cw c be i).2 (mtw c i / 2) = 0
          · rw [if_pos g2]
            exact ⟨fun j h => grow j (a1 j h), Or.inr ⟨rfl, new _ d.2 (Or.inr rfl) g2⟩, clo⟩
          · rw [if_neg g2]
            refine ⟨a1, a2.imp (fun q => ⟨q.1, q.2.1, fun j hj h2 hb => ?_⟩) id, a3⟩
            by_cases e : j = i
            · subst e; rw [q.2.1] at g1 g2; exact ⟨g1, g2⟩
            · exact q.2.2 j (by omega) h2 hb
      · rw [if_neg h2]
        refine ⟨a1, a2.imp (fun q => ⟨q.1, q.2.1, fun j hj h3 hb => ?_⟩) id, a3⟩
        by_cases e : j = i
        · subst e; exact absurd h3 h2
        · exact q.2.2 j (by omega) h3 hb
theorem p_cone_fin {c : KC} (hd : p_nod c) : ∀ (K : Nat) (z : Int32) (be : Nat → Int32), z = 0 ∨ p_uc be (mnd c) < K → k_itF (m_cF c) (fun _ => True) K z be := by
  intro K
  induction K with
  | zero => intro z be h; exact ⟨h.elim id (fun q => absurd q (Nat.not_lt_zero _)), trivial⟩
  | succ K ih =>
    intro z be h
    refine ⟨trivial, h.imp id (fun q => ih _ _ ?_)⟩
    obtain ⟨a1, a2, -⟩ := p_cw hd be (mnd c) (Nat.le_refl _)
    rcases a2 with a | a
    · exact Or.inl a.1
    · refine Or.inr ?_
      have := p_uc_lt (g := (m_cw c be (mnd c)).2) (mnd c) (fun j _ => a1 j) a.2
      show p_uc (m_cw c be (mnd c)).2 (mnd c) < K
      omega
theorem p_cone {c : KC} (hn : mnd c ≤ 400) (hd : p_nod c) (be : Nat → Int32) : ∀ j, j < mnd c → (¬ k_it (m_cF c) 401 1 be j = 0 ↔ p_Rch c (fun i => i < mnd c ∧ be i ≠ 0) j) := by
  intro j hj
  constructor
  · intro h P h1 h2
    have := p_it_all (m_cF c) (fun x => ∀ j, j < mnd c → x j ≠ 0 → P j) (fun x hx => (p_cw hd x (mnd c) (Nat.le_refl _)).2.2 P h2 hx) 401 1 be (fun j hj hb => h1 j ⟨hj, hb⟩)
    exact this j hj h
  · intro h
    obtain ⟨x', e, h0⟩ := p_it_end (m_cF c) 401 1 be (p_cone_fin hd 401 1 be (Or.inr (by have := p_uc_le be (mnd c); omega))) (by decide)
    obtain ⟨-, a2, -⟩ := p_cw hd x' (mnd c) (Nat.le_refl _)
    have a : (m_cw c x' (mnd c)).2 = x' ∧ ∀ j, j < mnd c → mso c j = 2 → x' j ≠ 0 → x' (mon c j / 2) ≠ 0 ∧ x' (mtw c j / 2) ≠ 0 := by
      rcases a2 with a | a
      · exact a.2
      · exact absurd (h0.symm.trans a.1) (by decide)
    have e2 : k_it (m_cF c) 401 1 be = x' := e.trans a.1
    rw [e2]
    have grow : ∀ i, be i ≠ 0 → x' i ≠ 0 := by
      intro i hi
      rw [← e2]
      exact p_it_all (m_cF c) (fun x => x i ≠ 0) (fun x hx => (p_cw hd x (mnd c) (Nat.le_refl _)).1 i hx) 401 1 be hi
    exact h (fun i => x' i ≠ 0) (fun i hi => grow i hi.2) (fun i hi h2 hb => a.2 i hi h2 hb)
/-- side k's marks and what waits -/
def p_W (c : KC) (e : KE) (w u : Nat) : Prop := e.2.2 = nI w ∧ w + p_uc e.1 (mnd c) ≤ u ∧ (∀ t, t < w → ∃ v, v < mnd c ∧ e.2.1 t = nI v ∧ e.1 v = 1) ∧ ∀ j, j < mnd c → e.1 j = 0 ∨ e.1 j = 1
theorem p_markm (e : KE) : k_mark (-1) e = e := by
  unfold k_mark
  rw [p_catm, if_neg (by decide)]
theorem p_mark {c : KC} {e : KE} {w u v : Nat} (hn : mnd c ≤ 400) (hu : u ≤ 400) (hv : v < mnd c) (hW : p_W c e w u) : ∃ w', p_W c (k_mark (nI v) e) w' u ∧ w ≤ w' ∧ (∀ t, t < w → (k_mark (nI v) e).2.1 t = e.2.1 t) ∧ (k_mark (nI v) e).1 v = 1 ∧ (∀ j, e.1 j = 1 → (k_mark (nI v) e).1 j = 1) ∧
    (∀ j, j < mnd c → (k_mark (nI v) e).1 j = 1 → e.1 j = 1 ∨ (j = v ∧ ∃ t, w ≤ t ∧ t < w' ∧ (k_mark (nI v) e).2.1 t = nI j)) := by
  obtain ⟨h1, h2, h3, h4⟩ := hW
  unfold k_mark
  rw [p_cat (by omega) (by omega)]
  by_cases h : e.1 v = 0
  · rw [if_pos h, p_cpt (by omega) (by omega), h1]
    have lt := p_uc_lt (f := e.1) (g := upd e.1 v 1) (mnd c) (fun j _ hj => by rw [p_upd]; split; decide; exact hj) ⟨v, hv, h, by rw [pk_us]; decide⟩
    rw [p_cpt (by omega) (by omega)]
    refine ⟨w + 1, ⟨nI_1 w, ?_, fun t ht => ?_, fun j hj => ?_⟩, by omega, fun t ht => ?_, ?_, fun j hj => ?_, fun j hj hm => ?_⟩
    · show w + 1 + p_uc (upd e.1 v 1) (mnd c) ≤ u
      omega
    · show ∃ v', v' < mnd c ∧ upd e.2.1 w (nI v) t = nI v' ∧ upd e.1 v 1 v' = 1
      by_cases q : t = w
      · subst q; exact ⟨v, hv, pk_us, pk_us⟩
      · obtain ⟨v', g1, g2, g3⟩ := h3 t (by omega)
        refine ⟨v', g1, by rw [pk_un q]; exact g2, ?_⟩
        rw [p_upd]; split
        · rfl
        · exact g3
    · show upd e.1 v 1 j = 0 ∨ upd e.1 v 1 j = 1
      rw [p_upd]; split
      · exact Or.inr rfl
      · exact h4 j hj
    · show upd e.2.1 w (nI v) t = _
      rw [pk_un (by omega)]
    · exact pk_us
    · show upd e.1 v 1 j = 1
      rw [p_upd]; split
      · rfl
      · exact hj
    · have hm : upd e.1 v 1 j = 1 := hm
      by_cases q : j = v
      · subst q; exact Or.inr ⟨rfl, w, Nat.le_refl _, by omega, pk_us⟩
      · rw [pk_un q] at hm; exact Or.inl hm
  · rw [if_neg h]
    refine ⟨w, ⟨h1, h2, h3, h4⟩, Nat.le_refl _, fun _ _ => rfl, (h4 v hv).resolve_left h, fun _ q => q, fun _ _ q => Or.inl q⟩
/-- marked ands have their fanins marked, or wait -/
def p_CL (c : KC) (e : KE) (w : Nat) : Prop := ∀ i, i < mnd c → mso c i = 2 → e.1 i = 1 → (e.1 (mon c i / 2) = 1 ∧ e.1 (mtw c i / 2) = 1) ∨ ∃ t, t < w ∧ e.2.1 t = nI i
theorem p_sps {c : KC} {le gr : Nat → Int32} {e : KE} {w u : Nat} (hn : mnd c ≤ 400) (hd : p_nod c) (hb : ∀ j, j < mnd c → mon c j < 800 ∧ mtw c j < 800) (hF : ∀ j, j < mnd c → le j = (if mso c j = 2 then nI (mon c j) else -1) ∧ gr j = (if mso c j = 2 then nI (mtw c j) else -1)) (hu : u < 400) (hW : p_W c e (w + 1) (u + 1)) (hC : p_CL c e (w + 1)) :
    ∃ w', p_W c (k_spS le gr e) w' u ∧ p_CL c (k_spS le gr e) w' ∧ (∀ j, e.1 j = 1 → (k_spS le gr e).1 j = 1) ∧ ∀ P : Nat → Prop, (∀ i, i < mnd c → mso c i = 2 → P i → P (mon c i / 2) ∧ P (mtw c i / 2)) → (∀ j, j < mnd c → e.1 j = 1 → P j) → ∀ j, j < mnd c → (k_spS le gr e).1 j = 1 → P j := by
  obtain ⟨h1, h2, h3, h4⟩ := hW
  obtain ⟨v, hv, ev, mv⟩ := h3 w (by omega)
  unfold k_spS
  have e1 : e.2.2 - 1 = nI w := by rw [h1]; exact nI_pred w
  rw [e1, p_cat (by omega) (by omega), ev, p_cat (by omega) (by omega), p_cat (by omega) (by omega), (hF v hv).1, (hF v hv).2]
  have W0 : p_W c (e.1, e.2.1, nI w) w u := ⟨rfl, by show w + p_uc e.1 (mnd c) ≤ u; omega, fun t ht => h3 t (by omega), h4⟩
  by_cases hs : mso c v = 2
  · obtain ⟨d1, d2⟩ := hd v hv hs
    obtain ⟨b1, b2⟩ := hb v hv
    rw [if_pos hs, if_pos hs, p_node (by omega), p_node (by omega)]
    obtain ⟨w1, W1, l1, k1, m1, g1, n1⟩ := p_mark hn (by omega) d1 W0
    generalize k_mark (nI (mon c v / 2)) (e.1, e.2.1, nI w) = ea at *
    obtain ⟨w2, W2, l2, k2, m2, g2, n2⟩ := p_mark hn (by omega) d2 W1
    generalize k_mark (nI (mtw c v / 2)) ea = eb at *
    refine ⟨w2, W2, fun i hi hi2 hm => ?_, fun j hj => g2 j (g1 j hj), fun P hP1 hP2 j hj hm => ?_⟩
    · rcases n2 i hi hm with q | ⟨-, t, q1, q2, q3⟩
      · rcases n1 i hi q with q | ⟨-, t, q1, q2, q3⟩
        · rcases hC i hi hi2 q with ⟨c1, c2⟩ | ⟨t, ht, et⟩
          · exact Or.inl ⟨g2 _ (g1 _ c1), g2 _ (g1 _ c2)⟩
          · by_cases ew : t = w
            · subst ew
              have ei : i = v := (nI_eq (by omega) (by omega)).mp (et.symm.trans ev)
              subst ei
              exact Or.inl ⟨g2 _ m1, m2⟩
            · exact Or.inr ⟨t, by omega, by rw [k2 t (by omega), k1 t (by omega)]; exact et⟩
        · exact Or.inr ⟨t, by omega, by rw [k2 t (by omega)]; exact q3⟩
      · exact Or.inr ⟨t, q2, q3⟩
    · have pv := hP1 v hv hs (hP2 v hv mv)
      rcases n2 j hj hm with q | ⟨q, -⟩
      · rcases n1 j hj q with q | ⟨q, -⟩
        · exact hP2 j hj q
        · rw [q]; exact pv.1
      · rw [q]; exact pv.2
  · rw [if_neg hs, if_neg hs, p_nodem, p_markm, p_markm]
    refine ⟨w, W0, fun i hi hi2 hm => ?_, fun _ q => q, fun P _ hP2 => hP2⟩
    rcases hC i hi hi2 hm with q | ⟨t, ht, et⟩
    · exact Or.inl q
    · by_cases ew : t = w
      · subst ew
        have ei : i = v := (nI_eq (by omega) (by omega)).mp (et.symm.trans ev)
        subst ei
        exact absurd hi2 hs
      · exact Or.inr ⟨t, by omega, et⟩
theorem p_spr {c : KC} {le gr : Nat → Int32} (hn : mnd c ≤ 400) (hd : p_nod c) (hb : ∀ j, j < mnd c → mon c j < 800 ∧ mtw c j < 800) (hF : ∀ j, j < mnd c → le j = (if mso c j = 2 then nI (mon c j) else -1) ∧ gr j = (if mso c j = 2 then nI (mtw c j) else -1)) : ∀ (k : Nat) (e : KE) (w : Nat), k ≤ 400 → p_W c e w k → p_CL c e w →
    (∀ j, e.1 j = 1 → (k_spr le gr k e).1 j = 1) ∧ (∀ i, i < mnd c → mso c i = 2 → (k_spr le gr k e).1 i = 1 → (k_spr le gr k e).1 (mon c i / 2) = 1 ∧ (k_spr le gr k e).1 (mtw c i / 2) = 1) ∧ (∀ P : Nat → Prop, (∀ i, i < mnd c → mso c i = 2 → P i → P (mon c i / 2) ∧ P (mtw c i / 2)) → (∀ j, j < mnd c → e.1 j = 1 → P j) → ∀ j, j < mnd c → (k_spr le gr k e).1 j = 1 → P j) := by
  intro k
  induction k with
  | zero =>
    intro e w _ hW hC
    rw [k_spr]
    have w0 : w = 0 := by have := hW.2.1; omega
    subst w0
    refine ⟨fun _ q => q, fun i hi h2 hm => ?_, fun P _ h => h⟩
    rcases hC i hi h2 hm with q | ⟨t, ht, _⟩
    · exact q
    · omega
  | succ k ih =>
    intro e w hk hW hC
    rw [k_spr]
    have hw : w ≤ 400 := by have := hW.2.1; omega
    cases w with
    | zero =>
      rw [if_pos (by rw [hW.1]; exact (nI_leI (a := 0) (b := 0) (by omega) (by omega)).mpr (Nat.le_refl 0))]
      refine ⟨fun _ q => q, fun i hi h2 hm => ?_, fun P _ h => h⟩
      rcases hC i hi h2 hm with q | ⟨t, ht, _⟩
      · exact q
      · omega
    | succ w =>
      rw [if_neg (by rw [hW.1]; exact fun q => absurd ((nI_leI (a := w + 1) (b := 0) (by omega) (by omega)).mp q) (by omega))]
      obtain ⟨w', W', C', g, p⟩ := p_sps hn hd hb hF (by omega) hW hC
      obtain ⟨a1, a2, a3⟩ := ih (k_spS le gr e) w' (by omega) W' C'
      exact ⟨fun j hj => a1 j (g j hj), a2, fun P h1 h2 => a3 P h1 (p P h1 h2)⟩
/-- where all that is marked waits -/
def p_AW (c : KC) (e : KE) (w : Nat) : Prop := p_W c e w 400 ∧ ∀ j, j < mnd c → e.1 j = 1 → ∃ t, t < w ∧ e.2.1 t = nI j
theorem p_reach {c : KC} {le gr : Nat → Int32} {e : KE} {w : Nat} (hn : mnd c ≤ 400) (hd : p_nod c) (hb : ∀ j, j < mnd c → mon c j < 800 ∧ mtw c j < 800) (hF : ∀ j, j < mnd c → le j = (if mso c j = 2 then nI (mon c j) else -1) ∧ gr j = (if mso c j = 2 then nI (mtw c j) else -1)) (hA : p_AW c e w) : ∀ j, j < mnd c → ((k_spr le gr 400 e).1 j = 1 ↔ p_Rch c (fun i => i < mnd c ∧ e.1 i = 1) j) := by
  intro j hj
  obtain ⟨a1, a2, a3⟩ := p_spr hn hd hb hF 400 e w (Nat.le_refl _) hA.1 (fun i hi _ hm => Or.inr (hA.2 i hi hm))
  exact ⟨fun h P h1 h2 => a3 P h2 (fun i hi hm => h1 i ⟨hi, hm⟩) j hj h, fun h => h (fun i => (k_spr le gr 400 e).1 i = 1) (fun i hi => a1 i hi.2) a2⟩
theorem p_clr {c : KC} (hn : mnd c ≤ 400) (e : KE) : p_AW c (k_clr e) 0 ∧ ∀ j, j < mnd c → (k_clr e).1 j = 0 := by
  have z : ∀ j, j < mnd c → (k_clr e).1 j = 0 := fun j hj => by
    show k_fillF e.1 0 400 j = 0
    unfold k_fillF
    rw [if_pos (by omega)]
  refine ⟨⟨⟨rfl, by have := p_uc_le (k_clr e).1 (mnd c); omega, fun t ht => absurd ht (Nat.not_lt_zero _), fun j hj => Or.inl (z j hj)⟩, fun j hj h => ?_⟩, z⟩
  rw [z j hj] at h
  exact absurd h (by decide)
theorem p_AW_mark {c : KC} {e : KE} {w v : Nat} (hn : mnd c ≤ 400) (hv : v < mnd c) (hA : p_AW c e w) : (∃ w', p_AW c (k_mark (nI v) e) w') ∧ ∀ j, j < mnd c → ((k_mark (nI v) e).1 j = 1 ↔ (e.1 j = 1 ∨ j = v)) := by
  obtain ⟨w', a1, a2, a3, a4, a5, a6⟩ := p_mark hn (Nat.le_refl 400) hv hA.1
  refine ⟨⟨w', a1, fun j hj hm => ?_⟩, fun j hj => ⟨fun h => (a6 j hj h).imp id (fun q => q.1), fun h => ?_⟩⟩
  · rcases a6 j hj hm with q | ⟨-, t, q1, q2, q3⟩
    · obtain ⟨t, ht, et⟩ := hA.2 j hj q
      exact ⟨t, by omega, by rw [a3 t ht]; exact et⟩
    · exact ⟨t, q2, q3⟩
  · rcases h with q | q
    · exact a5 j q
    · rw [q]; exact a4
/-- at or above: both sides alike -/
theorem p_above {c : KC} {le gr be : Nat → Int32} {e : KE} {v : Nat} (hn : mnd c ≤ 400) (hd : p_nod c) (hb : ∀ j, j < mnd c → mon c j < 800 ∧ mtw c j < 800) (hF : ∀ j, j < mnd c → le j = (if mso c j = 2 then nI (mon c j) else -1) ∧ gr j = (if mso c j = 2 then nI (mtw c j) else -1)) (hv : v < mnd c) :
    ∀ j, j < mnd c → ((k_spr le gr 400 (k_mark (nI v) (k_clr e))).1 j = 1 ↔ p_Rch c (fun i => i = v) j) ∧ (¬ k_it (m_cF c) 401 1 (m_cn0 be v (mnd c)) j = 0 ↔ p_Rch c (fun i => i = v) j) := by
  intro j hj
  obtain ⟨a1, a2⟩ := p_clr hn e
  obtain ⟨⟨w, hA⟩, hm⟩ := p_AW_mark hn hv a1
  constructor
  · rw [p_reach hn hd hb hF hA j hj]
    refine p_Rch_iff (fun i => ⟨fun q => ?_, fun q => ?_⟩) j
    · rcases (hm i q.1).mp q.2 with z | z
      · rw [a2 i q.1] at z; exact absurd z (by decide)
      · exact z
    · rw [q]; exact ⟨hv, (hm v hv).mpr (Or.inr rfl)⟩
  · rw [p_cone hn hd _ j hj]
    refine p_Rch_iff (fun i => ⟨fun q => ?_, fun q => ?_⟩) j
    · have := q.2
      unfold m_cn0 at this
      rw [if_pos q.1] at this
      by_cases z : i = v
      · exact z
      · rw [if_neg z] at this; exact absurd rfl this
    · rw [q]
      refine ⟨hv, ?_⟩
      unfold m_cn0
      rw [if_pos hv, if_pos rfl]
      decide
/-- what the users have -/
def p_US (c : KC) (j : Nat) : Prop := (∃ k, k < moc c ∧ mou c k / 2 = j) ∨ ∃ i, i < mnd c ∧ mso c i = 3 ∧ mon c i / 2 = j
theorem p_mkO {c : KC} {ou : Nat → Int32} {e : KE} (hn : mnd c ≤ 400) (ho : moc c ≤ 40) (hF : ∀ k, k < moc c → ou k = nI (mou c k)) (hl : ∀ k, k < moc c → mou c k / 2 < mnd c) {w : Nat} (hA : p_AW c e w) : ∀ i, i ≤ moc c → (∃ w', p_AW c (k_mkR 40 ou e i) w') ∧ ∀ j, j < mnd c → ((k_mkR 40 ou e i).1 j = 1 ↔ (e.1 j = 1 ∨ ∃ k, k < i ∧ mou c k / 2 = j)) := by
  intro i
  induction i with
  | zero => intro _; exact ⟨⟨w, hA⟩, fun j _ => ⟨fun h => Or.inl h, fun h => h.elim id (fun ⟨k, hk, _⟩ => absurd hk (Nat.not_lt_zero _))⟩⟩
  | succ i ih =>
    intro hi
    obtain ⟨⟨w', h1⟩, h2⟩ := ih (by omega)
    have l := hl i (by omega)
    rw [k_mkR, p_cat (by omega) (by omega), hF i (by omega), p_node (by omega)]
    obtain ⟨g1, g2⟩ := p_AW_mark hn l h1
    refine ⟨g1, fun j hj => ?_⟩
    rw [g2 j hj, h2 j hj]
    constructor
    · rintro ((h | ⟨k, hk, e⟩) | h)
      · exact Or.inl h
      · exact Or.inr ⟨k, by omega, e⟩
      · exact Or.inr ⟨i, by omega, h.symm⟩
    · rintro (h | ⟨k, hk, e⟩)
      · exact Or.inl (Or.inl h)
      · by_cases q : k = i
        · subst q; exact Or.inr e.symm
        · exact Or.inl (Or.inr ⟨k, by omega, e⟩)
theorem p_mkN {c : KC} {ne : Nat → Int32} {e : KE} (hn : mnd c ≤ 400) (hF : ∀ j, j < mnd c → ne j = (if mso c j = 3 then nI (mon c j) else -1)) (hl : ∀ j, j < mnd c → mso c j = 3 → mon c j / 2 < mnd c) {w : Nat} (hA : p_AW c e w) : ∀ i, i ≤ mnd c → (∃ w', p_AW c (k_mkR 400 ne e i) w') ∧ ∀ j, j < mnd c → ((k_mkR 400 ne e i).1 j = 1 ↔ (e.1 j = 1 ∨ ∃ k, k < i ∧ mso c k = 3 ∧ mon c k / 2 = j)) := by
  intro i
  induction i with
  | zero => intro _; exact ⟨⟨w, hA⟩, fun j _ => ⟨fun h => Or.inl h, fun h => h.elim id (fun ⟨k, hk, _⟩ => absurd hk (Nat.not_lt_zero _))⟩⟩
  | succ i ih =>
    intro hi
    obtain ⟨⟨w', h1⟩, h2⟩ := ih (by omega)
    rw [k_mkR, p_cat (by omega) (by omega), hF i (by omega)]
    by_cases h3 : mso c i = 3
    · have l := hl i (by omega) h3
      rw [if_pos h3, p_node (by omega)]
      obtain ⟨g1, g2⟩ := p_AW_mark hn l h1
      refine ⟨g1, fun j hj => ?_⟩
      rw [g2 j hj, h2 j hj]
      constructor
      · rintro ((h | ⟨k, hk, e⟩) | h)
        · exact Or.inl h
        · exact Or.inr ⟨k, by omega, e⟩
        · exact Or.inr ⟨i, by omega, h3, h.symm⟩
      · rintro (h | ⟨k, hk, q3, e⟩)
        · exact Or.inl (Or.inl h)
        · by_cases q : k = i
          · subst q; exact Or.inr e.symm
          · exact Or.inl (Or.inr ⟨k, by omega, q3, e⟩)
    · rw [if_neg h3, p_nodem, p_markm]
      refine ⟨⟨w', h1⟩, fun j hj => ?_⟩
      rw [h2 j hj]
      constructor
      · rintro (h | ⟨k, hk, e⟩)
        · exact Or.inl h
        · exact Or.inr ⟨k, by omega, e⟩
      · rintro (h | ⟨k, hk, q3, e⟩)
        · exact Or.inl h
        · by_cases q : k = i
          · subst q; exact absurd q3 h3
          · exact Or.inr ⟨k, by omega, q3, e⟩
theorem p_mO {f : Nat → Nat} {be : Nat → Int32} : ∀ i j, (¬ m_mO f be i j = 0 ↔ (¬ be j = 0 ∨ ∃ k, k < i ∧ f k / 2 = j)) := by
  intro i
  induction i with
  | zero => intro j; exact ⟨fun h => Or.inl h, fun h => h.elim id (fun ⟨k, hk, _⟩ => absurd hk (Nat.not_lt_zero _))⟩
  | succ i ih =>
    intro j
    rw [m_mO, p_upd]
    by_cases q : j = f i / 2
    · rw [if_pos q]
      exact ⟨fun _ => Or.inr ⟨i, by omega, q.symm⟩, fun _ => by decide⟩
    · rw [if_neg q, ih j]
      constructor
      · rintro (h | ⟨k, hk, e⟩)
        · exact Or.inl h
        · exact Or.inr ⟨k, by omega, e⟩
      · rintro (h | ⟨k, hk, e⟩)
        · exact Or.inl h
        · by_cases z : k = i
          · subst z; exact absurd e.symm q
          · exact Or.inr ⟨k, by omega, e⟩
theorem p_mL {c : KC} {be : Nat → Int32} : ∀ i j, (¬ m_mL c be i j = 0 ↔ (¬ be j = 0 ∨ ∃ k, k < i ∧ mso c k = 3 ∧ mon c k / 2 = j)) := by
  intro i
  induction i with
  | zero => intro j; exact ⟨fun h => Or.inl h, fun h => h.elim id (fun ⟨k, hk, _⟩ => absurd hk (Nat.not_lt_zero _))⟩
  | succ i ih =>
    intro j
    rw [m_mL]
    by_cases h3 : mso c i = 3
    · rw [if_pos h3, p_upd]
      by_cases q : j = mon c i / 2
      · rw [if_pos q]
        exact ⟨fun _ => Or.inr ⟨i, by omega, h3, q.symm⟩, fun _ => by decide⟩
      · rw [if_neg q, ih j]
        constructor
        · rintro (h | ⟨k, hk, e⟩)
          · exact Or.inl h
          · exact Or.inr ⟨k, by omega, e⟩
        · rintro (h | ⟨k, hk, q3, e⟩)
          · exact Or.inl h
          · by_cases z : k = i
            · subst z; exact absurd e.symm q
            · exact Or.inr ⟨k, by omega, q3, e⟩
    · rw [if_neg h3, ih j]
      constructor
      · rintro (h | ⟨k, hk, e⟩)
        · exact Or.inl h
        · exact Or.inr ⟨k, by omega, e⟩
      · rintro (h | ⟨k, hk, q3, e⟩)
        · exact Or.inl h
        · by_cases z : k = i
          · subst z; exact absurd q3 h3
          · exact Or.inr ⟨k, by omega, q3, e⟩
/-- used: both sides alike -/
theorem p_used {c : KC} {le gr ne ou be : Nat → Int32} {e : KE} (hn : mnd c ≤ 400) (ho : moc c ≤ 40) (hd : p_nod c) (hb : ∀ j, j < mnd c → mon c j < 800 ∧ mtw c j < 800) (hF : ∀ j, j < mnd c → le j = (if mso c j = 2 then nI (mon c j) else -1) ∧ gr j = (if mso c j = 2 then nI (mtw c j) else -1)) (hN : ∀ j, j < mnd c → ne j = (if mso c j = 3 then nI (mon c j) else -1)) (hO : ∀ k, k < moc c → ou k = nI (mou c k)) (hlo : ∀ k, k < moc c → mou c k / 2 < mnd c) (hll : ∀ j, j < mnd c → mso c j = 3 → mon c j / 2 < mnd c) :
    ∀ j, j < mnd c → ((k_spr le gr 400 (k_mkR 400 ne (k_mkR 40 ou (k_clr e) (moc c)) (mnd c))).1 j = 1 ↔ p_Rch c (p_US c) j) ∧ (¬ k_it (m_cF c) 401 1 (m_us0 c be) j = 0 ↔ p_Rch c (p_US c) j) := by
  intro j hj
  obtain ⟨a1, a2⟩ := p_clr hn e
  obtain ⟨⟨w1, A1⟩, m1⟩ := p_mkO hn ho hO hlo a1 (moc c) (Nat.le_refl _)
  obtain ⟨⟨w2, A2⟩, m2⟩ := p_mkN hn hN hll A1 (mnd c) (Nat.le_refl _)
  have us : ∀ i, p_US c i → i < mnd c := fun i h => h.elim (fun ⟨k, hk, q⟩ => q ▸ hlo k hk) (fun ⟨k, hk, q3, q⟩ => q ▸ hll k hk q3)
  constructor
  · rw [p_reach hn hd hb hF A2 j hj]
    refine p_Rch_iff (fun i => ⟨fun q => ?_, fun q => ⟨us i q, ?_⟩⟩) j
    · rcases (m2 i q.1).mp q.2 with z | z
      · rcases (m1 i q.1).mp z with z | z
        · rw [a2 i q.1] at z; exact absurd z (by decide)
        · exact Or.inl z
      · exact Or.inr z
    · rw [m2 i (us i q), m1 i (us i q)]
      exact q.elim (fun z => Or.inl (Or.inr z)) (fun z => Or.inr z)
  · rw [p_cone hn hd _ j hj]
    refine p_Rch_iff (fun i => ⟨fun q => ?_, fun q => ⟨us i q, ?_⟩⟩) j
    · have := q.2
      unfold m_us0 at this
      rcases (p_mL (mnd c) i).mp this with z | z
      · rcases (p_mO (moc c) i).mp z with z | z
        · unfold k_fillF at z; rw [if_pos q.1] at z; exact absurd rfl z
        · exact Or.inl z
      · exact Or.inr z
    · show ¬ m_us0 c be i = 0
      unfold m_us0
      exact (p_mL (mnd c) i).mpr (q.elim (fun z => Or.inl ((p_mO (moc c) i).mpr (Or.inr z))) (fun z => Or.inr z))
