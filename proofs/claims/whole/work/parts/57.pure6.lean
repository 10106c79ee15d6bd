/-! PURE, sixth: the relation of both sides; what is kept, what is taken back -/
theorem p_lit_eq {c d : KC} (hn : mnd d = mnd c) (hs : ∀ j, j < mnd c → mso d j = mso c j) {a : Nat} (h : p_lit c a) : p_lit d a := ⟨by rw [hn]; exact h.1, by rw [hs _ (by have := h.1; omega)]; exact h.2⟩
/-- graphs that are alike as far as they reach -/
theorem p_I_eq {c d : KC} (hn : mnd d = mnd c) (ho : moc d = moc c) (hj : ∀ j, j < mnd c → mso d j = mso c j ∧ mon d j = mon c j ∧ mtw d j = mtw c j ∧ mst d j = mst c j) (hk : ∀ k, k < moc c → mou d k = mou c k ∧ mbo d k = mbo c k) (h : p_I c) : p_I d := by
  obtain ⟨⟨h1, h2, h3, h4⟩, h5, h6, h7, h8, h9, h10, r, hr0, hr⟩ := h
  have hs : ∀ j, j < mnd c → mso d j = mso c j := fun j q => (hj j q).1
  refine ⟨⟨by rw [hn]; exact h1, by rw [hn]; exact h2, by rw [ho]; exact h3, by rw [hs 0 h1]; exact h4⟩, fun j q => ?_, fun j q z => ?_, fun j q z => ?_, fun k q => ?_, fun j q z => ?_, fun k q => ?_, r, hr0, fun j q z => ?_⟩
  · rw [hn] at q
    obtain ⟨-, e2, e3, -⟩ := hj j q
    rw [e2, e3]; exact h5 j q
  · rw [hn] at q
    obtain ⟨e1, e2, e3, -⟩ := hj j q
    rw [e1] at z
    obtain ⟨a1, a2, a3⟩ := h6 j q z
    rw [e2, e3]
    exact ⟨p_lit_eq hn hs a1, p_lit_eq hn hs a2, a3⟩
  · rw [hn] at q
    obtain ⟨e1, e2, -⟩ := hj j q
    rw [e1] at z
    rw [e2]
    exact p_lit_eq hn hs (h7 j q z)
  · rw [ho] at q
    rw [(hk k q).1]
    exact p_lit_eq hn hs (h8 k q)
  · rw [hn] at q
    obtain ⟨e1, -, -, e4⟩ := hj j q
    rw [e1] at z
    rw [e4]; exact h9 j q z
  · rw [ho] at q
    rw [(hk k q).2]; exact h10 k q
  · rw [hn] at q
    obtain ⟨e1, e2, e3, -⟩ := hj j q
    rw [e1] at z
    rw [e2, e3]; exact hr j q z
theorem p_R_eq {c d : KC} {g : KH} (hn : mnd d = mnd c) (ho : moc d = moc c) (hj : ∀ j, j < mnd c → mso d j = mso c j ∧ mon d j = mon c j ∧ mtw d j = mtw c j ∧ mst d j = mst c j) (hk : ∀ k, k < moc c → mou d k = mou c k ∧ mbo d k = mbo c k) (h : p_R g c) : p_R g d := by
  obtain ⟨h1, h2, h3, h4, h5, h6, h7⟩ := h
  refine ⟨h1.trans hn.symm, h2.trans ho.symm, fun j q => ?_, fun k q => ?_, fun k a q => ?_, fun a => ?_, by rw [ho]; exact h7⟩
  · rw [hn] at q
    obtain ⟨e1, e2, e3, e4⟩ := hj j q
    rw [e1, e2, e3, e4]; exact h3 j q
  · rw [ho] at q
    rw [(hk k q).1, (hk k q).2]; exact h4 k q
  · rw [ho] at q
    rw [(hk k q).2]; exact h5 k a q
  · rw [(hk _ (by omega)).2]; exact h6 a
theorem p_R_eqG {c : KC} {x g : KH} (h1 : mnd c ≤ 400) (h2 : moc c ≤ 40) (he : k_eqG x g) (h : p_R g c) : p_R x c := by
  obtain ⟨⟨e1, e2, e3⟩, e4, e5⟩ := he
  obtain ⟨a1, a2, a3, a4, a5, a6, a7⟩ := h
  refine ⟨e1.trans a1, e2.trans a2, fun j q => ?_, fun k q => ?_, fun k a q => ?_, fun a => ?_, by rw [e3]; exact a7⟩
  · obtain ⟨f1, f2, f3, f4, f5⟩ := e4 j (by omega)
    rw [f1, f2, f3, f4, f5]; exact a3 j q
  · obtain ⟨f1, f2⟩ := e5 k (by omega)
    rw [f1, f2]; exact a4 k q
  · rw [e3] at a; exact a5 k a q
  · rw [e3] at a ⊢; exact a6 a
theorem p_bGR {c : KC} {g : KH} (h1 : mnd c ≤ 400) (h2 : moc c ≤ 40) (h : p_R g c) : k_bG g := ⟨by rw [h.1]; exact h1, by rw [h.2.1]; exact h2, by rw [h.2.1]; exact h.2.2.2.2.2.2⟩
/-- the place in the ring of the i-th copy of side m -/
def p_ix (pl cn i : Nat) : Nat := (pl + 30 - cn + i) % 30
/-- the histories -/
def p_H (v : XV) (cp : Nat → Int32) (cn : Nat) : Prop := xkp v = cn ∧ cn ≤ 30 ∧ xpl v < 30 ∧ xpl v ≤ xmade v ∧ xmade v ≤ 30 ∧ (∀ k, k < xmade v → k_bG (xgs v k)) ∧ ∀ i, i < cn → p_ix (xpl v) cn i < xmade v ∧ ∃ d : KC, (∀ y, y < 1682 → cp (2100 * i + y) = m_slot d y) ∧ p_R (xgs v (p_ix (xpl v) cn i)) d ∧ p_I d
/-- both sides -/
def p_Z (v : XV) (c : KC) (cp : Nat → Int32) (cn : Nat) (rm : Nat → Int64) (kn : Int32) : Prop := p_R v.1 c ∧ p_I c ∧ p_H v cp cn ∧ xwo v = kn ∧ (kn = 0 ∨ kn = 1) ∧ (kn = 1 → ∀ j, j < mnd c → xro v j = rm j)
theorem p_keepZ {v u : XV} {c c' : KC} {cp : Nat → Int32} {cn : Nat} {rm : Nat → Int64} {kn : Int32} {g : KH} {e : KE} (hZ : p_Z v c cp cn rm kn) (hc : x_chg v g e u) (hR : p_R g c') (hI : p_I c') : p_Z u c' (m_save c cp cn).1 (m_save c cp cn).2 rm 0 := by
  obtain ⟨z1, z2, ⟨y1, y2, y3, y4, y5, y6, y7⟩, z4, z5, z6⟩ := hZ
  obtain ⟨u1, ⟨k1, k2, k3, k4, k5⟩, u2, u3, u4, u5, u6, u7⟩ := hc
  have k1 : ∀ k, k ≠ xpl v → xgs u k = xgs v k := k1
  have k2 : k_eqG (xgs u (xpl v)) v.1 := k2
  have k3 : xpl v < xmade u := k3
  have k4 : xmade u ≤ 30 := k4
  have k5 : xmade u = xmade v ∨ (xmade u = xmade v + 1 ∧ xpl v = xmade v) := k5
  have hpl : xpl u < 30 ∧ xpl u ≤ xmade u := by rw [u2]; split <;> omega
  have hRp : p_R (xgs u (xpl v)) c := p_R_eqG z2.1.2.1 z2.1.2.2.1 k2 z1
  refine ⟨by rw [u1]; exact hR, hI, ⟨?_, ?_, hpl.1, hpl.2, k4, fun k hk => ?_, ?_⟩, u5, Or.inl rfl, fun q => absurd q (by decide)⟩
  · rw [u3, y1]
    unfold m_save
    by_cases q : cn = 30
    · rw [if_pos q, q]; rfl
    · rw [if_neg q]; exact Nat.min_eq_left (by omega)
  · unfold m_save
    split
    · exact Nat.le_refl 30
    · show cn + 1 ≤ 30
      omega
  · by_cases q : k = xpl v
    · rw [q]; exact p_bGR z2.1.2.1 z2.1.2.2.1 hRp
    · rw [k1 k q]; exact y6 k (by omega)
  · unfold m_save
    by_cases q : cn = 30
    · rw [if_pos q]
      show ∀ i, i < 30 → p_ix (xpl u) 30 i < xmade u ∧ ∃ d : KC, (∀ y, y < 1682 → k_sv c (2100 * 29) (m_sh cp 60900) (2100 * i + y) = m_slot d y) ∧ p_R (xgs u (p_ix (xpl u) 30 i)) d ∧ p_I d
      intro i hi
      by_cases hl : i = 29
      · have e : p_ix (xpl u) 30 i = xpl v := by
          unfold p_ix
          rw [u2, hl]; split <;> omega
        rw [e]
        refine ⟨k3, c, fun y hy => ?_, hRp, z2⟩
        unfold k_sv
        rw [if_pos (by omega), show 2100 * i + y - 2100 * 29 = y by omega]
      · have e : p_ix (xpl u) 30 i = p_ix (xpl v) cn (i + 1) := by
          unfold p_ix
          rw [u2, q]; split <;> omega
        have ne : p_ix (xpl v) cn (i + 1) ≠ xpl v := by
          unfold p_ix
          rw [q]; omega
        obtain ⟨g1, d, g2, g3, g4⟩ := y7 (i + 1) (by omega)
        rw [e, k1 _ ne]
        refine ⟨by omega, d, fun y hy => ?_, g3, g4⟩
        unfold k_sv
        rw [if_neg (by omega)]
        unfold m_sh
        rw [if_pos (by omega), show 2100 * i + y + 2100 = 2100 * (i + 1) + y by omega]
        exact g2 y hy
    · rw [if_neg q]
      show ∀ i, i < cn + 1 → p_ix (xpl u) (cn + 1) i < xmade u ∧ ∃ d : KC, (∀ y, y < 1682 → k_sv c (2100 * cn) cp (2100 * i + y) = m_slot d y) ∧ p_R (xgs u (p_ix (xpl u) (cn + 1) i)) d ∧ p_I d
      intro i hi
      by_cases hl : i = cn
      · have e : p_ix (xpl u) (cn + 1) i = xpl v := by
          unfold p_ix
          rw [u2, hl]; split <;> omega
        rw [e]
        refine ⟨k3, c, fun y hy => ?_, hRp, z2⟩
        unfold k_sv
        rw [if_pos (by omega), show 2100 * i + y - 2100 * cn = y by rw [hl]; omega]
      · have e : p_ix (xpl u) (cn + 1) i = p_ix (xpl v) cn i := by
          unfold p_ix
          rw [u2]; split <;> omega
        have ne : p_ix (xpl v) cn i ≠ xpl v := by
          unfold p_ix
          omega
        obtain ⟨g1, d, g2, g3, g4⟩ := y7 i (by omega)
        rw [e, k1 _ ne]
        refine ⟨by omega, d, fun y hy => ?_, g3, g4⟩
        unfold k_sv
        rw [if_neg (by omega)]
        exact g2 y hy
/-- nothing changes -/
theorem p_Z_lv {v u : XV} {c : KC} {cp : Nat → Int32} {cn : Nat} {rm : Nat → Int64} {kn : Int32} (hZ : p_Z v c cp cn rm kn) (h1 : u.1 = v.1) (h2 : u.2.1 = v.2.1) (h3 : xro u = xro v) (h4 : xwo u = xwo v) : p_Z u c cp cn rm kn := by
  obtain ⟨g, h, ro, wo, lv, e⟩ := v
  obtain ⟨g', h', ro', wo', lv', e'⟩ := u
  have h1 : g' = g := h1
  have h2 : h' = h := h2
  have h3 : ro' = ro := h3
  have h4 : wo' = wo := h4
  subst h1; subst h2; subst h3; subst h4
  exact hZ
/-- taking back, both sides -/
theorem p_undoZ {v u : XV} {c : KC} {cp : Nat → Int32} {cn : Nat} {rm : Nat → Int64} {kn : Int32} (hZ : p_Z v c cp cn rm kn) (h0 : cn ≠ 0) : (if 0 < xpl v then xpl v - 1 else 29) < xmade v ∧ ∃ d : KC, (∀ y, y < 1682 → cp (2100 * (cn - 1) + y) = m_slot d y) ∧ mnd d ≤ 400 ∧ moc d ≤ 40 ∧
    (k_eqG u.1 (xgs v (if 0 < xpl v then xpl v - 1 else 29)) → xgs u = xgs v → xmade u = xmade v → xkp u = xkp v - 1 → xpl u = (if 0 < xpl v then xpl v - 1 else 29) → xwo u = 0 → p_Z u (m_ld d c) cp (cn - 1) rm 0) := by
  obtain ⟨z1, z2, ⟨y1, y2, y3, y4, y5, y6, y7⟩, z4, z5, z6⟩ := hZ
  have e : p_ix (xpl v) cn (cn - 1) = (if 0 < xpl v then xpl v - 1 else 29) := by
    unfold p_ix
    split <;> omega
  obtain ⟨g1, d, g2, g3, g4⟩ := y7 (cn - 1) (by omega)
  rw [e] at g1 g3
  refine ⟨g1, d, g2, g4.1.2.1, g4.1.2.2.1, fun u1 u2 u3 u4 u5 u6 => ?_⟩
  have hd4 := g4.1.2.1
  have hd5 := g4.1.2.2.1
  have hj : ∀ j, j < mnd d → mso (m_ld d c) j = mso d j ∧ mon (m_ld d c) j = mon d j ∧ mtw (m_ld d c) j = mtw d j ∧ mst (m_ld d c) j = mst d j := fun j hj => ⟨if_pos (show j < 400 by omega), if_pos (show j < 400 by omega), if_pos (show j < 400 by omega), if_pos (show j < 400 by omega)⟩
  have hk : ∀ k, k < moc d → mou (m_ld d c) k = mou d k ∧ mbo (m_ld d c) k = mbo d k := fun k hk => by
    refine ⟨if_pos (show k < 40 by omega), (if_pos (show k < 40 by omega)).trans ?_⟩
    show (if (if mbo d k = 0 then 0 else 1) = (1 : Int32) then 1 else 0) = mbo d k
    rcases g4.2.2.2.2.2.2.1 k hk with q | q
    · rw [q]; rfl
    · rw [q]; rfl
  refine ⟨p_R_eq (c := d) (d := m_ld d c) rfl rfl hj hk (p_R_eqG hd4 hd5 u1 g3), p_I_eq (c := d) (d := m_ld d c) rfl rfl hj hk g4, ⟨by rw [u4, y1], by omega, by rw [u5]; split <;> omega, by rw [u5, u3]; omega, by rw [u3]; exact y5, by rw [u3, u2]; exact y6, fun i hi => ?_⟩, u6, Or.inl rfl, fun q => absurd q (by decide)⟩
  have e2 : p_ix (xpl u) (cn - 1) i = p_ix (xpl v) cn i := by
    unfold p_ix
    rw [u5]; split <;> omega
  rw [e2, u2, u3]
  exact y7 i (by omega)
