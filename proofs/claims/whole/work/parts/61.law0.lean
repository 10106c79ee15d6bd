/-! THE LAW'S START: what the tables' words and what is given say -/
theorem w_arrI {s : State} {args : Array Value} (h : (Cond.arrayClass .int).before args s = true) : ∃ c, ArrOfT s c .int ∧ va_RA s c .int := by
  obtain ⟨c, k, comp, h1, h2, h3⟩ := Cond.arrayClass_spec h
  exact ⟨c, fun n z => ⟨fun k h => (by cases h), k, h2, comp, h3⟩, h1⟩
theorem w_arrJ {s : State} {args : Array Value} (h : (Cond.arrayClass .long).before args s = true) : ∃ c, ArrOfT s c .long ∧ va_RA s c .long := by
  obtain ⟨c, k, comp, h1, h2, h3⟩ := Cond.arrayClass_spec h
  exact ⟨c, fun n z => ⟨fun k h => (by cases h), k, h2, comp, h3⟩, h1⟩
theorem w_arrZ {s : State} {args : Array Value} (h : (Cond.arrayClass .boolean).before args s = true) : ∃ c, ArrOfT s c .boolean ∧ va_RA s c .boolean := by
  obtain ⟨c, k, comp, h1, h2, h3⟩ := Cond.arrayClass_spec h
  exact ⟨c, fun n z => ⟨fun k h => (by cases h), k, h2, comp, h3⟩, h1⟩
theorem w_arrO {s : State} {args : Array Value} {n : String} (h : (Cond.arrayOver (.object n)).before args s = true) : ∃ c, ArrOfT s c (.object n) ∧ va_RA s c (.object n) := by
  obtain ⟨comp, c, k, h1, h2, h3, h4, h5⟩ := Cond.arrayOver_spec h
  exact ⟨c, fun n z => ⟨fun k h => (by cases h), k, h3, comp, h4⟩, k, comp, h3, h4, h1, h5⟩
set_option maxRecDepth 20000 in
theorem w_K {s : State} {b : Nat} (hts : ∀ w ∈ lw_tbl, w.before #[Value.ref b] s = true) : ∃ (D : va_G) (κ : Nat → ClassId), k_K D κ s := by
  obtain ⟨c0, i0, h0⟩ := u_known (C := RX0) (T := TX0) (N := 1) (n := 1) hts inX0 (hts (.instantiable RX0 1) (by decide +kernel))
  obtain ⟨c1, i1, h1⟩ := u_known (C := RX1) (T := TX1) (N := 10) (n := 10) hts inX1 (hts (.instantiable RX1 10) (by decide +kernel))
  obtain ⟨c2, i2, h2⟩ := u_known (C := RX2) (T := TX2) (N := 3) (n := 3) hts inX2 (hts (.instantiable RX2 3) (by decide +kernel))
  obtain ⟨c3, i3, h3⟩ := u_known (C := RX3) (T := TX3) (N := 1) (n := 1) hts inX3 (hts (.instantiable RX3 1) (by decide +kernel))
  obtain ⟨c4, i4, h4⟩ := u_known (C := RX4) (T := TX4) (N := 3) (n := 3) hts inX4 (hts (.instantiable RX4 3) (by decide +kernel))
  obtain ⟨c5, i5, h5⟩ := u_known (C := RX5) (T := TX5) (N := 2) (n := 2) hts inX5 (hts (.instantiable RX5 2) (by decide +kernel))
  obtain ⟨c6, i6, h6⟩ := u_known (C := RX6) (T := TX6) (N := 5) (n := 5) hts inX6 (hts (.instantiable RX6 5) (by decide +kernel))
  obtain ⟨c7, i7, h7⟩ := u_known (C := RX7) (T := TX7) (N := 15) (n := 15) hts inX7 (hts (.instantiable RX7 15) (by decide +kernel))
  obtain ⟨aI, eI⟩ := w_arrI (hts (.arrayClass .int) (by decide +kernel))
  obtain ⟨aJ, eJ⟩ := w_arrJ (hts (.arrayClass .long) (by decide +kernel))
  obtain ⟨aZ, eZ⟩ := w_arrZ (hts (.arrayClass .boolean) (by decide +kernel))
  obtain ⟨aG, eG⟩ := w_arrO (hts (.arrayOver (.object "InverterGraphs$Graph")) (by decide +kernel))
  refine ⟨(fun k => if k = 0 then c0 else if k = 1 then c1 else if k = 2 then c2 else if k = 3 then c3 else if k = 4 then c4 else if k = 5 then c5 else if k = 6 then c6 else c7, fun k => if k = 0 then i0 else if k = 1 then i1 else if k = 2 then i2 else if k = 3 then i3 else if k = 4 then i4 else if k = 5 then i5 else if k = 6 then i6 else i7), fun k => if k = 0 then aI else if k = 1 then aJ else if k = 2 then aZ else aG, ⟨fun k q hq => ?_, fun k q hq => ?_⟩, va_Nw.of rfl (hts (.methodLinkNest RX1 72 yX6_nodeOf RX6) (by decide +kernel)), va_Nw.of rfl (hts (.methodLinkNest RX1 75 yX6_turned RX6) (by decide +kernel)), va_Nw.of rfl (hts (.methodLinkNest RX1 82 yX6_literalOf RX6) (by decide +kernel)), va_Nw.of rfl (hts (.methodLinkNest RX1 109 yX6_isTurned RX6) (by decide +kernel)), va_Nw.of rfl (hts (.methodLinkNest RX3 49 yX6_nodeOf RX6) (by decide +kernel)), va_Nw.of rfl (hts (.methodLinkNest RX4 50 yX6_nodeOf RX6) (by decide +kernel)), va_Nw.of rfl (hts (.methodLinkNest RX5 64 yX6_nodeOf RX6) (by decide +kernel)), va_Nw.of rfl (hts (.methodLinkNest RX5 67 yX6_isTurned RX6) (by decide +kernel))⟩
  · match k, hq with
    | 0, hq => cases hq; exact h0
    | 1, hq => cases hq; exact h1
    | 2, hq => cases hq; exact h2
    | 3, hq => cases hq; exact h3
    | 4, hq => cases hq; exact h4
    | 5, hq => cases hq; exact h5
    | 6, hq => cases hq; exact h6
    | 7, hq => cases hq; exact h7
    | k + 8, hq => cases hq
  · match k, hq with
    | 0, hq => cases hq; exact eI
    | 1, hq => cases hq; exact eJ
    | 2, hq => cases hq; exact eZ
    | 3, hq => cases hq; exact eG
    | k + 4, hq => cases hq
set_option maxRecDepth 20000 in
theorem w_X {s : State} {b : Nat} (hts : ∀ w ∈ lw_tbl, w.before #[Value.ref b] s = true) (hgv : (Jvm.Cond.and given_1 narrow_1).before #[Value.ref b] s = true) : k_X (fun q : Nat => s.heap.size ≤ q) s := by
  have hs := flat_of_before _ hgv
  obtain ⟨c6, i6, h6⟩ := u_known (C := RX6) (T := TX6) (N := 5) (n := 5) hts inX6 (hts (.instantiable RX6 5) (by decide +kernel))
  have str : ∀ (k : Nat) (tx : String), (Cond.stringRef RX6 k tx).before #[Value.ref b] s = true → ∃ sa, vk_R RX6 k tx sa s := fun k tx h => by
    obtain ⟨_, _, _, a, _, _, _, _, _, ev⟩ := Cond.stringRef_spec h6.2.1 h
    exact ⟨a, vk_R.of h ev⟩
  refine ⟨fun x hx => ?_, fun E hE => ?_, fun q hq => ?_, vx_Zqof (hts (.laysStatic "java/lang/Throwable" "UNASSIGNED_STACK" "[Ljava/lang/StackTraceElement;") (by decide +kernel)) (hts (.initialized "java/lang/Throwable") (by decide +kernel)) (hs (.isRef (.static "java/lang/Throwable" "UNASSIGNED_STACK" "[Ljava/lang/StackTraceElement;")) (by decide +kernel)) (fun a h h2 => absurd h2 (Nat.not_le.mpr h)), vx_Zqof (hts (.laysStatic "java/lang/Throwable" "SUPPRESSED_SENTINEL" "Ljava/util/List;") (by decide +kernel)) (hts (.initialized "java/lang/Throwable") (by decide +kernel)) (hs (.isRef (.static "java/lang/Throwable" "SUPPRESSED_SENTINEL" "Ljava/util/List;")) (by decide +kernel)) (fun a h h2 => absurd h2 (Nat.not_le.mpr h))⟩
  · simp only [k_dw, List.mem_cons, List.not_mem_nil, or_false] at hx
    rcases hx with rfl | rfl | rfl
    · exact va_Nw.of rfl (hts (.declares ⟨"java/lang/RuntimeException", "<init>", "(Ljava/lang/String;)V"⟩) (by decide +kernel))
    · exact va_Nw.of rfl (hts (.declares ⟨"java/lang/Exception", "<init>", "(Ljava/lang/String;)V"⟩) (by decide +kernel))
    · exact va_Nw.of rfl (hts (.declares ⟨"java/lang/Throwable", "<init>", "(Ljava/lang/String;)V"⟩) (by decide +kernel))
  · simp only [k_ex, List.mem_cons, List.not_mem_nil, or_false] at hE
    rcases hE with rfl | rfl | rfl | rfl
    · exact va_Nw.of rfl (hts (.castable "java/lang/UnsupportedOperationException" "java/lang/UnsupportedOperationException") (by decide +kernel))
    · exact va_Nw.of rfl (hts (.castable "java/lang/IndexOutOfBoundsException" "java/lang/IndexOutOfBoundsException") (by decide +kernel))
    · exact va_Nw.of rfl (hts (.castable "java/lang/IllegalArgumentException" "java/lang/IllegalArgumentException") (by decide +kernel))
    · exact va_Nw.of rfl (hts (.castable "java/lang/IllegalStateException" "java/lang/IllegalStateException") (by decide +kernel))
  · simp only [k_tx, List.mem_cons, List.not_mem_nil, or_false] at hq
    rcases hq with rfl | rfl | rfl | rfl | rfl | rfl | rfl | rfl | rfl | rfl | rfl | rfl | rfl | rfl
    · exact str 221 "there would be more than 400 nodes" (hts (.stringRef RX6 221 "there would be more than 400 nodes") (by decide +kernel))
    · exact str 215 "there never was a node of this literal" (hts (.stringRef RX6 215 "there never was a node of this literal") (by decide +kernel))
    · exact str 217 "the node is gone" (hts (.stringRef RX6 217 "the node is gone") (by decide +kernel))
    · exact str 81 "there are 40 outputs" (hts (.stringRef RX6 81 "there are 40 outputs") (by decide +kernel))
    · exact str 91 "there never was such an output" (hts (.stringRef RX6 91 "there never was such an output") (by decide +kernel))
    · exact str 103 "a latch starts with 0 or 1" (hts (.stringRef RX6 103 "a latch starts with 0 or 1") (by decide +kernel))
    · exact str 219 "it is no latch" (hts (.stringRef RX6 219 "it is no latch") (by decide +kernel))
    · exact str 119 "there are not so many outputs to go into the box" (hts (.stringRef RX6 119 "there are not so many outputs to go into the box") (by decide +kernel))
    · exact str 121 "a box has 1 to 20 outlets" (hts (.stringRef RX6 121 "a box has 1 to 20 outlets") (by decide +kernel))
    · exact str 213 "there never was such a node" (hts (.stringRef RX6 213 "there never was such a node") (by decide +kernel))
    · exact str 132 "only an input or an and is replaced" (hts (.stringRef RX6 132 "only an input or an and is replaced") (by decide +kernel))
    · exact str 174 "no rows are worked out" (hts (.stringRef RX6 174 "no rows are worked out") (by decide +kernel))
    · exact str 197 "of a node there are 0 to 3" (hts (.stringRef RX6 197 "of a node there are 0 to 3") (by decide +kernel))
    · exact str 205 "counted are 0 to 5" (hts (.stringRef RX6 205 "counted are 0 to 5") (by decide +kernel))
set_option maxRecDepth 20000 in
theorem w_NC {s : State} {b : Nat} (hgv : (Jvm.Cond.and given_1 narrow_1).before #[Value.ref b] s = true) : k_NC s := by
  have hs := flat_of_before _ hgv
  intro E hE nm hm hne
  simp only [k_ex, List.mem_cons, List.not_mem_nil, or_false] at hE hm
  rcases hE with rfl | rfl | rfl | rfl <;> rcases hm with rfl | rfl | rfl | rfl
  · exact absurd rfl hne
  · exact va_Nc.of (hs (.not (.castable "java/lang/UnsupportedOperationException" "java/lang/IndexOutOfBoundsException")) (by decide +kernel))
  · exact va_Nc.of (hs (.not (.castable "java/lang/UnsupportedOperationException" "java/lang/IllegalArgumentException")) (by decide +kernel))
  · exact va_Nc.of (hs (.not (.castable "java/lang/UnsupportedOperationException" "java/lang/IllegalStateException")) (by decide +kernel))
  · exact va_Nc.of (hs (.not (.castable "java/lang/IndexOutOfBoundsException" "java/lang/UnsupportedOperationException")) (by decide +kernel))
  · exact absurd rfl hne
  · exact va_Nc.of (hs (.not (.castable "java/lang/IndexOutOfBoundsException" "java/lang/IllegalArgumentException")) (by decide +kernel))
  · exact va_Nc.of (hs (.not (.castable "java/lang/IndexOutOfBoundsException" "java/lang/IllegalStateException")) (by decide +kernel))
  · exact va_Nc.of (hs (.not (.castable "java/lang/IllegalArgumentException" "java/lang/UnsupportedOperationException")) (by decide +kernel))
  · exact va_Nc.of (hs (.not (.castable "java/lang/IllegalArgumentException" "java/lang/IndexOutOfBoundsException")) (by decide +kernel))
  · exact absurd rfl hne
  · exact va_Nc.of (hs (.not (.castable "java/lang/IllegalArgumentException" "java/lang/IllegalStateException")) (by decide +kernel))
  · exact va_Nc.of (hs (.not (.castable "java/lang/IllegalStateException" "java/lang/UnsupportedOperationException")) (by decide +kernel))
  · exact va_Nc.of (hs (.not (.castable "java/lang/IllegalStateException" "java/lang/IndexOutOfBoundsException")) (by decide +kernel))
  · exact va_Nc.of (hs (.not (.castable "java/lang/IllegalStateException" "java/lang/IllegalArgumentException")) (by decide +kernel))
  · exact absurd rfl hne
set_option maxRecDepth 20000 in
theorem w_AO {s : State} {b : Nat} (hts : ∀ w ∈ lw_tbl, w.before #[Value.ref b] s = true) : va_AO "InverterGraphs$Graph" s := va_AO.of (hts (.arrayOver (.object "InverterGraphs$Graph")) (by decide +kernel))
theorem w_st {l : Launch} (h : l.flags = flags0) : l.stackTraces = false := by
  unfold Launch.stackTraces
  rw [h]
  decide +kernel
