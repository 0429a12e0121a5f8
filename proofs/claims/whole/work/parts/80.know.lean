/-! ===== what the law's entry knows ===== -/
theorem mi0 : Cond.instantiable RX0 3 ∈ wsL_law ∧ Cond.instantiable RX1 1 ∈ wsL_law ∧ Cond.instantiable RX2 3 ∈ wsL_law ∧ Cond.instantiable RX3 7 ∈ wsL_law ∧ Cond.instantiable RX4 2 ∈ wsL_law ∧ Cond.instantiable RX5 6 ∈ wsL_law ∧ Cond.instantiable RX6 3 ∈ wsL_law ∧ Cond.instantiable RX7 6 ∈ wsL_law ∧ Cond.instantiable RX8 11 ∈ wsL_law ∧ Cond.instantiable RX9 36 ∈ wsL_law := by decide +kernel
theorem mi1 : Cond.arrayClass .int ∈ wsL_law ∧ Cond.arrayClass .long ∈ wsL_law ∧ Cond.arrayClass .boolean ∈ wsL_law := by decide +kernel
theorem law_know {s : State} {args : Array Value} (hts : ∀ w ∈ lw_tbl, w.before args s = true) (hao : va_AO RX3 s) : ∃ (D : va_G) (cy : Nat → ClassId), va_K D vwCl (ty4 cy) s := by
  have hl : ∀ w ∈ wsL_law, w.before args s = true := fun w h => hts w (wsL_law_in w h)
  obtain ⟨m0, m1, m2, m3, m4, m5, m6, m7, m8, m9⟩ := mi0
  obtain ⟨c0, j0, k0⟩ := u_known hts inX0 (hl _ m0)
  obtain ⟨c1, j1, k1⟩ := u_known hts inX1 (hl _ m1)
  obtain ⟨c2, j2, k2⟩ := u_known hts inX2 (hl _ m2)
  obtain ⟨c3, j3, k3⟩ := u_known hts inX3 (hl _ m3)
  obtain ⟨c4, j4, k4⟩ := u_known hts inX4 (hl _ m4)
  obtain ⟨c5, j5, k5⟩ := u_known hts inX5 (hl _ m5)
  obtain ⟨c6, j6, k6⟩ := u_known hts inX6 (hl _ m6)
  obtain ⟨c7, j7, k7⟩ := u_known hts inX7 (hl _ m7)
  obtain ⟨c8, j8, k8⟩ := u_known hts inX8 (hl _ m8)
  obtain ⟨c9, j9, k9⟩ := u_known hts inX9 (hl _ m9)
  obtain ⟨cI, kI, pI, f1, f2, f3⟩ := Cond.arrayClass_spec (hl _ mi1.1)
  obtain ⟨cJ, kJ, pJ, g1, g2, g3⟩ := Cond.arrayClass_spec (hl _ mi1.2.1)
  obtain ⟨cZ, kZ, pZ, e1, e2, e3⟩ := Cond.arrayClass_spec (hl _ mi1.2.2)
  obtain ⟨comp, cO, kO, h1, h2, h3, h4, h5⟩ := Cond.arrayOver_spec hao
  refine ⟨(fun c => if c = 0 then c0 else if c = 1 then c1 else if c = 2 then c2 else if c = 3 then c3 else if c = 4 then c4 else if c = 5 then c5 else if c = 6 then c6 else if c = 7 then c7 else if c = 8 then c8 else c9, fun c => if c = 0 then j0 else if c = 1 then j1 else if c = 2 then j2 else if c = 3 then j3 else if c = 4 then j4 else if c = 5 then j5 else if c = 6 then j6 else if c = 7 then j7 else if c = 8 then j8 else j9), (fun k => if k = 0 then cI else if k = 1 then cJ else if k = 2 then cZ else cO), fun c q hq => ?_, fun k q hq => ?_⟩
  · match c, hq with
    | 0, hq => cases hq; exact k0
    | 1, hq => cases hq; exact k1
    | 2, hq => cases hq; exact k2
    | 3, hq => cases hq; exact k3
    | 4, hq => cases hq; exact k4
    | 5, hq => cases hq; exact k5
    | 6, hq => cases hq; exact k6
    | 7, hq => cases hq; exact k7
    | 8, hq => cases hq; exact k8
    | 9, hq => cases hq; exact k9
    | c + 10, hq => cases hq
  · match k, hq with
    | 0, hq => cases hq; exact ⟨fun n z => ⟨(fun k h => by cases h), kI, f2, pI, f3⟩, f1⟩
    | 1, hq => cases hq; exact ⟨fun n z => ⟨(fun k h => by cases h), kJ, g2, pJ, g3⟩, g1⟩
    | 2, hq => cases hq; exact ⟨fun n z => ⟨(fun k h => by cases h), kZ, e2, pZ, e3⟩, e1⟩
    | 3, hq => cases hq; exact ⟨fun n z => ⟨(fun k h => by cases h), kO, h3, comp, h4⟩, kO, comp, h3, h4, h1, h5⟩
    | k + 4, hq => cases hq
theorem mn0 : Cond.methodLinkNest RX8 21 yX7_init "ArcOrder" ∈ lw_tbl ∧ Cond.methodLinkNest RX8 28 yX0_init "ArcOrder" ∈ lw_tbl ∧ Cond.methodLinkNest RX8 42 yX2_init "ArcOrder" ∈ lw_tbl ∧ Cond.methodLinkNest RX8 49 yX5_init "ArcOrder" ∈ lw_tbl ∧ Cond.methodLinkNest RX8 56 yX6_init "ArcOrder" ∈ lw_tbl ∧ Cond.methodLinkNest RX8 63 yX1_init "ArcOrder" ∈ lw_tbl ∧ Cond.methodLinkNest RX3 48 yX8_holdsBit "ArcOrder" ∈ lw_tbl ∧ Cond.methodLinkNest RX1 46 yX8_holdsBit "ArcOrder" ∈ lw_tbl ∧ Cond.methodLinkNest RX5 46 yX8_codeOf "ArcOrder" ∈ lw_tbl ∧ Cond.arrayOver (.object RX3) ∈ lw_tbl := by decide +kernel
theorem law_nest {s : State} {args : Array Value} (hts : ∀ w ∈ lw_tbl, w.before args s = true) : nw_ok s := by
  obtain ⟨m0, m1, m2, m3, m4, m5, m6, m7, m8, m9⟩ := mn0
  exact ⟨va_Nw.of rfl (hts _ m0), va_Nw.of rfl (hts _ m1), va_Nw.of rfl (hts _ m2), va_Nw.of rfl (hts _ m3), va_Nw.of rfl (hts _ m4), va_Nw.of rfl (hts _ m5), va_Nw.of rfl (hts _ m6), va_Nw.of rfl (hts _ m7), va_Nw.of rfl (hts _ m8), va_AO.of (hts _ m9)⟩
