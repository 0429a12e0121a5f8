/-! images and store -/
section RL4
variable {Nn : NetS} {Tt : TxtS} {Ll : LstS} {Pp : PstS} {Rr : LapS} {Ss : SgtS} {Ww : TalS} {Dd i0 i1 : NetS} {kp : Nat → Int32} {M : ModS} {X s U lf lt rg si sm kt ik : Nat → Int32}
theorem nar1 : vp_nar .boolean (1 : Int32) = nI 1 := rfl
theorem nar0 : vp_nar .boolean (0 : Int32) = nI 0 := rfl
theorem keep_loop {M : ModS} {j : Nat} (hj : j < 2) (ke : (Nat → Int32) → Option (Int32 × ModS × (Nat → Int32) × (Nat → Int32))) : ∃ kt', k_X9_keep_18 (nI j) M s ik ke fu (nI 0) kt = ke kt' ∧ (∀ q, q < 24 → kt' (24 * j + q) = s q) ∧ ∀ q, q < 24 → kt' (24 * (1 - j) + q) = kt (24 * (1 - j) + q) := by
  obtain ⟨T, ⟨a, b⟩, e⟩ := loop_e (fun m i (T : Nat → Int32) => k_X9_keep_18 (nI j) M s ik ke m (nI i) T) (fun T => ke T) (fun i T => (∀ q, q < i → T (24 * j + q) = s q) ∧ ∀ q, q < 24 → T (24 * (1 - j) + q) = kt (24 * (1 - j) + q)) 24 kt (by omega) ⟨fun _ q => absurd q (Nat.not_lt_zero _), fun _ _ => rfl⟩
    (by intro m T _; rw [k_X9_keep_18.eq_2]; simp only [lit]; rw [q_le_t (by omega) (by omega)])
    (by
      intro m i T hi ⟨a, b⟩
      rw [k_X9_keep_18.eq_2]
      simp only [lit]
      rw [q_le_f (by omega) (by omega), q_m24, q_in (by omega) (by omega), q_in (by omega) (by omega), q_cl (by omega), q_cl (by omega), nI_add]
      refine ⟨upd T (24 * j + i) (s i), ⟨fun q hq => ?_, fun q hq => by rw [pk_un (by omega)]; exact b q hq⟩, rfl⟩
      rcases (show q < i ∨ q = i by omega) with z | z
      · rw [pk_un (by omega)]; exact a q z
      · subst z; rw [pk_us])
  exact ⟨T, e, a, b⟩
theorem c_keep (h : Rel Nn Tt Ll Pp Rr Ss Ww Dd i0 i1 kp M X s U lf lt rg si sm kt ik) (x : Int32) : ∃ r i0' i1' kp' M' kt' ik', f_X8_keep Nn i0 i1 kp x = some (r, i0', i1', kp') ∧ f_X9_keep M s kt ik x = some (r, M', kt', ik') ∧ Rel Nn Tt Ll Pp Rr Ss Ww Dd i0' i1' kp' M' X s U lf lt rg si sm kt' ik' := by
  obtain ⟨n, o, pl, od, a1, a2, a3, a4, a5, a6, a7, a8, a9, a10, ⟨⟨b0, b1⟩, b2, b3⟩⟩ := id h
  have hn := a1.1.2
  have m8' : (upd M 0 (nI 0)) 8 = nI n := by rw [u0_8]; exact a3
  unfold f_X8_keep f_X9_keep f_X9_in
  rw [nar1]
  simp only [lit]
  by_cases c : x < nI 0
  · rw [if_pos c, if_pos c, Option.bind_some, if_pos rfl]
    exact ⟨_, _, _, _, _, _, _, rfl, rfl, h.mv same0⟩
  · obtain ⟨j, hj, rfl⟩ := nneg c
    rw [if_neg c, if_neg c, q_lt_n (a := j) (b := 2) (by omega) (by omega), q_lt_n (a := 1) (b := j) (by omega) (by omega)]
    by_cases c2 : j < 2
    · rw [if_pos c2, if_neg (show ¬ 1 < j by omega), Option.bind_some, if_neg ne10, arcs_eq a1 a4 m8', a2.2.1]
      obtain ⟨kt', e, k1, k2⟩ := keep_loop (s := s) (kt := kt) (ik := ik) (M := upd M 0 (nI 0)) c2 (fun m_kept_2 => inR (nI j) 2 (((some (nI (sumN (fun u => pc (o u)) n))).bind fun r3 => (some (r3, (upd M 0 (nI 0)), m_kept_2, (upd ik (nI j).toNatClampNeg (nI 1)))))))
      rw [e]
      simp only [q_in (show j < 2 by omega) (show 2 < 2147483648 by omega), q_cl (show j < 2147483648 by omega), Option.bind_some]
      rcases (show j = 0 ∨ j = 1 by omega) with z | z
      · subst z
        obtain ⟨K, eK, hK⟩ := copyOf_eq hn a2 i0
        rw [if_pos rfl, eK, Option.bind_some]
        refine ⟨_, _, _, _, _, _, _, rfl, rfl, Rel.mv (M := M) ⟨n, o, pl, od, a1, a2, a3, a4, a5, a6, a7, a8, a9, a10, ⟨⟨by rw [pk_us, pk_us], by rw [pk_un (by decide), pk_un (by decide)]; exact b1⟩, fun _ => ⟨o, pl, od, a1, hK, fun u hu => ⟨by rw [k1 u (by omega)]; exact (a4 u hu).1, by rw [k1 (12 + u) (by omega)]; exact (a4 u hu).2⟩⟩, fun z => ?_⟩⟩ same0⟩
        rw [pk_un (by decide)] at z
        exact (b3 z).mv hn (fun q hq => k2 q hq)
      · subst z
        obtain ⟨K, eK, hK⟩ := copyOf_eq hn a2 i1
        rw [if_neg ne10, if_pos rfl, eK, Option.bind_some]
        refine ⟨_, _, _, _, _, _, _, rfl, rfl, Rel.mv (M := M) ⟨n, o, pl, od, a1, a2, a3, a4, a5, a6, a7, a8, a9, a10, ⟨⟨by rw [pk_un (by decide), pk_un (by decide)]; exact b0, by rw [pk_us, pk_us]⟩, fun z => ?_, fun _ => ⟨o, pl, od, a1, hK, fun u hu => ⟨by rw [k1 u (by omega)]; exact (a4 u hu).1, by rw [k1 (12 + u) (by omega)]; exact (a4 u hu).2⟩⟩⟩⟩ same0⟩
        rw [pk_un (by decide)] at z
        exact (b2 z).mv hn (fun q hq => k2 q hq)
    · rw [if_neg c2, if_pos (show 1 < j by omega), Option.bind_some, if_pos rfl]
      exact ⟨_, _, _, _, _, _, _, rfl, rfl, h.mv same0⟩
theorem past0 {P : PstS} {n : Nat} {x : Int32} (hP : (∀ i, i < 10 → P.2.1 i < 10) ∧ (∀ i j, i < 10 → j < 10 → P.2.1 i = P.2.1 j → i = j)) (h : x = nI 0) : PastR (nI 0, P.2) U x n := ⟨0, by omega, rfl, h, hP.1, hP.2, fun i hi => by omega⟩
theorem c_back (h : Rel Nn Tt Ll Pp Rr Ss Ww Dd i0 i1 kp M X s U lf lt rg si sm kt ik) (x : Int32) : ∃ r N' P' M' s', f_X8_back Nn Pp i0 i1 kp x = some (r, N', P') ∧ f_X9_back M s kt ik x = some (r, M', s') ∧ Rel N' Tt Ll P' Rr Ss Ww Dd i0 i1 kp M' X s' U lf lt rg si sm kt ik := by
  obtain ⟨n, o, pl, od, a1, a2, a3, a4, a5, a6, ⟨k, hk, p1, m17, hix, hinj, hkep⟩, a8, a9, a10, ⟨⟨b0, b1⟩, b2, b3⟩⟩ := id h
  have hn := a1.1.2
  unfold f_X8_back f_X9_back f_X9_in
  simp only [lit]
  by_cases c : x < nI 0
  · rw [if_pos c, if_pos c, Option.bind_some, if_pos rfl]
    exact ⟨_, _, _, _, _, rfl, rfl, h.mv same0⟩
  · obtain ⟨j, hj, rfl⟩ := nneg c
    rw [if_neg c, if_neg c, q_lt_n (a := j) (b := 2) (by omega) (by omega), q_lt_n (a := 1) (b := j) (by omega) (by omega)]
    by_cases c2 : j < 2
    · rw [if_pos c2, if_neg (show ¬ 1 < j by omega), Option.bind_some, if_neg ne10]
      simp only [q_in (show j < 2 by omega) (show 2 < 2147483648 by omega), q_cl (show j < 2147483648 by omega)]
      have ej : kp j = ik j := by rcases (show j = 0 ∨ j = 1 by omega) with z | z <;> subst z <;> assumption
      rw [ej]
      by_cases c3 : ik j = nI 0
      · rw [if_pos c3, if_pos c3]
        exact ⟨_, _, _, _, _, rfl, rfl, h.mv same0⟩
      · rw [if_neg c3, if_neg c3]
        have key : ∀ K, KepR K kt j n → ∃ N' M' s' q, f_X3_copyOf Nn K = some N' ∧ N'.2.1 = q ∧ k_X9_back_30 (nI j) (upd M 0 (nI 0)) kt ik (fun m_s_2 => ((f_X9_arcs (upd (upd M 0 (nI 0)) 17 (nI 0)) m_s_2).bind fun r3 => (some (r3, (upd (upd M 0 (nI 0)) 17 (nI 0)), m_s_2)))) fu (nI 0) s = some (q, M', s') ∧ Rel N' Tt Ll (nI 0, Pp.2) Rr Ss Ww Dd i0 i1 kp M' X s' U lf lt rg si sm kt ik := by
          intro K ⟨o2, pl2, od2, g1, g2, g3⟩
          obtain ⟨N', e1, h1⟩ := copyOf_eq hn g2 Nn
          obtain ⟨s', hs', e2⟩ := loop_e (fun m i (T : Nat → Int32) => k_X9_back_30 (nI j) (upd M 0 (nI 0)) kt ik (fun m_s_2 => ((f_X9_arcs (upd (upd M 0 (nI 0)) 17 (nI 0)) m_s_2).bind fun r3 => (some (r3, (upd (upd M 0 (nI 0)) 17 (nI 0)), m_s_2)))) m (nI i) T) (fun T => ((f_X9_arcs (upd (upd M 0 (nI 0)) 17 (nI 0)) T).bind fun r3 => (some (r3, (upd (upd M 0 (nI 0)) 17 (nI 0)), T)))) (fun i T => ∀ q, q < i → T q = kt (24 * j + q)) 24 s (by omega) (fun _ q => absurd q (Nat.not_lt_zero _))
            (by intro m T _; rw [k_X9_back_30.eq_2]; simp only [lit]; rw [q_le_t (by omega) (by omega)])
            (by
              intro m i T hi hT
              rw [k_X9_back_30.eq_2]
              simp only [lit]
              rw [q_le_f (by omega) (by omega), q_m24, q_in (by omega) (by omega), q_in (by omega) (by omega), q_cl (by omega), q_cl (by omega), nI_add]
              refine ⟨upd T i (kt (24 * j + i)), fun q hq => ?_, rfl⟩
              rcases (show q < i ∨ q = i by omega) with z | z
              · rw [pk_un (by omega)]; exact hT q z
              · subst z; rw [pk_us])
          have hsR : RefR s' n o2 pl2 := fun u hu => ⟨by rw [hs' u (by omega)]; exact (g3 u hu).1, by rw [hs' (12 + u) (by omega)]; exact (g3 u hu).2⟩
          have e8 : (upd (upd M 0 (nI 0)) 17 (nI 0)) 8 = nI n := by rw [pk_un (by decide), u0_8]; exact a3
          rw [arcs_eq g1 hsR e8, Option.bind_some] at e2
          refine ⟨N', _, s', _, e1, h1.2.1, e2, n, o2, pl2, od2, g1, h1, e8, hsR, ?_, ?_, past0 ⟨hix, hinj⟩ pk_us, ?_, ?_, a10, ⟨⟨b0, b1⟩, b2, b3⟩⟩
          · rw [pk_un (by decide), pk_un (by decide)]; exact a5
          · rw [pk_un (by decide), pk_un (by decide)]; exact a6
          · rw [pk_un (by decide), pk_un (by decide)]; exact a8
          · rw [pk_un (by decide), pk_un (by decide)]; exact a9
        rcases (show j = 0 ∨ j = 1 by omega) with z | z
        · subst z
          obtain ⟨N', M', s', q, e1, eq, e2, hR⟩ := key i0 (b2 (by rw [b0]; exact c3))
          rw [if_pos rfl, e1, Option.bind_some, eq, e2]
          exact ⟨_, _, _, _, _, rfl, rfl, hR⟩
        · subst z
          obtain ⟨N', M', s', q, e1, eq, e2, hR⟩ := key i1 (b3 (by rw [b1]; exact c3))
          rw [if_neg ne10, if_pos rfl, e1, Option.bind_some, eq, e2]
          exact ⟨_, _, _, _, _, rfl, rfl, hR⟩
    · rw [if_neg c2, if_pos (show 1 < j by omega), Option.bind_some, if_pos rfl]
      exact ⟨_, _, _, _, _, rfl, rfl, h.mv same0⟩
theorem sto_loop (x1 : Int32) (N1 B1 : NetS) (T1 : TxtS) (L1 : LstS) (P1 : PstS) (S1 : SgtS) (ke : (Nat → Int32) → Option (Int32 × NetS × NetS × TxtS × LstS × PstS × SgtS × (Nat → Int32))) (kp : Nat → Int32) : ∃ kp', k_X8_store_62 x1 N1 B1 T1 L1 P1 S1 ke fu (nI 0) kp = ke kp' ∧ kp' 0 = nI 0 ∧ kp' 1 = nI 0 := by
  obtain ⟨T, hT, e⟩ := loop_e (fun m i (T : Nat → Int32) => k_X8_store_62 x1 N1 B1 T1 L1 P1 S1 ke m (nI i) T) (fun T => ke T) (fun i T => ∀ q, q < i → T q = nI 0) 2 kp (by omega) (fun _ q => absurd q (Nat.not_lt_zero _))
    (by intro m T _; rw [k_X8_store_62.eq_2]; simp only [lit]; rw [q_le_t (by omega) (by omega)])
    (by
      intro m i T hi hT
      rw [k_X8_store_62.eq_2, nar0]
      simp only [lit]
      rw [q_le_f (by omega) (by omega), q_in (by omega) (by omega), q_cl (by omega), nI_add]
      refine ⟨upd T i (nI 0), fun q hq => ?_, rfl⟩
      rcases (show q < i ∨ q = i by omega) with z | z
      · rw [pk_un (by omega)]; exact hT q z
      · subst z; rw [pk_us])
  exact ⟨T, e, hT 0 (by omega), hT 1 (by omega)⟩
theorem c_store (h : Rel Nn Tt Ll Pp Rr Ss Ww Dd i0 i1 kp M X s U lf lt rg si sm kt ik) (Bb : NetS) (D w ord : Nat → Int32) : ∃ r N' B' T' L' P' S' kp' M' D' s' w' ik' ord', f_X8_store Nn Bb Tt Ll Pp Ss kp = some (r, N', B', T', L', P', S', kp') ∧ f_X9_store M X D s w ik ord = some (r, M', D', s', w', ik', ord') ∧ Rel N' T' L' P' Rr S' Ww Dd i0 i1 kp' M' X s' U lf lt rg si sm kt ik' := by
  obtain ⟨n, o, pl, od, a1, a2, a3, a4, a5, a6, a7, a8, a9, a10, a11⟩ := id h
  obtain ⟨r, T', B', M', D', w', ord', c', M1, D1, e1, e2, ⟨M2, e3, e4⟩, hT', hF, hout⟩ := read_eq (S := s) (K := ik) (D := D) (w := w) (ord := ord) a5 Bb
  have hfr : ∀ k, k = 2 ∨ k = 8 ∨ k = 17 ∨ k = 20 ∨ k = 22 ∨ k = 25 → M' k = M k := fun k hk => hF k (by omega) (by omega) (by omega) (by omega) (by omega) (by omega) (by omega) (by omega) (by omega) (by omega)
  unfold f_X8_store f_X9_store
  simp only [lit]
  rw [e1, e2, Option.bind_some, Option.bind_some]
  dsimp only
  rw [e3, Option.bind_some, e4]
  rcases hout with ⟨m7, er, hc, n2, o2, pl2, od2, g1, g2, g3, g4⟩ | ⟨f, hf, m7, er⟩
  · rw [well_t m7, Option.bind_some, if_neg ne10, er, q_le_t (by omega) (by omega)]
    have hn2 := g1.1.2
    obtain ⟨N', e5, hN'⟩ := copyOf_eq hn2 g2 Nn
    obtain ⟨s', e6, hs'⟩ := copies_eq D' s
    have hsR := copies_R hn2 g4 hs'
    unfold f_X5_empty f_X9_settles
    simp only [lit]
    rw [e5, e6]
    simp only [Option.bind_some]
    obtain ⟨k, hk, p1, m17, hix, hinj, hkep⟩ := a7
    obtain ⟨kp', e7, k0, k1⟩ := sto_loop (nI c') N' B' (upd T'.1 0 (nI 0), T'.2) (nI 0, Ll.2.1, Ll.2.2) (nI 0, Pp.2) (upd (upd (upd Ss.1 0 (nI 0)) 3 (nI 0)) 4 (nI 0), Ss.2) (fun o_kept_4 => (some (nI c', N', B', ((upd T'.1 0 (nI 0)), T'.2), (nI 0, Ll.2.1, Ll.2.2), (nI 0, Pp.2), (upd (upd (upd Ss.1 0 (nI 0)) 3 (nI 0)) 4 (nI 0), Ss.2), o_kept_4))) kp
    rw [e7, q_in (by omega) (by omega), q_in (by omega) (by omega), Option.bind_some, q_cl (by omega), q_cl (by omega), show vp_nar .boolean (nI 0) = nI 0 from rfl]
    dsimp only
    refine ⟨_, _, _, _, _, _, _, _, _, _, _, _, _, _, rfl, rfl, n2, o2, pl2, od2, g1, hN', ?_, hsR, ⟨0, (fun _ => 0), by omega, (by show upd T'.1 0 (nI 0) 0 = _; rw [pk_us]), ?_, fun i hi => by omega, fun i hi => by omega⟩, lst0 ?_, past0 ⟨hix, hinj⟩ pk_us, ?_, sgt0 ?_, a10, ⟨⟨?_, ?_⟩, fun z => absurd k0 z, fun z => absurd k1 z⟩⟩
    · rw [pk_un (by decide), pk_un (by decide), pk_un (by decide), pk_un (by decide), pk_us]; exact g3
    · rw [pk_un (by decide), pk_un (by decide), pk_un (by decide), pk_us]
    · rw [pk_un (by decide), pk_un (by decide), pk_us]
    · rw [pk_un (by decide), pk_un (by decide), pk_un (by decide), pk_un (by decide), pk_un (by decide), hfr 22 (by omega)]; exact a8
    · rw [pk_un (by decide), pk_us]
    · rw [k0, pk_un (by decide), pk_us]
    · rw [k1, pk_us]
  · rw [well_f (by omega) m7, Option.bind_some, if_pos rfl, er, m7]
    have hneg : ¬ nI 0 ≤ -nI 10 - nI f := by
      rw [Int32.le_iff_toInt_le]
      have : ∀ f, f < 121 → ¬ (nI 0).toInt ≤ (-nI 10 - nI f).toInt := by decide +kernel
      exact this f (by omega)
    rw [if_neg hneg]
    refine ⟨_, _, _, _, _, _, _, _, _, _, _, _, _, _, rfl, rfl, n, o, pl, od, a1, a2, ?_, a4, hT', ?_, ?_, ?_, ?_, a10, a11⟩
    · rw [hfr 8 (by omega)]; exact a3
    · rw [hfr 20 (by omega)]; exact a6
    · rw [hfr 17 (by omega)]; exact a7
    · rw [hfr 22 (by omega)]; exact a8
    · rw [hfr 25 (by omega)]; exact a9
end RL4
