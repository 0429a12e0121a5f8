/-! ===== the whole text; store ===== -/
section STO
variable {tx : Nat → Nat} {L : Nat}
theorem parse {A X S K : Nat → Int32} (hL : L ≤ 120) (hx : ∀ i, i < L → tx i ≤ 255) (hA : ∀ i, i < L → A i = nI (tx i)) (hX : ∀ i, i < L → X i = nI (tx i)) : ∀ (d e s q kd v c n m8 m9 : Nat) (T : TxtS) (Nn : NetS) (M : ModS) (D w ord : Nat → Int32) (o pl od : Nat → Nat), L - e < d → d ≤ m8 → d + 1 ≤ m9 → c ≤ e → TokJ tx L e s q kd v → T.1 0 = nI L → T.1 4 = nI e → T.2 = A → MxC L s q kd v M → Good n o pl od → NetR Nn n o pl od → M 9 = nI n → RefR D n o pl → (c = 0 → ∀ k, k < 12 → D k = nI 0 ∧ D (12 + k) = nI k) →
    ∃ (r : Int32) (T' : TxtS) (N' : NetS) (M' : ModS) (D' w' ord' : Nat → Int32) (c' : Nat), k_X7_readInto_14 (fun x2_5 Tt_5 N1_5 => (some (x2_5, Tt_5, N1_5))) m8 (nI c) (nI c) T Nn = some (r, T', N') ∧ (∀ ke, k_X9_store_25 X S K ke m9 (nI c) M D w ord = ke (nI c') M' D' w' ord') ∧ T'.2 = A ∧ T'.1 0 = nI L ∧ FrS M M' ∧ ((M' 7 = -nI 1 ∧ r = nI c' ∧ c' ≤ 120 ∧ ∃ n o pl od, Good n o pl od ∧ NetR N' n o pl od ∧ M' 9 = nI n ∧ RefR D' n o pl) ∨ ∃ f, f ≤ 120 ∧ M' 7 = nI f ∧ r = -nI 10 - nI f)
  | 0, e, s, q, kd, v, c, n, m8, m9, T, Nn, M, D, w, ord, o, pl, od, hd, _, _, _, _, _, _, _, _, _, _, _, _, _ => absurd hd (Nat.not_lt_zero _)
  | d + 1, e, s, q, kd, v, c, n, m8, m9, T, Nn, M, D, w, ord, o, pl, od, hd, h8, h9, hce, hj, t0, t4, tA, hM, hg, hN, m9e, hD, hf => by
    obtain ⟨m8, rfl⟩ : ∃ z, m8 = z + 1 := ⟨m8 - 1, by omega⟩
    obtain ⟨m9, rfl⟩ : ∃ z, m9 = z + 1 := ⟨m9 - 1, by omega⟩
    obtain ⟨a1, a2, a3, a4, a5, a6, a7, -⟩ := id hj
    obtain ⟨T0, eT0, hT0⟩ := a7 T t0 t4 (by rw [tA]; exact hA)
    rw [tA] at hT0
    rw [k_X7_readInto_14.eq_2]
    simp only [lit]
    rw [q_lt_f (by omega) (by omega), eT0, Option.bind_some]
    simp only [hT0.2.2.2.2.1]
    rw [q_eq_n (t8_lt a5) (by omega)]
    by_cases k0 : kd = 0
    · rw [if_pos ((t8_e a5).mpr k0)]
      refine ⟨nI c, T0, Nn, M, D, w, ord, c, rfl, fun ke => ?_, hT0.1, hT0.2.1, FrS.rf, Or.inl ⟨hM.2.1, rfl, by omega, n, o, pl, od, hg, hN, m9e, hD⟩⟩
      rw [k_X9_store_25.eq_2, well_t hM.2.1]
      simp only [lit, Option.bind_some]
      rw [if_neg ne10]
      simp only [hM.2.2.2.2.1]
      subst k0
      rw [if_pos (show nI (t9 0) = nI 0 by decide)]
    · rw [if_neg (fun z => k0 ((t8_e a5).mp z))]
      have hE : Ent tx L e c A X S K T0 Nn M D w ord := by
        rcases (show kd = 1 ∨ kd = 2 ∨ kd = 3 ∨ kd = 4 ∨ kd = 5 by omega) with z | z | z | z | z
        · by_cases c0 : c = 0
          · subst z; subst c0
            exact ent_n hL hx hA hX hj hM (hf rfl) w ord hT0 Nn
          · exact ent_b hL (by omega) a5 hM k0 (Or.inr (Or.inr (Or.inr ⟨z, c0⟩))) (by omega) D w ord hT0 Nn
        · subst z
          exact ent_a hL hx hA hX hj hM hg hN m9e hD w ord hT0
        · exact ent_b hL (by omega) a5 hM k0 (Or.inl z) (by omega) D w ord hT0 Nn
        · exact ent_b hL (by omega) a5 hM k0 (Or.inr (Or.inl z)) (by omega) D w ord hT0 Nn
        · exact ent_b hL (by omega) a5 hM k0 (Or.inr (Or.inr (Or.inl z))) (by omega) D w ord hT0 Nn
      obtain ⟨ok, T', N', M', D', w', ord', e1, e2, e3, e4, e5, e6, e7⟩ := hE
      have cl : (if nI c = nI 0 then ((f_X7_readEntry T0 Nn (nI 1)).bind fun r4 => (if r4.1 = nI 0 then (some (((-nI 10) - (r4.2.1.1 3)), r4.2.1, r4.2.2)) else (k_X7_readInto_14 (fun x2_5 Tt_5 N1_5 => (some (x2_5, Tt_5, N1_5))) m8 (nI c + nI 1) (nI c + nI 1) r4.2.1 r4.2.2))) else ((f_X7_readEntry T0 Nn (nI 0)).bind fun r3 => (if r3.1 = nI 0 then (some (((-nI 10) - (r3.2.1.1 3)), r3.2.1, r3.2.2)) else (k_X7_readInto_14 (fun x2_5 Tt_5 N1_5 => (some (x2_5, Tt_5, N1_5))) m8 (nI c + nI 1) (nI c + nI 1) r3.2.1 r3.2.2)))) = if ok = true then k_X7_readInto_14 (fun x2_5 Tt_5 N1_5 => (some (x2_5, Tt_5, N1_5))) m8 (nI (c + 1)) (nI (c + 1)) T' N' else some (-nI 10 - T'.1 3, T', N') := by
        rw [q_eq_n (by omega) (by omega), nI_add]
        by_cases c0 : c = 0
        · rw [decide_eq_true c0] at e1
          rw [if_pos c0, show nI 1 = nI (true).toNat from rfl, e1, Option.bind_some]
          dsimp only
          rw [q_b0]
        · rw [decide_eq_false c0] at e1
          rw [if_neg c0, show f_X7_readEntry T0 Nn (nI 0) = f_X7_readEntry T0 Nn (nI (false).toNat) from rfl, e1, Option.bind_some]
          dsimp only
          rw [q_b0]
      rw [cl]
      cases ok with
      | false =>
        obtain ⟨f, hf1, hf2, hf3⟩ := e6 rfl
        rw [if_neg (by decide)]
        refine ⟨_, T', N', M', D', w', ord', c + 1, rfl, fun ke => ?_, e3, e4, e5, Or.inr ⟨f, hf1, hf3, by rw [hf2]⟩⟩
        rw [e2 ke m9]
        obtain ⟨m9, rfl⟩ : ∃ z, m9 = z + 1 := ⟨m9 - 1, by omega⟩
        rw [k_X9_store_25.eq_2, well_f (by omega) hf3]
        simp only [lit, Option.bind_some]
        rw [if_pos trivial]
      | true =>
        obtain ⟨n', o', pl', od', e', s', q', kd', v', g1, g2, g3, g4, g5, g6, g7, g8⟩ := e7 rfl
        rw [if_pos rfl]
        obtain ⟨r, T2, N2, M2, D2, w2, ord2, c2, y1, y2, y3, y4, y5, y6⟩ := parse hL hx hA hX d e' s' q' kd' v' (c + 1) n' m8 m9 T' N' M' D' w' ord' o' pl' od' (by have := g2.1; have := g2.2.1; have := g2.2.2.1; omega) (by omega) (by omega) (by omega) g2 e4 g3 e3 g4 g5 g6 g7 g8 (fun z => by omega)
        exact ⟨r, T2, N2, M2, D2, w2, ord2, c2, y1, fun ke => by rw [e2 ke m9]; exact y2 ke, y3, y4, e5.tr y5, y6⟩
/-! what both keep besides nets -/
def TxtR (T : TxtS) (X : Nat → Int32) (m2 : Int32) : Prop := ∃ (L : Nat) (tx : Nat → Nat), L ≤ 120 ∧ T.1 0 = nI L ∧ m2 = nI L ∧ (∀ i, i < L → tx i ≤ 255) ∧ ∀ i, i < L → T.2 i = nI (tx i) ∧ X i = nI (tx i)
theorem begins_eq (M : ModS) (D : Nat → Int32) : ∃ D', f_X9_begins M D = some (upd M 9 (nI 4), D') ∧ ∀ k, k < 12 → D' k = nI 0 ∧ D' (12 + k) = nI k := by
  unfold f_X9_begins
  simp only [lit]
  obtain ⟨D', hD, e⟩ := loop_e (fun m i (T : Nat → Int32) => k_X9_begins_7 (upd M 9 (nI 4)) (fun m_draft_1 => (some (upd M 9 (nI 4), m_draft_1))) m (nI i) T) (fun T => some (upd M 9 (nI 4), T)) (fun i T => ∀ k, k < i → T k = nI 0 ∧ T (12 + k) = nI k) 12 D (by omega) (fun _ q => absurd q (Nat.not_lt_zero _))
    (by intro m T _; rw [k_X9_begins_7.eq_2]; simp only [lit]; rw [q_le_t (by omega) (by omega)])
    (by
      intro m i T hi hT
      rw [k_X9_begins_7.eq_2]
      simp only [lit, nI_add, Nat.zero_add]
      rw [q_le_f (by omega) (by omega), q_in (by omega) (by omega), q_in (by omega) (by omega), q_cl (by omega), q_cl (by omega)]
      refine ⟨upd (upd T i (nI 0)) (12 + i) (nI i), fun k hk => ?_, rfl⟩
      rcases (show k < i ∨ k = i by omega) with q | q
      · rw [pk_un (by omega), pk_un (by omega), pk_un (by omega), pk_un (by omega)]; exact hT k q
      · subst q; rw [pk_un (by omega), pk_us, pk_us]; exact ⟨rfl, rfl⟩)
  exact ⟨D', e, hD⟩
/-- both read the whole text -/
theorem read_eq {T : TxtS} {X S K D w ord : Nat → Int32} {M : ModS} (hT : TxtR T X (M 2)) (Bb : NetS) : ∃ (r : Int32) (T' : TxtS) (N' : NetS) (M' : ModS) (D' w' ord' : Nat → Int32) (c' : Nat) (M1 : ModS) (D1 : Nat → Int32), f_X7_readInto T Bb = some (r, T', N') ∧ f_X9_begins (upd (upd (upd M 0 (nI 0)) 7 (-nI 1)) 3 (nI 0)) D = some (M1, D1) ∧ (∃ M2, f_X9_advances M1 X = some M2 ∧ ∀ ke, k_X9_store_25 X S K ke fu (nI 0) M2 D1 w ord = ke (nI c') M' D' w' ord') ∧ TxtR T' X (M' 2) ∧ FrS M M' ∧ ((M' 7 = -nI 1 ∧ r = nI c' ∧ c' ≤ 120 ∧ ∃ n o pl od, Good n o pl od ∧ NetR N' n o pl od ∧ M' 9 = nI n ∧ RefR D' n o pl) ∨ ∃ f, f ≤ 120 ∧ M' 7 = nI f ∧ r = -nI 10 - nI f) := by
  obtain ⟨L, tx, hL, t0, m2, hx, hAX⟩ := hT
  obtain ⟨N1, eN1, hN1⟩ := begin_eq (n := 4) Bb (by omega)
  obtain ⟨D1, eD1, hD1⟩ := begins_eq (upd (upd (upd M 0 (nI 0)) 7 (-nI 1)) 3 (nI 0)) D
  obtain ⟨s, q, kd, v, hj⟩ := tok_ex (tx := tx) hL hx (e := 0) (Nat.zero_le _)
  have hj' : TokJ tx L 0 s q kd v := hj
  obtain ⟨M2, eM2, hM2⟩ := hj'.2.2.2.2.2.2.2 (upd (upd (upd (upd M 0 (nI 0)) 7 (-nI 1)) 3 (nI 0)) 9 (nI 4)) X (by rw [pk_un (by decide), pk_un (by decide), pk_un (by decide), pk_un (by decide)]; exact m2) (by rw [pk_un (by decide), pk_us]) (fun i hi => (hAX i hi).2)
  have z2 : M2 2 = nI L := by rw [hM2.2.2.2.2.2.2 2 (by decide) (by decide) (by decide) (by decide), pk_un (by decide), pk_un (by decide), pk_un (by decide), pk_un (by decide)]; exact m2
  have z7 : M2 7 = -nI 1 := by rw [hM2.2.2.2.2.2.2 7 (by decide) (by decide) (by decide) (by decide), pk_un (by decide), pk_un (by decide), pk_us]
  have z9 : M2 9 = nI 4 := by rw [hM2.2.2.2.2.2.2 9 (by decide) (by decide) (by decide) (by decide), pk_us]
  have zf : FrS M M2 := fun k a b c d e f g i j l => by rw [hM2.2.2.2.2.2.2 k b c d e, pk_un g, pk_un b, pk_un f, pk_un a]
  obtain ⟨r, T', N', M', D', w', ord', c', y1, y2, y3, y4, y5, y6⟩ := parse (A := T.2) (X := X) (S := S) (K := K) hL hx (fun i hi => (hAX i hi).1) (fun i hi => (hAX i hi).2) (L + 1) 0 s q kd v 0 4 fu fu (upd T.1 4 (nI 0), T.2) N1 M2 D1 w ord o0 id0 id0 (by omega) (by rw [fu_eq]; omega) (by rw [fu_eq]; omega) (Nat.le_refl _) hj' (by show upd T.1 4 (nI 0) 0 = _; rw [pk_un (by decide)]; exact t0) (by show upd T.1 4 (nI 0) 4 = _; rw [pk_us]) rfl ⟨z2, z7, hM2.self⟩ (good0 (by omega) (by omega)) hN1 z9 (fun u hu => ⟨(hD1 u (by omega)).1, (hD1 u (by omega)).2⟩) (fun _ => hD1)
  refine ⟨r, T', N', M', D', w', ord', c', _, D1, ?_, eD1, ⟨M2, eM2, y2⟩, ⟨L, tx, hL, y4, ?_, hx, fun i hi => ⟨by rw [y3]; exact (hAX i hi).1, (hAX i hi).2⟩⟩, zf.tr y5, y6⟩
  · unfold f_X7_readInto
    simp only [lit]
    rw [eN1, Option.bind_some]
    exact y1
  · rw [y5 2 (by decide) (by decide) (by decide) (by decide) (by decide) (by decide) (by decide) (by decide) (by decide) (by decide)]; exact z2
end STO
