/-! a token, of both -/
section TK2
variable {tx : Nat → Nat} {L : Nat}
theorem u8_16 (c : Nat) (h : c = 110 ∨ c = 97 ∨ c = 59) : ((nI c).toUInt32 % 65536).toInt32 = nI c := by
  rcases h with e | e | e <;> subst e <;> decide
theorem tok_ex (hL : L ≤ 120) (hc : ∀ i, i < L → tx i ≤ 255) {e : Nat} (he : e ≤ L) : ∃ s q kd v, e ≤ s ∧ s ≤ q ∧ q ≤ L ∧ (kd = 0 ∨ s < q) ∧ kd ≤ 5 ∧ v ≤ 99 ∧ (∀ T : TxtS, T.1 0 = nI L → T.1 4 = nI e → (∀ i, i < L → T.2 i = nI (tx i)) → ∃ T', f_X7_nextToken T = some T' ∧ Tk8 L s q kd v T.2 T') ∧ (∀ (M : ModS) (X : Nat → Int32), M 2 = nI L → M 3 = nI e → (∀ i, i < L → X i = nI (tx i)) → ∃ M', f_X9_advances M X = some M' ∧ Tk9 s q kd v M M') := by
  obtain ⟨s, hs⟩ : ∃ s, s = fnd (fun i => decide (¬ tx i = 32)) (L - e) e := ⟨_, rfl⟩
  obtain ⟨a, b, -, -⟩ := fnd_all (fun i => decide (¬ tx i = 32)) (L - e) e
  rw [← hs] at a b
  -- the class, behind the blanks
  have k8 : ∀ (T : TxtS) (ke : TxtS → Option TxtS), T.1 0 = nI L → T.1 4 = nI e → (∀ i, i < L → T.2 i = nI (tx i)) → ∃ P, k_X7_nextToken_8 ke fu (upd T.1 3 (T.1 4), T.2) = ke (P, T.2) ∧ P 3 = nI s ∧ P 0 = nI L := by
    intro T ke h0 h4 hT
    obtain ⟨P, e1, e2, e3⟩ := skip8 hL hc hT hs he ke (upd T.1 3 (T.1 4)) (by rw [pk_un (by decide)]; exact h0) (by rw [pk_us]; exact h4)
    exact ⟨P, e1, e2, by rw [e3 0 (by decide), pk_un (by decide)]; exact h0⟩
  by_cases cs : s < L
  · have hcs := hc s cs
    cases hd : isd (tx s) with
    | true =>
      -- a number
      obtain ⟨q, hq⟩ : ∃ q, q = fnd (fun i => !isd (tx i)) (L - s) s := ⟨_, rfl⟩
      obtain ⟨qa, qb, qc, qd⟩ := fnd_all (fun i => !isd (tx i)) (L - s) s
      rw [← hq] at qa qb qc qd
      have hdig : ∀ i, s ≤ i → i < q → isd (tx i) = true := fun i h1 h2 => by
        have := qd i h1 h2
        cases hi : isd (tx i) with
        | true => rfl
        | false => rw [hi] at this; cases this
      have hsq : s < q := by
        rcases (show s < q ∨ s = q by omega) with c | c
        · exact c
        · have := qc (by omega)
          rw [← c, hd] at this; cases this
      have hv := vAB tx s (q - s) (fun j hj => hdig (s + j) (by omega) (by omega))
      have hAB : vA tx s (q - s) ≤ 99 ↔ vB tx s (q - s) ≤ 99 := by rcases hv with v | v <;> omega
      have hA100 : vA tx s (q - s) ≤ 100 := by rcases hv with v | v <;> omega
      have hB999 : vB tx s (q - s) ≤ 999 := by rcases hv with v | v <;> omega
      have K8 : ∀ T : TxtS, T.1 0 = nI L → T.1 4 = nI e → (∀ i, i < L → T.2 i = nI (tx i)) → ∃ P, f_X7_nextToken T = some (upd P 2 (nI (if vA tx s (q - s) ≤ 99 ∧ ¬ (tx s = 48 ∧ s + 1 < q) then 100 else 119)), T.2) ∧ P 0 = nI L ∧ P 3 = nI s ∧ P 4 = nI q ∧ P 5 = nI (vA tx s (q - s)) := by
        intro T h0 h4 hT
        unfold f_X7_nextToken
        obtain ⟨P, e1, p3, p0⟩ := k8 T _ h0 h4 hT
        rw [e1]
        simp only [p3, p0]
        rw [q_lt_t (by omega) (by omega), isDig_eq (T := (upd P 4 (nI s), T.2)) hL hc hT cs, Option.bind_some, hd]
        simp only [lit]
        rw [q_b0, if_pos rfl]
        unfold f_X7_readDigits
        simp only [lit]
        obtain ⟨P2, e2, r4, r5, rj⟩ := digs8 hL hc hT hq (by omega) (fun Tt_2 => inR (Tt_2.1 3) 120 ((if (Tt_2.2 ((Tt_2.1 3)).toNatClampNeg) = (nI 48) then (if (Tt_2.1 4) ≤ ((Tt_2.1 3) + (nI 1)) then (if True then (if (Tt_2.1 5) ≤ (nI 99) then (some ((upd Tt_2.1 2 (nI 100)), Tt_2.2)) else (some ((upd Tt_2.1 2 (nI 119)), Tt_2.2))) else (some ((upd Tt_2.1 2 (nI 119)), Tt_2.2))) else (if (nI 1) = nI 0 then (if (Tt_2.1 5) ≤ (nI 99) then (some ((upd Tt_2.1 2 (nI 100)), Tt_2.2)) else (some ((upd Tt_2.1 2 (nI 119)), Tt_2.2))) else (some ((upd Tt_2.1 2 (nI 119)), Tt_2.2)))) else (if True then (if (Tt_2.1 5) ≤ (nI 99) then (some ((upd Tt_2.1 2 (nI 100)), Tt_2.2)) else (some ((upd Tt_2.1 2 (nI 119)), Tt_2.2))) else (some ((upd Tt_2.1 2 (nI 119)), Tt_2.2)))))) (upd (upd P 4 (nI s)) 5 (nI 0)) (by rw [pk_un (by decide), pk_un (by decide)]; exact p0) (by rw [pk_un (by decide), pk_us]) pk_us
        have r3 : P2 3 = nI s := by rw [rj 3 (by decide) (by decide), pk_un (by decide), pk_un (by decide)]; exact p3
        have r0 : P2 0 = nI L := by rw [rj 0 (by decide) (by decide), pk_un (by decide), pk_un (by decide)]; exact p0
        refine ⟨P2, ?_, r0, r3, r4, r5⟩
        have e3 : ∀ Y : Option TxtS, (Y.bind fun r3 => some r3) = Y := fun Y => by cases Y <;> rfl
        rw [e3]
        refine e2.trans ?_
        simp only [r3, r4, r5, if_true]
        rw [q_in (by omega) (by omega), q_cl (by omega), hT s cs, q_eq_n (by omega) (by omega), nI_add, q_le_n (by omega) (by omega), if_neg (show ¬ nI 1 = nI 0 by decide), q_le_n (by omega) (by omega)]
        by_cases c1 : tx s = 48
        · rw [if_pos c1]
          by_cases c2 : q ≤ s + 1
          · rw [if_pos c2]
            by_cases c3 : vA tx s (q - s) ≤ 99
            · rw [if_pos c3, if_pos ⟨c3, by omega⟩]
            · rw [if_neg c3, if_neg (fun z => c3 z.1)]
          · rw [if_neg c2, if_neg (fun z => z.2 ⟨c1, by omega⟩)]
        · rw [if_neg c1]
          by_cases c3 : vA tx s (q - s) ≤ 99
          · rw [if_pos c3, if_pos ⟨c3, fun z => c1 z.1⟩]
          · rw [if_neg c3, if_neg (fun z => c3 z.1)]
      have K9 : ∀ (M : ModS) (X : Nat → Int32), M 2 = nI L → M 3 = nI e → (∀ i, i < L → X i = nI (tx i)) → ∃ P, f_X9_advances M X = some (upd P 4 (nI (if vB tx s (q - s) ≤ 99 ∧ ¬ (tx s = 48 ∧ s + 1 < q) then 2 else 4))) ∧ P 3 = nI q ∧ P 5 = nI s ∧ P 6 = nI (vB tx s (q - s)) ∧ ∀ k, k ≠ 3 → k ≠ 5 → k ≠ 6 → P k = M k := by
        intro M X m2 m3 hX
        unfold f_X9_advances
        obtain ⟨P, e1, p3, pj⟩ := skip9 hL hc hX m2 hs he m3 (fun Mm_2 => ((f_X9_letterAt (upd Mm_2 5 (Mm_2 3)) X (Mm_2 3)).bind fun r3 => (if 0 ≤ r3 then ((f_X9_in r3 (48 : Int32) (57 : Int32)).bind fun r4 => (if r4 = 0 then (if r3 = (59 : Int32) then (some (upd (upd (upd (upd Mm_2 5 (Mm_2 3)) 3 ((Mm_2 3) + (1 : Int32))) 6 r3) 4 (3 : Int32))) else (if r3 = (110 : Int32) then (some (upd (upd (upd (upd Mm_2 5 (Mm_2 3)) 3 ((Mm_2 3) + (1 : Int32))) 6 r3) 4 (1 : Int32))) else (if r3 = (97 : Int32) then (some (upd (upd (upd (upd Mm_2 5 (Mm_2 3)) 3 ((Mm_2 3) + (1 : Int32))) 6 r3) 4 (1 : Int32))) else (some (upd (upd (upd (upd Mm_2 5 (Mm_2 3)) 3 ((Mm_2 3) + (1 : Int32))) 6 r3) 4 (4 : Int32)))))) else (k_X9_advances_71 r3 X (fun Mm_8 => (if (99 : Int32) < (Mm_8 6) then (some (upd Mm_8 4 (4 : Int32))) else (if r3 = (48 : Int32) then (if ((Mm_8 3) - (Mm_8 5)) ≤ (1 : Int32) then (some (upd Mm_8 4 (2 : Int32))) else (some (upd Mm_8 4 (4 : Int32)))) else (some (upd Mm_8 4 (2 : Int32)))))) fu (upd (upd Mm_2 5 (Mm_2 3)) 6 (0 : Int32))))) else (some (upd (upd Mm_2 5 (Mm_2 3)) 4 (0 : Int32))))))
        rw [e1, p3, letter_eq hL hX (by rw [pk_un (by decide), pj 2 (by decide)]; exact m2) (by omega), Option.bind_some, if_pos cs]
        simp only [lit]
        rw [q_le_t (by omega) (by omega), inD _ hcs, Option.bind_some, hd, q_b0, if_pos rfl]
        obtain ⟨P2, e2, r3, r6, rj⟩ := digs9 (M := upd (upd P 5 (nI s)) 6 (nI 0)) hL hc hX (by rw [pk_un (by decide), pk_un (by decide), pj 2 (by decide)]; exact m2) hq (by omega) (by rw [pk_un (by decide), pk_un (by decide)]; exact p3) pk_us (nI (tx s)) (fun Mm_8 => (if (nI 99) < (Mm_8 6) then (some (upd Mm_8 4 (nI 4))) else (if nI (tx s) = (nI 48) then (if ((Mm_8 3) - (Mm_8 5)) ≤ (nI 1) then (some (upd Mm_8 4 (nI 2))) else (some (upd Mm_8 4 (nI 4)))) else (some (upd Mm_8 4 (nI 2))))))
        have r5 : P2 5 = nI s := by rw [rj 5 (by decide) (by decide), pk_un (by decide), pk_us]
        refine ⟨P2, ?_, r3, r5, r6, fun k k3 k5 k6 => by rw [rj k k3 k6, pk_un k6, pk_un k5]; exact pj k k3⟩
        rw [e2, r3, r5, r6, q_lt_n (by omega) (by omega), q_eq_n (by omega) (by omega), q_sub (by omega), q_le_n (by omega) (by omega)]
        by_cases c3 : vB tx s (q - s) ≤ 99
        · rw [if_neg (by omega)]
          by_cases c1 : tx s = 48
          · rw [if_pos c1]
            by_cases c2 : q - s ≤ 1
            · rw [if_pos c2, if_pos ⟨c3, by omega⟩]
            · rw [if_neg c2, if_neg (fun z => z.2 ⟨c1, by omega⟩)]
          · rw [if_neg c1, if_pos ⟨c3, fun z => c1 z.1⟩]
        · rw [if_pos (by omega), if_neg (fun z => c3 z.1)]
      by_cases ok : vB tx s (q - s) ≤ 99 ∧ ¬ (tx s = 48 ∧ s + 1 < q)
      · refine ⟨s, q, 5, vB tx s (q - s), a, by omega, by omega, Or.inr hsq, by omega, ok.1, fun T h0 h4 hT => ?_, fun M X m2 m3 hX => ?_⟩
        · obtain ⟨P, e1, r0, r3, r4, r5⟩ := K8 T h0 h4 hT
          rw [if_pos ⟨hAB.mpr ok.1, ok.2⟩] at e1
          refine ⟨_, e1, rfl, ?_, ?_, ?_, ?_, fun _ => ?_⟩
          · show upd P 2 (nI 100) 0 = _; rw [pk_un (by decide)]; exact r0
          · show upd P 2 (nI 100) 3 = _; rw [pk_un (by decide)]; exact r3
          · show upd P 2 (nI 100) 4 = _; rw [pk_un (by decide)]; exact r4
          · show upd P 2 (nI 100) 2 = _; rw [pk_us]; rfl
          · show upd P 2 (nI 100) 5 = _
            rw [pk_un (by decide), r5]
            congr 1
            rcases hv with v | v
            · exact v.1
            · omega
        · obtain ⟨P, e1, r3, r5, r6, rj⟩ := K9 M X m2 m3 hX
          rw [if_pos ok] at e1
          exact ⟨_, e1, by rw [pk_un (by decide)]; exact r3, by rw [pk_un (by decide)]; exact r5, (by rw [pk_us]; rfl), (fun z => absurd z (by decide)), (fun z => absurd z (by decide)), fun _ => by rw [pk_un (by decide)]; exact r6, fun k k3 k4 k5 k6 => by rw [pk_un k4]; exact rj k k3 k5 k6⟩
      · refine ⟨s, q, 4, 0, a, by omega, by omega, Or.inr hsq, by omega, by omega, fun T h0 h4 hT => ?_, fun M X m2 m3 hX => ?_⟩
        · obtain ⟨P, e1, r0, r3, r4, r5⟩ := K8 T h0 h4 hT
          rw [if_neg (fun z => ok ⟨hAB.mp z.1, z.2⟩)] at e1
          refine ⟨_, e1, rfl, ?_, ?_, ?_, ?_, (fun z => absurd z (by decide))⟩
          · show upd P 2 (nI 119) 0 = _; rw [pk_un (by decide)]; exact r0
          · show upd P 2 (nI 119) 3 = _; rw [pk_un (by decide)]; exact r3
          · show upd P 2 (nI 119) 4 = _; rw [pk_un (by decide)]; exact r4
          · show upd P 2 (nI 119) 2 = _; rw [pk_us]; rfl
        · obtain ⟨P, e1, r3, r5, r6, rj⟩ := K9 M X m2 m3 hX
          rw [if_neg ok] at e1
          exact ⟨_, e1, by rw [pk_un (by decide)]; exact r3, by rw [pk_un (by decide)]; exact r5, (by rw [pk_us]; rfl), (fun z => absurd z (by decide)), (fun z => absurd z (by decide)), (fun z => absurd z (by decide)), fun k k3 k4 k5 k6 => by rw [pk_un k4]; exact rj k k3 k5 k6⟩
    | false =>
      -- one letter
      obtain ⟨kd, hkd⟩ : ∃ kd, kd = if tx s = 110 then 1 else if tx s = 97 then 2 else if tx s = 59 then 3 else 4 := ⟨_, rfl⟩
      have hk14 : 1 ≤ kd ∧ kd ≤ 4 := by rw [hkd]; split; omega; split; omega; split <;> omega
      refine ⟨s, s + 1, kd, 0, a, by omega, by omega, Or.inr (by omega), by omega, by omega, fun T h0 h4 hT => ?_, fun M X m2 m3 hX => ?_⟩
      · unfold f_X7_nextToken
        obtain ⟨P, e1, p3, p0⟩ := k8 T _ h0 h4 hT
        rw [e1]
        simp only [p3, p0]
        rw [q_lt_t (by omega) (by omega), isDig_eq (T := (upd P 4 (nI s), T.2)) hL hc hT cs, Option.bind_some, hd]
        simp only [lit]
        rw [q_b0, if_neg (by decide), q_in (by omega) (by omega), q_cl (by omega), hT s cs, q_eq_n (a := tx s) (b := 110) (by omega) (by omega), q_eq_n (a := tx s) (b := 97) (by omega) (by omega), q_eq_n (a := tx s) (b := 59) (by omega) (by omega), if_neg (show ¬ nI 1 = nI 0 by decide), nI_add]
        simp only [if_true]
        have fin : ∀ c, c = nI (t8 kd) → ∃ T', some ((upd (upd P 2 c) 4 (nI (s + 1)), T.2) : TxtS) = some T' ∧ Tk8 L s (s + 1) kd 0 T.2 T' := by
          intro c ec
          refine ⟨_, rfl, rfl, ?_, ?_, ?_, ?_, fun z => by omega⟩
          · show upd (upd P 2 c) 4 (nI (s + 1)) 0 = _; rw [pk_un (by decide), pk_un (by decide)]; exact p0
          · show upd (upd P 2 c) 4 (nI (s + 1)) 3 = _; rw [pk_un (by decide), pk_un (by decide)]; exact p3
          · show upd (upd P 2 c) 4 (nI (s + 1)) 4 = _; rw [pk_us]
          · show upd (upd P 2 c) 4 (nI (s + 1)) 2 = _; rw [pk_un (by decide), pk_us]; exact ec
        by_cases c1 : tx s = 110
        · rw [if_pos c1]
          rw [if_pos c1] at hkd
          exact fin _ (by rw [u8_16 _ (Or.inl c1), c1, hkd]; rfl)
        · rw [if_neg c1]
          rw [if_neg c1] at hkd
          by_cases c2 : tx s = 97
          · rw [if_pos c2]
            rw [if_pos c2] at hkd
            exact fin _ (by rw [u8_16 _ (Or.inr (Or.inl c2)), c2, hkd]; rfl)
          · rw [if_neg c2]
            rw [if_neg c2] at hkd
            by_cases c3 : tx s = 59
            · rw [if_pos c3]
              rw [if_pos c3] at hkd
              exact fin _ (by rw [u8_16 _ (Or.inr (Or.inr c3)), c3, hkd]; rfl)
            · rw [if_neg c3]
              rw [if_neg c3] at hkd
              exact fin _ (by rw [hkd]; rfl)
      · unfold f_X9_advances
        obtain ⟨P, e1, p3, pj⟩ := skip9 hL hc hX m2 hs he m3 (fun Mm_2 => ((f_X9_letterAt (upd Mm_2 5 (Mm_2 3)) X (Mm_2 3)).bind fun r3 => (if 0 ≤ r3 then ((f_X9_in r3 (48 : Int32) (57 : Int32)).bind fun r4 => (if r4 = 0 then (if r3 = (59 : Int32) then (some (upd (upd (upd (upd Mm_2 5 (Mm_2 3)) 3 ((Mm_2 3) + (1 : Int32))) 6 r3) 4 (3 : Int32))) else (if r3 = (110 : Int32) then (some (upd (upd (upd (upd Mm_2 5 (Mm_2 3)) 3 ((Mm_2 3) + (1 : Int32))) 6 r3) 4 (1 : Int32))) else (if r3 = (97 : Int32) then (some (upd (upd (upd (upd Mm_2 5 (Mm_2 3)) 3 ((Mm_2 3) + (1 : Int32))) 6 r3) 4 (1 : Int32))) else (some (upd (upd (upd (upd Mm_2 5 (Mm_2 3)) 3 ((Mm_2 3) + (1 : Int32))) 6 r3) 4 (4 : Int32)))))) else (k_X9_advances_71 r3 X (fun Mm_8 => (if (99 : Int32) < (Mm_8 6) then (some (upd Mm_8 4 (4 : Int32))) else (if r3 = (48 : Int32) then (if ((Mm_8 3) - (Mm_8 5)) ≤ (1 : Int32) then (some (upd Mm_8 4 (2 : Int32))) else (some (upd Mm_8 4 (4 : Int32)))) else (some (upd Mm_8 4 (2 : Int32)))))) fu (upd (upd Mm_2 5 (Mm_2 3)) 6 (0 : Int32))))) else (some (upd (upd Mm_2 5 (Mm_2 3)) 4 (0 : Int32))))))
        rw [e1, p3, letter_eq hL hX (by rw [pk_un (by decide), pj 2 (by decide)]; exact m2) (by omega), Option.bind_some, if_pos cs]
        simp only [lit]
        rw [q_le_t (by omega) (by omega), inD _ hcs, Option.bind_some, hd, q_b0, if_neg (by decide), q_eq_n (by omega) (by omega), q_eq_n (by omega) (by omega), q_eq_n (by omega) (by omega), nI_add]
        have fin : ∀ c, c = nI (t9 kd) → ∃ M', some (upd (upd (upd (upd P 5 (nI s)) 3 (nI (s + 1))) 6 (nI (tx s))) 4 c) = some M' ∧ Tk9 s (s + 1) kd 0 M M' := by
          intro c ec
          refine ⟨_, rfl, ?_, ?_, ?_, fun z => ?_, fun z => ?_, fun z => by omega, fun k k3 k4 k5 k6 => ?_⟩
          · rw [pk_un (by decide), pk_un (by decide), pk_us]
          · rw [pk_un (by decide), pk_un (by decide), pk_un (by decide), pk_us]
          · rw [pk_us]; exact ec
          · rw [pk_un (by decide), pk_us]
            by_cases c1 : tx s = 110
            · rw [c1]
            · rw [if_neg c1] at hkd
              exfalso
              rw [z] at hkd
              split at hkd
              · cases hkd
              · split at hkd <;> cases hkd
          · rw [pk_un (by decide), pk_us]
            by_cases c1 : tx s = 110
            · rw [if_pos c1] at hkd
              omega
            · rw [if_neg c1] at hkd
              by_cases c2 : tx s = 97
              · rw [c2]
              · rw [if_neg c2] at hkd
                exfalso
                rw [z] at hkd
                split at hkd <;> cases hkd
          · rw [pk_un k4, pk_un k6, pk_un k3, pk_un k5]; exact pj k k3
        by_cases c1 : tx s = 110
        · rw [if_neg (by omega), if_pos c1]
          rw [if_pos c1] at hkd
          exact fin _ (by rw [hkd]; rfl)
        · rw [if_neg c1] at hkd
          by_cases c2 : tx s = 97
          · rw [if_neg (by omega), if_neg (by omega), if_pos c2]
            rw [if_pos c2] at hkd
            exact fin _ (by rw [hkd]; rfl)
          · rw [if_neg c2] at hkd
            by_cases c3 : tx s = 59
            · rw [if_pos c3]
              rw [if_pos c3] at hkd
              exact fin _ (by rw [hkd]; rfl)
            · rw [if_neg c3, if_neg c1, if_neg c2]
              rw [if_neg c3] at hkd
              exact fin _ (by rw [hkd]; rfl)
  · refine ⟨s, s, 0, 0, a, Nat.le_refl _, by omega, Or.inl rfl, by omega, by omega, fun T h0 h4 hT => ?_, fun M X m2 m3 hX => ?_⟩
    · unfold f_X7_nextToken
      obtain ⟨P, e1, p3, p0⟩ := k8 T _ h0 h4 hT
      rw [e1]
      simp only [p3, p0]
      rw [q_lt_f (by omega) (by omega)]
      simp only [lit]
      refine ⟨_, rfl, rfl, ?_, ?_, ?_, ?_, (fun z => absurd z (by decide))⟩
      · show upd (upd P 4 (nI s)) 2 (nI 101) 0 = _; rw [pk_un (by decide), pk_un (by decide)]; exact p0
      · show upd (upd P 4 (nI s)) 2 (nI 101) 3 = _; rw [pk_un (by decide), pk_un (by decide)]; exact p3
      · show upd (upd P 4 (nI s)) 2 (nI 101) 4 = _; rw [pk_un (by decide), pk_us]
      · show upd (upd P 4 (nI s)) 2 (nI 101) 2 = _; rw [pk_us]; rfl
    · unfold f_X9_advances
      obtain ⟨P, e1, p3, pj⟩ := skip9 hL hc hX m2 hs he m3 (fun Mm_2 => ((f_X9_letterAt (upd Mm_2 5 (Mm_2 3)) X (Mm_2 3)).bind fun r3 => (if 0 ≤ r3 then ((f_X9_in r3 (48 : Int32) (57 : Int32)).bind fun r4 => (if r4 = 0 then (if r3 = (59 : Int32) then (some (upd (upd (upd (upd Mm_2 5 (Mm_2 3)) 3 ((Mm_2 3) + (1 : Int32))) 6 r3) 4 (3 : Int32))) else (if r3 = (110 : Int32) then (some (upd (upd (upd (upd Mm_2 5 (Mm_2 3)) 3 ((Mm_2 3) + (1 : Int32))) 6 r3) 4 (1 : Int32))) else (if r3 = (97 : Int32) then (some (upd (upd (upd (upd Mm_2 5 (Mm_2 3)) 3 ((Mm_2 3) + (1 : Int32))) 6 r3) 4 (1 : Int32))) else (some (upd (upd (upd (upd Mm_2 5 (Mm_2 3)) 3 ((Mm_2 3) + (1 : Int32))) 6 r3) 4 (4 : Int32)))))) else (k_X9_advances_71 r3 X (fun Mm_8 => (if (99 : Int32) < (Mm_8 6) then (some (upd Mm_8 4 (4 : Int32))) else (if r3 = (48 : Int32) then (if ((Mm_8 3) - (Mm_8 5)) ≤ (1 : Int32) then (some (upd Mm_8 4 (2 : Int32))) else (some (upd Mm_8 4 (4 : Int32)))) else (some (upd Mm_8 4 (2 : Int32)))))) fu (upd (upd Mm_2 5 (Mm_2 3)) 6 (0 : Int32))))) else (some (upd (upd Mm_2 5 (Mm_2 3)) 4 (0 : Int32))))))
      rw [e1, p3, letter_eq hL hX (by rw [pk_un (by decide), pj 2 (by decide)]; exact m2) (by omega), Option.bind_some, if_neg cs]
      simp only [lit]
      rw [if_neg m1_lt]
      exact ⟨_, rfl, by rw [pk_un (by decide), pk_un (by decide)]; exact p3, by rw [pk_un (by decide), pk_us], (by rw [pk_us]; rfl), (fun z => absurd z (by decide)), (fun z => absurd z (by decide)), (fun z => absurd z (by decide)), fun k k3 k4 k5 k6 => by rw [pk_un k4, pk_un k5]; exact pj k k3⟩
end TK2
