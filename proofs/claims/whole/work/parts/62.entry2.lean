/-! an entry: of items, of an arc, or none -/
section EN2
variable {tx : Nat → Nat} {L : Nat}
def Nxt (tx : Nat → Nat) (L e : Nat) (T' : TxtS) (N' : NetS) (M' : ModS) (D' : Nat → Int32) : Prop := ∃ n o pl od e' s q kd v, e < e' ∧ TokJ tx L e' s q kd v ∧ T'.1 4 = nI e' ∧ MxC L s q kd v M' ∧ Good n o pl od ∧ NetR N' n o pl od ∧ M' 9 = nI n ∧ RefR D' n o pl
def Ent (tx : Nat → Nat) (L e c : Nat) (A X S K : Nat → Int32) (T0 : TxtS) (Nn : NetS) (M : ModS) (D w ord : Nat → Int32) : Prop := ∃ (ok : Bool) (T' : TxtS) (N' : NetS) (M' : ModS) (D' w' ord' : Nat → Int32), f_X7_readEntry T0 Nn (nI (decide (c = 0)).toNat) = some (nI ok.toNat, T', N') ∧ (∀ (ke : Int32 → ModS → (Nat → Int32) → (Nat → Int32) → (Nat → Int32) → Option (Int32 × ModS × (Nat → Int32) × (Nat → Int32) × (Nat → Int32) × (Nat → Int32) × (Nat → Int32))) (m : Nat), k_X9_store_25 X S K ke (m + 1) (nI c) M D w ord = k_X9_store_25 X S K ke m (nI (c + 1)) M' D' w' ord') ∧ T'.2 = A ∧ T'.1 0 = nI L ∧ FrS M M' ∧ (ok = false → ∃ f, f ≤ 120 ∧ T'.1 3 = nI f ∧ M' 7 = nI f) ∧ (ok = true → Nxt tx L e T' N' M' D')
theorem ent_b {A X S K : Nat → Int32} {e s q kd v c : Nat} {M : ModS} (hL : L ≤ 120) (hs : s ≤ L) (h5 : kd ≤ 5) (hM : MxC L s q kd v M) (h0 : kd ≠ 0) (hb : kd = 3 ∨ kd = 4 ∨ kd = 5 ∨ (kd = 1 ∧ c ≠ 0)) (hc : c < 2147483648) (D w ord : Nat → Int32) {T0 : TxtS} (hT0 : Tk8 L s q kd v A T0) (Nn : NetS) : Ent tx L e c A X S K T0 Nn M D w ord := by
  refine ⟨false, T0, Nn, upd M 7 (nI s), D, w, ord, ?_, fun ke m => st_bad hL hs h5 hM h0 hb hc D w ord ke m, hT0.1, hT0.2.1, fr_u7, fun _ => ⟨s, by omega, hT0.2.2.1, pk_us⟩, fun z => by cases z⟩
  unfold f_X7_readEntry
  simp only [lit, hT0.2.2.2.2.1, q_eq_n (t8_lt h5) (show 110 < 2147483648 by omega), q_eq_n (t8_lt h5) (show 97 < 2147483648 by omega), if_true]
  by_cases c1 : kd = 1
  · rw [if_pos ((t8_n h5).mpr c1)]
    have hc0 : c ≠ 0 := by
      rcases hb with z | z | z | z
      · omega
      · omega
      · omega
      · exact z.2
    rw [decide_eq_false hc0]; rfl
  · rw [if_neg (fun z => c1 ((t8_n h5).mp z)), if_neg (fun z => by have := (t8_a h5).mp z; omega)]; rfl
theorem ent_n {A X S K : Nat → Int32} {e s q v : Nat} {M : ModS} (hL : L ≤ 120) (hx : ∀ i, i < L → tx i ≤ 255) (hA : ∀ i, i < L → A i = nI (tx i)) (hX : ∀ i, i < L → X i = nI (tx i)) (hj : TokJ tx L e s q 1 v) (hM : MxC L s q 1 v M) {D : Nat → Int32} (hD : ∀ k, k < 12 → D k = nI 0 ∧ D (12 + k) = nI k) (w ord : Nat → Int32) {T0 : TxtS} (hT0 : Tk8 L s q 1 v A T0) (Nn : NetS) : Ent tx L e 0 A X S K T0 Nn M D w ord := by
  obtain ⟨m2, m7, hk⟩ := hM
  obtain ⟨a1, a2, a3, a4, -⟩ := hj
  obtain ⟨s1, q1, k1, v1, hj1⟩ := tok_ex (tx := tx) hL hx (e := q) a3
  have hj1' : TokJ tx L q s1 q1 k1 v1 := hj1
  obtain ⟨b1, b2, b3, b4, b5, b6, -, -⟩ := hj1
  obtain ⟨s2, q2, k2, v2, hj2⟩ := tok_ex (tx := tx) hL hx (e := q1) b3
  have hj2' : TokJ tx L q1 s2 q2 k2 v2 := hj2
  obtain ⟨c1, c2, c3, c4, c5, c6, -, -⟩ := hj2
  obtain ⟨s3, q3, k3, v3, hj3⟩ := tok_ex (tx := tx) hL hx (e := q2) c3
  have hj3' : TokJ tx L q2 s3 q3 k3 v3 := hj3
  -- the class
  obtain ⟨tA, t0, t3, t4, tt, -⟩ := hT0
  have hTA : ∀ i, i < L → T0.2 i = nI (tx i) := by rw [tA]; exact hA
  obtain ⟨T1, eT1, uA, u0, u3, u4, ut, uv⟩ := rdNum_eq (a := 1) (b := 12) hj1' t0 t4 hTA (by omega) (by omega)
  have huA : ∀ i, i < L → T1.2 i = nI (tx i) := by rw [uA]; exact hTA
  obtain ⟨T2, eT2, wA, w0, w3, w4, wt, wv⟩ := hj2'.2.2.2.2.2.2.1 T1 u0 u4 huA
  -- the reference
  obtain ⟨M1, eM1, hM1⟩ := takes_t (M := M) hj1' m7 m2 hk.1 hX
  have p7 : M1 7 = -nI 1 := (hM1.2.2.2.2.2.2 7 (by decide) (by decide) (by decide) (by decide)).trans m7
  have p2 : M1 2 = nI L := (hM1.2.2.2.2.2.2 2 (by decide) (by decide) (by decide) (by decide)).trans m2
  obtain ⟨M2, eM2, hM2⟩ := takes_t (M := M1) hj2' p7 p2 hM1.1 hX
  have r7 : M2 7 = -nI 1 := (hM2.2.2.2.2.2.2 7 (by decide) (by decide) (by decide) (by decide)).trans p7
  have r2 : M2 2 = nI L := (hM2.2.2.2.2.2.2 2 (by decide) (by decide) (by decide) (by decide)).trans p2
  obtain ⟨M3, eM3, hM3⟩ := takes_t (M := upd M2 9 (nI v1)) hj3' (by rw [pk_un (by decide)]; exact r7) (by rw [pk_un (by decide)]; exact r2) (by rw [pk_un (by decide)]; exact hM2.1) hX
  -- how the reference goes
  have ref : ∀ (ke : Int32 → ModS → (Nat → Int32) → (Nat → Int32) → (Nat → Int32) → Option (Int32 × ModS × (Nat → Int32) × (Nat → Int32) × (Nat → Int32) × (Nat → Int32) × (Nat → Int32))) (m : Nat), k_X9_store_25 X S K ke (m + 1) (nI 0) M D w ord = (f_X9_takes M1 X (nI (nmB k1 v1 1 12).toNat)).bind fun r15 => (if (upd r15.2 9 r15.1) 4 = nI 3 then ((f_X9_takes (upd r15.2 9 r15.1) X (nI 1)).bind fun r => k_X9_store_25 X S K ke m (nI (0 + 1)) r.2 D w ord) else ((f_X9_takes (upd r15.2 9 r15.1) X (nI 0)).bind fun r => k_X9_store_25 X S K ke m (nI (0 + 1)) r.2 D w ord)) := by
    intro ke m
    rw [k_X9_store_25.eq_2, well_t m7]
    simp only [lit, Option.bind_some, nI_add]
    rw [if_neg ne10]
    simp only [hk.2.2.1, hk.2.2.2.1 rfl]
    rw [if_neg (show ¬ nI (t9 1) = nI 0 by decide), if_pos (show nI (t9 1) = nI 1 by decide)]
    simp only [if_true]
    rw [eM1, Option.bind_some]
    dsimp only
    rw [well_t p7, Option.bind_some, if_neg ne10]
    unfold f_X9_readsEntry
    simp only [lit]
    rw [hk.2.2.2.1 rfl, if_pos rfl, isNum_eq hM1 b5 b6 (by omega) (by omega), Option.bind_some]
    cases f_X9_takes M1 X (nI (nmB k1 v1 1 12).toNat) <;> rfl
  -- how the class goes
  have cls : f_X7_readEntry T0 Nn (nI (decide (0 = 0)).toNat) = if nmB k1 v1 1 12 = true then (f_X3_begin Nn (nI v1)).bind fun r2 => (if k2 = 3 then some (nI 1, T2, r2) else some (nI 0, T2, r2)) else some (nI 0, T1, Nn) := by
    rw [show nI (decide (0 = 0)).toNat = nI 1 from rfl]
    unfold f_X7_readEntry f_X7_readItems
    simp only [lit]
    rw [tt, if_pos (show nI (t8 1) = nI 110 by decide), if_neg ne10, eT1]
    simp only [Option.bind_some, q_b0]
    cases hb : nmB k1 v1 1 12 with
    | false => simp only [Bool.false_eq_true, if_false, Option.bind_some, if_true]
    | true =>
      have hk15 := (of_decide_eq_true hb).1
      simp only [if_true]
      rw [uv hk15]
      cases hbg : f_X3_begin Nn (nI v1) with
      | none => rfl
      | some r =>
        simp only [Option.bind_some]
        rw [if_neg ne10, if_neg ne10, eT2, Option.bind_some, wt, q_eq_n (t8_lt c5) (by omega)]
        by_cases z : k2 = 3
        · rw [if_pos ((t8_s c5).mpr z), if_pos z]
        · rw [if_neg (fun y => z ((t8_s c5).mp y)), if_neg z]
  cases hb : nmB k1 v1 1 12 with
  | false =>
    refine ⟨false, T1, Nn, upd (upd M1 7 (nI s1)) 9 (nI 0), D, w, ord, by rw [cls, hb]; rfl, fun ke m => ?_, uA.trans tA, u0, hM1.fr.tr (fr_u7.tr fr_u9), fun _ => ⟨s1, by omega, u3, by rw [pk_un (by decide), pk_us]⟩, fun z => by cases z⟩
    rw [ref, hb, show nI (false).toNat = nI 0 from rfl, takes_f p7, Option.bind_some]
    dsimp only
    rw [hM1.2.1, tail_n (f := s1) (by omega) (by rw [pk_un (by decide), pk_us])]
  | true =>
    obtain ⟨z1, z2, z3⟩ := of_decide_eq_true hb
    obtain ⟨N2, eN2, hN2⟩ := begin_eq (n := v1) Nn z3
    have e6 : M1 6 = nI v1 := hM1.2.2.2.2.2.1 z1
    by_cases c : k2 = 3
    · refine ⟨true, T2, N2, M3, D, w, ord, ?_, fun ke m => ?_, wA.trans (uA.trans tA), w0, hM1.fr.tr (hM2.fr.tr (fr_u9.tr hM3.fr)), (fun z => absurd z (by decide)), fun _ => ?_⟩
      · rw [cls, hb, if_pos rfl, eN2, Option.bind_some, if_pos c]; rfl
      · rw [ref, hb, show nI (true).toNat = nI 1 from rfl, eM2, Option.bind_some, e6]
        dsimp only
        refine tail_t (M := upd M2 9 (nI v1)) ?_ eM3
        rw [pk_un (by decide), hM2.2.2.1, c]; rfl
      · refine ⟨v1, o0, id0, id0, q2, s3, q3, k3, v3, by omega, hj3', w4, ⟨?_, ?_, hM3.self⟩, good0 z2 z3, hN2, ?_, fun u hu => ⟨(hD u (by omega)).1, (hD u (by omega)).2⟩⟩
        · rw [hM3.2.2.2.2.2.2 2 (by decide) (by decide) (by decide) (by decide), pk_un (by decide)]; exact r2
        · rw [hM3.2.2.2.2.2.2 7 (by decide) (by decide) (by decide) (by decide), pk_un (by decide)]; exact r7
        · rw [hM3.2.2.2.2.2.2 9 (by decide) (by decide) (by decide) (by decide), pk_us]
    · refine ⟨false, T2, N2, upd (upd M2 9 (nI v1)) 7 (nI s2), D, w, ord, ?_, fun ke m => ?_, wA.trans (uA.trans tA), w0, hM1.fr.tr (hM2.fr.tr (fr_u9.tr fr_u7)), fun _ => ⟨s2, by omega, w3, pk_us⟩, fun z => by cases z⟩
      · rw [cls, hb, if_pos rfl, eN2, Option.bind_some, if_neg c]; rfl
      · rw [ref, hb, show nI (true).toNat = nI 1 from rfl, eM2, Option.bind_some, e6]
        dsimp only
        rw [tail_f (M := upd M2 9 (nI v1)) (kd := k2) c5 (by rw [pk_un (by decide)]; exact hM2.2.2.1) c (by rw [pk_un (by decide)]; exact r7)]
        rw [show upd M2 9 (nI v1) 5 = nI s2 from (pk_un (by decide)).trans hM2.2.1]
theorem ent_a {A X S K : Nat → Int32} {n : Nat} {o pl od : Nat → Nat} {e s q v c : Nat} {M : ModS} {Nn : NetS} (hL : L ≤ 120) (hx : ∀ i, i < L → tx i ≤ 255) (hA : ∀ i, i < L → A i = nI (tx i)) (hX : ∀ i, i < L → X i = nI (tx i)) (hj : TokJ tx L e s q 2 v) (hM : MxC L s q 2 v M) (h : Good n o pl od) (hN : NetR Nn n o pl od) (m9 : M 9 = nI n) {D : Nat → Int32} (hD : RefR D n o pl) (w ord : Nat → Int32) {T0 : TxtS} (hT0 : Tk8 L s q 2 v A T0) : Ent tx L e c A X S K T0 Nn M D w ord := by
  have hn := h.1.2
  have hn1 := h.1.1
  obtain ⟨m2, m7, hk⟩ := hM
  obtain ⟨a1, a2, a3, a4, -⟩ := hj
  obtain ⟨s1, q1, k1, v1, hj1⟩ := tok_ex (tx := tx) hL hx (e := q) a3
  have hj1' : TokJ tx L q s1 q1 k1 v1 := hj1
  obtain ⟨b1, b2, b3, b4, b5, b6, -, -⟩ := hj1
  obtain ⟨s2, q2, k2, v2, hj2⟩ := tok_ex (tx := tx) hL hx (e := q1) b3
  have hj2' : TokJ tx L q1 s2 q2 k2 v2 := hj2
  obtain ⟨c1, c2, c3, c4, c5, c6, -, -⟩ := hj2
  obtain ⟨s3, q3, k3, v3, hj3⟩ := tok_ex (tx := tx) hL hx (e := q2) c3
  have hj3' : TokJ tx L q2 s3 q3 k3 v3 := hj3
  obtain ⟨d1, d2, d3, d4, d5, d6, -, -⟩ := hj3
  obtain ⟨s4, q4, k4, v4, hj4⟩ := tok_ex (tx := tx) hL hx (e := q3) d3
  have hj4' : TokJ tx L q3 s4 q4 k4 v4 := hj4
  -- the class
  obtain ⟨tA, t0, t3, t4, tt, -⟩ := hT0
  have hTA : ∀ i, i < L → T0.2 i = nI (tx i) := by rw [tA]; exact hA
  obtain ⟨T1, eT1, uA, u0, u3, u4, ut, uv⟩ := rdNum_eq (a := 0) (b := n - 1) hj1' t0 t4 hTA (by omega) (by omega)
  have huA : ∀ i, i < L → T1.2 i = nI (tx i) := by rw [uA]; exact hTA
  obtain ⟨T2, eT2, wA, w0, w3, w4, wt, wv⟩ := rdNum_eq (a := 0) (b := n - 1) hj2' u0 u4 huA (by omega) (by omega)
  have hwA : ∀ i, i < L → T2.2 i = nI (tx i) := by rw [wA]; exact huA
  obtain ⟨T3, eT3, xA, x0, x3, x4, xt, xv⟩ := hj3'.2.2.2.2.2.2.1 T2 w0 w4 hwA
  -- the reference, as far as numbers go
  obtain ⟨M1, eM1, hM1⟩ := takes_t (M := M) hj1' m7 m2 hk.1 hX
  have p7 : M1 7 = -nI 1 := (hM1.2.2.2.2.2.2 7 (by decide) (by decide) (by decide) (by decide)).trans m7
  have p2 : M1 2 = nI L := (hM1.2.2.2.2.2.2 2 (by decide) (by decide) (by decide) (by decide)).trans m2
  have p9 : M1 9 = nI n := (hM1.2.2.2.2.2.2 9 (by decide) (by decide) (by decide) (by decide)).trans m9
  obtain ⟨M2, eM2, hM2⟩ := takes_t (M := M1) hj2' p7 p2 hM1.1 hX
  have r7 : M2 7 = -nI 1 := (hM2.2.2.2.2.2.2 7 (by decide) (by decide) (by decide) (by decide)).trans p7
  have r2 : M2 2 = nI L := (hM2.2.2.2.2.2.2 2 (by decide) (by decide) (by decide) (by decide)).trans p2
  have r9 : M2 9 = nI n := (hM2.2.2.2.2.2.2 9 (by decide) (by decide) (by decide) (by decide)).trans p9
  have ref : ∀ (ke : Int32 → ModS → (Nat → Int32) → (Nat → Int32) → (Nat → Int32) → Option (Int32 × ModS × (Nat → Int32) × (Nat → Int32) × (Nat → Int32) × (Nat → Int32) × (Nat → Int32))) (m : Nat), k_X9_store_25 X S K ke (m + 1) (nI c) M D w ord = (f_X9_readsEntry M1 X D w ord (nI 97)).bind fun r15 => (if r15.1 4 = nI 3 then ((f_X9_takes r15.1 X (nI 1)).bind fun r => k_X9_store_25 X S K ke m (nI (c + 1)) r.2 r15.2.1 r15.2.2.1 r15.2.2.2) else ((f_X9_takes r15.1 X (nI 0)).bind fun r => k_X9_store_25 X S K ke m (nI (c + 1)) r.2 r15.2.1 r15.2.2.1 r15.2.2.2)) := by
    intro ke m
    rw [k_X9_store_25.eq_2, well_t m7]
    simp only [lit, Option.bind_some, nI_add]
    rw [if_neg ne10]
    simp only [hk.2.2.1, hk.2.2.2.2.1 rfl]
    rw [if_neg (show ¬ nI (t9 2) = nI 0 by decide), if_pos (show nI (t9 2) = nI 1 by decide), if_neg (show ¬ nI 97 = nI 110 by decide), eM1, Option.bind_some]
    dsimp only
    rw [well_t p7, Option.bind_some, if_neg ne10, hk.2.2.2.2.1 rfl]
  have cls : f_X7_readEntry T0 Nn (nI (decide (c = 0)).toNat) = if nmB k1 v1 0 (n - 1) = true then (if nmB k2 v2 0 (n - 1) = true then (if tak n o v1 v2 = true then (f_X3_put Nn (nI v1) (nI v2)).bind fun r => (if k3 = 3 then some (nI 1, T3, r.2) else some (nI 0, T3, r.2)) else some (nI 0, T2, Nn)) else some (nI 0, T2, Nn)) else some (nI 0, T1, Nn) := by
    unfold f_X7_readEntry f_X7_readArc
    simp only [lit]
    rw [tt, if_neg (show ¬ nI (t8 2) = nI 110 by decide), if_pos (show nI (t8 2) = nI 97 by decide), hN.1, q_sub (by omega), eT1]
    simp only [Option.bind_some, q_b0]
    cases hb1 : nmB k1 v1 0 (n - 1) with
    | false => simp only [Bool.false_eq_true, if_false, Option.bind_some, if_true]
    | true =>
      obtain ⟨z1, _, z3⟩ := of_decide_eq_true hb1
      simp only [if_true]
      rw [eT2]
      simp only [Option.bind_some, q_b0]
      cases hb2 : nmB k2 v2 0 (n - 1) with
      | false => simp only [Bool.false_eq_true, if_false, Option.bind_some, if_true]
      | true =>
        obtain ⟨y1, _, y3⟩ := of_decide_eq_true hb2
        simp only [if_true]
        rw [uv z1, wv y1, canTake_eq hN h (by omega) (by omega)]
        simp only [Option.bind_some, q_b0]
        cases htk : tak n o v1 v2 with
        | false => simp only [Bool.false_eq_true, if_false, Option.bind_some, if_true]
        | true =>
          simp only [if_true]
          cases hpt : f_X3_put Nn (nI v1) (nI v2) with
          | none => rfl
          | some r =>
            simp only [Option.bind_some]
            rw [if_neg ne10, eT3, Option.bind_some, xt, q_eq_n (t8_lt d5) (by omega)]
            by_cases z : k3 = 3
            · rw [if_pos ((t8_s d5).mpr z), if_pos z]
            · rw [if_neg (fun y => z ((t8_s d5).mp y)), if_neg z]
  have rd1 : f_X9_readsEntry M1 X D w ord (nI 97) = ((f_X9_takes M1 X (nI (nmB k1 v1 0 (n - 1)).toNat)).bind fun r2 => ((f_X9_isWell r2.2).bind fun r3 => (if r3 = nI 0 then ((f_X9_takes r2.2 X (nI 0)).bind fun r4 => ((f_X9_isWell r4.2).bind fun r5 => (if r5 = nI 0 then (some (r4.2, D, w, ord)) else ((f_X9_lays r4.2 w ord D (r4.2 9) r2.1 r4.1).bind fun r6 => (some (r6.1, r6.2.2.2, r6.2.1, r6.2.2.1)))))) else ((f_X9_canBe r2.2 D r2.1).bind fun r7 => (if r7.1 = nI 0 then ((f_X9_takes r7.2 X (nI 0)).bind fun r8 => ((f_X9_isWell r8.2).bind fun r9 => (if r9 = nI 0 then (some (r8.2, D, w, ord)) else ((f_X9_lays r8.2 w ord D (r8.2 9) r2.1 r8.1).bind fun r10 => (some (r10.1, r10.2.2.2, r10.2.1, r10.2.2.1)))))) else ((f_X9_takes r7.2 X (nI 1)).bind fun r11 => ((f_X9_isWell r11.2).bind fun r12 => (if r12 = nI 0 then (some (r11.2, D, w, ord)) else ((f_X9_lays r11.2 w ord D (r11.2 9) r2.1 r11.1).bind fun r13 => (some (r13.1, r13.2.2.2, r13.2.1, r13.2.2.1)))))))))))  := by
    unfold f_X9_readsEntry
    simp only [lit]
    rw [if_neg (show ¬ nI 97 = nI 110 by decide), p9, q_sub (by omega), isNum_eq hM1 b5 b6 (by omega) (by omega), Option.bind_some]
  -- the fault at the second number, out of any state that a look left
  have flt2 : ∀ M3, FrS M2 M3 → M3 7 = -nI 1 → M3 5 = nI s2 → nmB k1 v1 0 (n - 1) = true → f_X9_canBe M2 D (nI v1) = some (nI 0, M3) → f_X7_readEntry T0 Nn (nI (decide (c = 0)).toNat) = some (nI 0, T2, Nn) → Ent tx L e c A X S K T0 Nn M D w ord := by
    intro M3 hf h7 h5 hb1 hcb hcl
    obtain ⟨z1, _, z3⟩ := of_decide_eq_true hb1
    have e6 : M1 6 = nI v1 := hM1.2.2.2.2.2.1 z1
    refine ⟨false, T2, Nn, upd M3 7 (nI s2), D, w, ord, hcl, fun ke m => ?_, wA.trans (uA.trans tA), w0, hM1.fr.tr (hM2.fr.tr (hf.tr fr_u7)), fun _ => ⟨s2, by omega, w3, pk_us⟩, fun z => by cases z⟩
    have er : f_X9_readsEntry M1 X D w ord (nI 97) = some (upd M3 7 (nI s2), D, w, ord) := by
      rw [rd1, hb1, show nI (true).toNat = nI 1 from rfl, eM2, Option.bind_some]
      dsimp only
      rw [well_t r7, Option.bind_some, if_neg ne10, e6, hcb, Option.bind_some]
      dsimp only
      rw [if_pos rfl, takes_f h7, Option.bind_some, h5]
      dsimp only
      rw [well_f (f := s2) (by omega) pk_us, Option.bind_some, if_pos rfl]
    rw [ref, er, Option.bind_some]
    dsimp only
    rw [tail_n (f := s2) (by omega) pk_us]
  cases hb1 : nmB k1 v1 0 (n - 1) with
  | false =>
    refine ⟨false, T1, Nn, upd M1 7 (nI s1), D, w, ord, by rw [cls, hb1]; rfl, fun ke m => ?_, uA.trans tA, u0, hM1.fr.tr fr_u7, fun _ => ⟨s1, by omega, u3, pk_us⟩, fun z => by cases z⟩
    have er : f_X9_readsEntry M1 X D w ord (nI 97) = some (upd M1 7 (nI s1), D, w, ord) := by
      rw [rd1, hb1, show nI (false).toNat = nI 0 from rfl, takes_f p7, Option.bind_some, hM1.2.1]
      dsimp only
      rw [well_f (f := s1) (by omega) pk_us, Option.bind_some, if_pos rfl, takes_n (f := s1) (by omega) pk_us, Option.bind_some]
      dsimp only
      rw [well_f (f := s1) (by omega) pk_us, Option.bind_some, if_pos rfl]
    rw [ref, er, Option.bind_some]
    dsimp only
    rw [tail_n (f := s1) (by omega) pk_us]
  | true =>
    obtain ⟨z1, _, z3⟩ := of_decide_eq_true hb1
    have e6 : M1 6 = nI v1 := hM1.2.2.2.2.2.1 z1
    have lv1 : v1 < n := by omega
    cases hb2 : nmB k2 v2 0 (n - 1) with
    | false =>
      refine flt2 M2 FrS.rf r7 hM2.2.1 hb1 ?_ (by rw [cls, hb1, hb2]; rfl)
      unfold f_X9_canBe
      simp only [lit]
      rw [r9, q_sub (by omega), isNum_eq hM2 c5 c6 (by omega) (by omega), hb2, Option.bind_some]
      rfl
    | true =>
      obtain ⟨y1, _, y3⟩ := of_decide_eq_true hb2
      have f6 : M2 6 = nI v2 := hM2.2.2.2.2.2.1 y1
      have lv2 : v2 < n := by omega
      have lo := h.olt lv1
      have cb : f_X9_canBe M2 D (nI v1) = if v2 = v1 then some (nI 0, M2) else if (o v1).testBit v2 = true then some (nI 0, M2) else (f_X9_looks M2 D (nI n) (nI v1) (nI v2)).bind fun r3 => (if (r3 28) = nI 0 then (some (nI 1, r3)) else (some (nI 0, r3))) := by
        unfold f_X9_canBe
        simp only [lit]
        rw [r9, q_sub (by omega), isNum_eq hM2 c5 c6 (by omega) (by omega), hb2, Option.bind_some, show nI (true).toNat = nI 1 from rfl, if_neg ne10, f6, q_eq_n (by omega) (by omega)]
        simp only [nI_add, Nat.zero_add]
        rw [q_in (by omega) (by omega), q_cl (by omega), (hD v1 lv1).1, h9_eq (by omega) (by omega), Option.bind_some, q_b0]
      by_cases g1 : v2 = v1
      · refine flt2 M2 FrS.rf r7 hM2.2.1 hb1 (by rw [cb, if_pos g1]) ?_
        have : tak n o v1 v2 = false := by unfold tak; rw [decide_eq_false (fun y => y g1.symm)]; rfl
        rw [cls, hb1, hb2, this]; rfl
      · rw [if_neg g1] at cb
        cases g2 : (o v1).testBit v2 with
        | true =>
          refine flt2 M2 FrS.rf r7 hM2.2.1 hb1 (by rw [cb, if_pos g2]) ?_
          have : tak n o v1 v2 = false := by unfold tak; rw [g2]; simp
          rw [cls, hb1, hb2, this]; rfl
        | false =>
          rw [g2, if_neg (by decide)] at cb
          have g1' : v1 ≠ v2 := fun z => g1 z.symm
          obtain ⟨M3, eM3, hM3⟩ := looks_eq h hD lv1 lv2 g1' M2
          have htk : tak n o v1 v2 = !clo n o v1 v2 := by unfold tak; rw [g2, decide_eq_true g1']; simp
          have l7 : M3 7 = -nI 1 := (hM3.2.2.2 7 (by decide) (by decide) (by decide)).trans r7
          have l5 : M3 5 = nI s2 := (hM3.2.2.2 5 (by decide) (by decide) (by decide)).trans hM2.2.1
          have l2 : M3 2 = nI L := (hM3.2.2.2 2 (by decide) (by decide) (by decide)).trans r2
          have l3 : M3 3 = nI q2 := (hM3.2.2.2 3 (by decide) (by decide) (by decide)).trans hM2.1
          have l6 : M3 6 = nI v2 := (hM3.2.2.2 6 (by decide) (by decide) (by decide)).trans f6
          have l9 : M3 9 = nI n := (hM3.2.2.2 9 (by decide) (by decide) (by decide)).trans r9
          rw [eM3, Option.bind_some] at cb
          simp only [hM3.2.2.1, q_b0] at cb
          cases hcl : clo n o v1 v2 with
          | true =>
            rw [hcl, if_pos rfl] at cb
            refine flt2 M3 hM3.fr l7 l5 hb1 cb ?_
            rw [cls, hb1, hb2, htk, hcl]; rfl
          | false =>
            rw [hcl, if_neg (by decide)] at cb
            obtain ⟨M4, eM4, hM4⟩ := takes_t (M := M3) hj3' l7 l2 l3 hX
            have n7 : M4 7 = -nI 1 := (hM4.2.2.2.2.2.2 7 (by decide) (by decide) (by decide) (by decide)).trans l7
            have n2 : M4 2 = nI L := (hM4.2.2.2.2.2.2 2 (by decide) (by decide) (by decide) (by decide)).trans l2
            have n9 : M4 9 = nI n := (hM4.2.2.2.2.2.2 9 (by decide) (by decide) (by decide) (by decide)).trans l9
            obtain ⟨M5, w5, ord5, D5, eM5, hM5, hD5⟩ := lays_eq h hD lv1 lv2 g1' hcl M4 w ord
            have o7 : M5 7 = -nI 1 := (hM5.2.2.2 7 (by decide) (by decide) (by decide)).trans n7
            have o2 : M5 2 = nI L := (hM5.2.2.2 2 (by decide) (by decide) (by decide)).trans n2
            have o9 : M5 9 = nI n := (hM5.2.2.2 9 (by decide) (by decide) (by decide)).trans n9
            have o3 : M5 3 = nI q3 := (hM5.2.2.2 3 (by decide) (by decide) (by decide)).trans hM4.1
            have o4 : M5 4 = nI (t9 k3) := (hM5.2.2.2 4 (by decide) (by decide) (by decide)).trans hM4.2.2.1
            have o5 : M5 5 = nI s3 := (hM5.2.2.2 5 (by decide) (by decide) (by decide)).trans hM4.2.1
            have er : f_X9_readsEntry M1 X D w ord (nI 97) = some (M5, D5, w5, ord5) := by
              rw [rd1, hb1, show nI (true).toNat = nI 1 from rfl, eM2, Option.bind_some]
              dsimp only
              rw [well_t r7, Option.bind_some, if_neg ne10, e6, cb, Option.bind_some]
              dsimp only
              rw [if_neg ne10, eM4, Option.bind_some]
              dsimp only
              rw [well_t n7, Option.bind_some, if_neg ne10, n9, l6, eM5, Option.bind_some]
            obtain ⟨N2, eN2, hN2⟩ := put_eq hN h lv1 lv2 g1' g2 hcl
            have frm : FrS M M5 := hM1.fr.tr (hM2.fr.tr (hM3.fr.tr (hM4.fr.tr hM5.fr)))
            by_cases c0 : k3 = 3
            · obtain ⟨M6, eM6, hM6⟩ := takes_t (M := M5) hj4' o7 o2 o3 hX
              refine ⟨true, T3, N2, M6, D5, w5, ord5, ?_, fun ke m => ?_, xA.trans (wA.trans (uA.trans tA)), x0, frm.tr hM6.fr, (fun z => absurd z (by decide)), fun _ => ?_⟩
              · rw [cls, hb1, hb2, htk, hcl, if_pos rfl, if_pos rfl, if_pos (show (!false) = true from rfl), eN2, Option.bind_some, if_pos c0]; rfl
              · rw [ref, er, Option.bind_some]
                dsimp only
                exact tail_t (by rw [o4, c0]; rfl) eM6
              · refine ⟨n, _, _, _, q3, s4, q4, k4, v4, by omega, hj4', x4, ⟨?_, ?_, hM6.self⟩, put_good h lv1 lv2 g1' hcl, hN2, ?_, hD5⟩
                · rw [hM6.2.2.2.2.2.2 2 (by decide) (by decide) (by decide) (by decide)]; exact o2
                · rw [hM6.2.2.2.2.2.2 7 (by decide) (by decide) (by decide) (by decide)]; exact o7
                · rw [hM6.2.2.2.2.2.2 9 (by decide) (by decide) (by decide) (by decide)]; exact o9
            · refine ⟨false, T3, N2, upd M5 7 (nI s3), D5, w5, ord5, ?_, fun ke m => ?_, xA.trans (wA.trans (uA.trans tA)), x0, frm.tr fr_u7, fun _ => ⟨s3, by omega, x3, pk_us⟩, fun z => by cases z⟩
              · rw [cls, hb1, hb2, htk, hcl, if_pos rfl, if_pos rfl, if_pos (show (!false) = true from rfl), eN2, Option.bind_some, if_neg c0]; rfl
              · rw [ref, er, Option.bind_some]
                dsimp only
                rw [tail_f (kd := k3) d5 o4 c0 o7, o5]
end EN2
