/-! ===== the list of arcs; adds ===== -/
def LstR (L : LstS) (lf lt : Nat → Int32) (m20 : Int32) (n : Nat) : Prop := ∃ (k : Nat) (a b : Nat → Nat), k ≤ 8 ∧ L.1 = nI k ∧ m20 = nI k ∧ (∀ i, i < k → a i < n ∧ b i < n ∧ a i ≠ b i ∧ L.2.1 i = nI (a i) ∧ lf i = nI (a i) ∧ L.2.2 i = nI (b i) ∧ lt i = nI (b i)) ∧ ∀ i j, i < k → j < k → a i = a j → b i = b j → i = j
def LapR (R : LapS) (rg : Nat → Int32) (m22 : Int32) : Prop := ∃ k, k ≤ 12 ∧ R.1 = nI k ∧ m22 = nI k ∧ ∀ i, i < k → R.2.1 i = rg i
section LST
variable {n : Nat} {o pl od : Nat → Nat} {N : NetS} {M : ModS} {S : Nat → Int32}
theorem anyB_s (f : Nat → Bool) (i : Nat) : anyB f (i + 1) = (anyB f i || f i) := rfl
theorem anyB_m {f : Nat → Bool} {i k : Nat} (hi : i < k) (hf : f i = true) : anyB f k = true := anyB_t.mpr ⟨i, hi, hf⟩
theorem holds_eq {L : LstS} {k u v : Nat} {a b : Nat → Nat} (hn : n ≤ 12) (hk : k ≤ 8) (l1 : L.1 = nI k) (hl : ∀ i, i < k → a i < n ∧ b i < n ∧ L.2.1 i = nI (a i) ∧ L.2.2 i = nI (b i)) (hu : u < n) (hv : v < n) : f_X0_holds L (nI u) (nI v) = some (nI (anyB (fun i => decide (a i = u) && decide (b i = v)) k).toNat) := by
  unfold f_X0_holds
  simp only [lit]
  refine loop_up (fun m i (_ : Unit) => k_X0_holds_2 (nI u) (nI v) L (some (nI 0)) m (nI i)) (fun i _ => anyB (fun i => decide (a i = u) && decide (b i = v)) i = false) (fun z => z = some (nI (anyB (fun i => decide (a i = u) && decide (b i = v)) k).toNat)) k ?_ ?_ k 0 fu () (by omega) (by rw [fu_eq]; omega) rfl
  · intro m _ hI
    rw [k_X0_holds_2.eq_2, l1, q_le_t (by omega) (by omega), hI]; rfl
  · intro m i _ hi hI
    obtain ⟨h1, h2, h3, h4⟩ := hl i hi
    rw [k_X0_holds_2.eq_2, l1, q_le_f (by omega) (by omega)]
    simp only [q_in (show i < 8 by omega) (show 8 < 2147483648 by omega), q_cl (show i < 2147483648 by omega)]
    rw [h3, h4, q_eq_n (by omega) (by omega), q_eq_n (by omega) (by omega), anyB_s, hI, Bool.false_or]
    simp only [lit, nI_add]
    by_cases c1 : a i = u
    · by_cases c2 : b i = v
      · right
        rw [if_pos c1, if_pos c2, anyB_m hi (by rw [decide_eq_true c1, decide_eq_true c2]; rfl)]; rfl
      · left
        rw [if_pos c1, if_neg c2]
        exact ⟨(), by rw [decide_eq_false c2, Bool.and_false], rfl⟩
    · left
      rw [if_neg c1]
      exact ⟨(), by rw [decide_eq_false c1, Bool.false_and], rfl⟩
theorem isAny_eq (hN : NetR N n o pl od) (h : Good n o pl od) {L : LstS} {k : Nat} {a b : Nat → Nat} (hk : k ≤ 8) (l1 : L.1 = nI k) (hl : ∀ i, i < k → a i < n ∧ b i < n ∧ L.2.1 i = nI (a i) ∧ L.2.2 i = nI (b i)) : f_X0_isAnyIn L N = some (nI (anyB (fun i => (o (a i)).testBit (b i)) k).toNat) := by
  unfold f_X0_isAnyIn
  simp only [lit]
  refine loop_up (fun m i (_ : Unit) => k_X0_isAnyIn_2 L N (some (nI 0)) m (nI i)) (fun i _ => anyB (fun i => (o (a i)).testBit (b i)) i = false) (fun z => z = some (nI (anyB (fun i => (o (a i)).testBit (b i)) k).toNat)) k ?_ ?_ k 0 fu () (by omega) (by rw [fu_eq]; omega) rfl
  · intro m _ hI
    rw [k_X0_isAnyIn_2.eq_2, l1, q_le_t (by omega) (by omega), hI]; rfl
  · intro m i _ hi hI
    obtain ⟨h1, h2, h3, h4⟩ := hl i hi
    rw [k_X0_isAnyIn_2.eq_2, l1, q_le_f (by omega) (by omega)]
    simp only [q_in (show i < 8 by omega) (show 8 < 2147483648 by omega), q_cl (show i < 2147483648 by omega)]
    rw [h3, h4, has_eq hN h h1 h2, Option.bind_some, anyB_s, hI, Bool.false_or]
    simp only [lit, nI_add]
    rw [q_b0]
    cases hb : (o (a i)).testBit (b i) with
    | true =>
      right
      rw [if_pos rfl, anyB_m (f := fun i => (o (a i)).testBit (b i)) hi hb]; rfl
    | false =>
      left
      rw [if_neg (by decide)]
      exact ⟨(), rfl, rfl⟩
theorem lists_eq (hN : NetR N n o pl od) (h : Good n o pl od) (hS : RefR S n o pl) (m8 : M 8 = nI n) {L : LstS} {lf lt : Nat → Int32} (hL : LstR L lf lt (M 20) n) (x y : Int32) : ∃ r L' M' lf' lt', f_X8_lists N L x y = some (r, L') ∧ f_X9_lists M S lf lt x y = some (r, M', lf', lt') ∧ LstR L' lf' lt' (M' 20) n ∧ ∀ k, k ≠ 0 → k ≠ 20 → M' k = M k := by
  have hn := h.1.2
  have m8' : (upd M 0 (nI 0)) 8 = nI n := by rw [u0_8]; exact m8
  have hL0 := hL
  obtain ⟨k, a, b, hk, l1, m20, hl, hinj⟩ := hL
  unfold f_X8_lists f_X9_lists
  simp only [lit]
  rw [isPair_eq hN.1, isTwo_eq m8' h.1.1 hn]
  simp only [Option.bind_some, q_b0]
  cases hp : isP n x y with
  | false => exact ⟨_, _, _, _, _, rfl, rfl, by rw [pk_un (by decide)]; exact hL0, fun k h0 _ => pk_un h0⟩
  | true =>
    obtain ⟨u, v, hu, hv, hne, rfl, rfl⟩ := isP_t hp hn
    have lo := h.olt hu
    simp only [if_true]
    rw [has_eq hN h hu hv, nI_add, Nat.zero_add, q_in (by omega) (by omega), q_cl (by omega), (hS u hu).1, h9_eq (by omega) (by omega)]
    simp only [Option.bind_some, q_b0]
    have loop9 : ∀ (b0 : Bool) (ke : Int32 → Option (Int32 × ModS × (Nat → Int32) × (Nat → Int32))), k_X9_lists_32 (nI u) (nI v) (upd M 0 (nI 0)) S lf lt ke fu (nI b0.toNat) (nI 0) = ke (nI (b0 || anyB (fun i => decide (a i = u) && decide (b i = v)) k).toNat) := by
      intro b0 ke
      have m20' : (upd M 0 (nI 0)) 20 = nI k := by rw [pk_un (by decide)]; exact m20
      have := loop_v (fun m i => k_X9_lists_32 (nI u) (nI v) (upd M 0 (nI 0)) S lf lt ke m (nI (b0 || anyB (fun i => decide (a i = u) && decide (b i = v)) i).toNat) (nI i)) (ke (nI (b0 || anyB (fun i => decide (a i = u) && decide (b i = v)) k).toNat)) k (by omega) (by
        intro m
        rw [k_X9_lists_32.eq_2, m20', q_le_t (by omega) (by omega)]) (by
        intro m i hi
        obtain ⟨h1, h2, _, _, h3, _, h4⟩ := hl i hi
        rw [k_X9_lists_32.eq_2, m20', q_le_f (by omega) (by omega)]
        simp only [lit, nI_add, q_in (show i < 8 by omega) (show 8 < 2147483648 by omega), q_cl (show i < 2147483648 by omega)]
        rw [q_b0, h3, h4, q_eq_n (by omega) (by omega), q_eq_n (by omega) (by omega), anyB_s, ← Bool.or_assoc]
        cases (b0 || anyB (fun i => decide (a i = u) && decide (b i = v)) i) with
        | true => rfl
        | false =>
          rw [if_neg (by decide), Bool.false_or]
          by_cases c1 : a i = u
          · rw [if_pos c1]
            by_cases c2 : b i = v
            · rw [if_pos c2, decide_eq_true c1, decide_eq_true c2]; rfl
            · rw [if_neg c2, decide_eq_false c2, Bool.and_false]; rfl
          · rw [if_neg c1, decide_eq_false c1, Bool.false_and]; rfl)
      have e0 : (b0 || anyB (fun i => decide (a i = u) && decide (b i = v)) 0) = b0 := by cases b0 <;> rfl
      try dsimp only at this
      rw [e0] at this
      exact this
    rw [loop9]
    try dsimp only
    rw [q_b0]
    cases hb : (o u).testBit v with
    | true =>
      simp only [Bool.true_or, if_true]
      exact ⟨_, _, _, _, _, rfl, rfl, by rw [pk_un (by decide)]; exact hL0, fun k h0 _ => pk_un h0⟩
    | false =>
      simp only [Bool.false_or, Bool.false_eq_true, if_false]
      rw [holds_eq hn hk l1 (fun i hi => ⟨(hl i hi).1, (hl i hi).2.1, (hl i hi).2.2.2.1, (hl i hi).2.2.2.2.2.1⟩) hu hv, Option.bind_some, q_b0]
      cases ha : anyB (fun i => decide (a i = u) && decide (b i = v)) k with
      | true =>
        simp only [if_true]
        exact ⟨_, _, _, _, _, rfl, rfl, by rw [pk_un (by decide)]; exact hL0, fun k h0 _ => pk_un h0⟩
      | false =>
        simp only [Bool.false_eq_true, if_false]
        unfold f_X0_append
        simp only [lit]
        rw [l1, m20, q_lt_n (by omega) (by omega), q_eq_n (by omega) (by omega)]
        by_cases c : k < 8
        · rw [if_pos c, if_neg (by omega)]
          simp only [q_in (show k < 8 by omega) (show 8 < 2147483648 by omega), q_cl (show k < 2147483648 by omega), Option.bind_some, nI_add]
          rw [if_neg ne10]
          refine ⟨_, _, _, _, _, rfl, rfl, ⟨k + 1, (fun i => if i = k then u else a i), (fun i => if i = k then v else b i), by omega, rfl, pk_us, fun i hi => ?_, fun i j hi hj e1 e2 => ?_⟩, fun j h0 h20 => by rw [pk_un h20, pk_un h0]⟩
          · show (if i = k then u else a i) < n ∧ (if i = k then v else b i) < n ∧ (if i = k then u else a i) ≠ (if i = k then v else b i) ∧ upd L.2.1 k (nI u) i = nI (if i = k then u else a i) ∧ upd lf k (nI u) i = nI (if i = k then u else a i) ∧ upd L.2.2 k (nI v) i = nI (if i = k then v else b i) ∧ upd lt k (nI v) i = nI (if i = k then v else b i)
            by_cases q : i = k
            · subst q
              simp only [if_true, pk_us]
              exact ⟨hu, hv, hne, trivial, trivial, trivial, trivial⟩
            · simp only [if_neg q]
              rw [pk_un q, pk_un q, pk_un q, pk_un q]
              exact hl i (by omega)
          · have key : ∀ i, i < k → ¬ (a i = u ∧ b i = v) := fun i hi z => by
              have := anyB_m (f := fun i => decide (a i = u) && decide (b i = v)) hi (by rw [decide_eq_true z.1, decide_eq_true z.2]; rfl)
              rw [this] at ha; cases ha
            by_cases q : i = k
            · by_cases q2 : j = k
              · omega
              · simp only [if_pos q, if_neg q2] at e1 e2
                exact absurd ⟨e1.symm, e2.symm⟩ (key j (by omega))
            · by_cases q2 : j = k
              · simp only [if_neg q, if_pos q2] at e1 e2
                exact absurd ⟨e1, e2⟩ (key i (by omega))
              · simp only [if_neg q, if_neg q2] at e1 e2
                exact hinj i j (by omega) (by omega) e1 e2
        · rw [if_neg c, if_pos (by omega)]
          simp only [Option.bind_some, if_true]
          exact ⟨_, _, _, _, _, rfl, rfl, by rw [pk_un (by decide)]; exact hL0, fun k h0 _ => pk_un h0⟩
/-- both put the arcs of the list, or both meet the same ring -/
theorem puts_eq {L : LstS} {lf lt U : Nat → Int32} {k : Nat} {a b : Nat → Nat} (hk : k ≤ 8) (l1 : L.1 = nI k) (hl : ∀ i, i < k → a i < n ∧ b i < n ∧ a i ≠ b i ∧ L.2.1 i = nI (a i) ∧ lf i = nI (a i) ∧ L.2.2 i = nI (b i) ∧ lt i = nI (b i)) (hinj : ∀ i j, i < k → j < k → a i = a j → b i = b j → i = j) (ke9 : ModS → (Nat → Int32) → (Nat → Int32) → (Nat → Int32) → (Nat → Int32) → (Nat → Int32) → Option (Int32 × ModS × (Nat → Int32) × (Nat → Int32) × (Nat → Int32) × (Nat → Int32) × (Nat → Int32) × (Nat → Int32) × (Nat → Int32))) (M0 : ModS) (m8 : M0 8 = nI n) (m20 : M0 20 = nI k) : ∀ (d i m8f m9f : Nat) (o pl od : Nat → Nat) (N : NetS) (R : LapS) (M : ModS) (w was rg far ord : Nat → Int32), i + d = k → d < m8f → d < m9f → Good n o pl od → NetR N n o pl od → RefR was n o pl → Lk0 M0 M → (∀ j, i ≤ j → j < k → (o (a j)).testBit (b j) = false) →
    (∃ o' pl' od' N' M' w' was' ord', k_X8_putListed_2 L (fun Nn_4 Rr_4 => (some (nI 1, Nn_4, Rr_4))) m8f (nI i) N R = some (nI 1, N', R) ∧ k_X9_adds_89 S U lf lt ke9 m9f (nI i) M w was rg far ord = ke9 M' w' was' rg far ord' ∧ Good n o' pl' od' ∧ NetR N' n o' pl' od' ∧ RefR was' n o' pl' ∧ Lk0 M0 M') ∨
    (∃ N' R' M' w' was' rg' far' ord', k_X8_putListed_2 L (fun Nn_4 Rr_4 => (some (nI 1, Nn_4, Rr_4))) m8f (nI i) N R = some (nI 0, N', R') ∧ k_X9_adds_89 S U lf lt ke9 m9f (nI i) M w was rg far ord = some (-nI 4, upd M' 20 (nI 0), S, w', was', U, rg', far', ord') ∧ LapR R' rg' (M' 22) ∧ ∀ j, j ≠ 26 → j ≠ 27 → j ≠ 28 → j ≠ 22 → M' j = M0 j)
  | 0, i, m8f, m9f, o, pl, od, N, R, M, w, was, rg, far, ord, hi, h8, h9, h, hN, hS, hM, hfr => by
    have hn := h.1.2
    obtain ⟨m8f, rfl⟩ : ∃ z, m8f = z + 1 := ⟨m8f - 1, by omega⟩
    obtain ⟨m9f, rfl⟩ : ∃ z, m9f = z + 1 := ⟨m9f - 1, by omega⟩
    left
    refine ⟨o, pl, od, N, M, w, was, ord, ?_, ?_, h, hN, hS, hM⟩
    · rw [k_X8_putListed_2.eq_2, l1, q_le_t (by omega) (by omega)]
    · rw [k_X9_adds_89.eq_2, hM 20 (by decide) (by decide) (by decide), m20, q_le_t (by omega) (by omega)]
  | d + 1, i, m8f, m9f, o, pl, od, N, R, M, w, was, rg, far, ord, hi, h8, h9, h, hN, hS, hM, hfr => by
    have hn := h.1.2
    obtain ⟨m8f, rfl⟩ : ∃ z, m8f = z + 1 := ⟨m8f - 1, by omega⟩
    obtain ⟨m9f, rfl⟩ : ∃ z, m9f = z + 1 := ⟨m9f - 1, by omega⟩
    obtain ⟨g1, g2, g3, g4, g5, g6, g7⟩ := hl i (by omega)
    have e8 : M 8 = nI n := (hM 8 (by decide) (by decide) (by decide)).trans m8
    have hb := hfr i (Nat.le_refl i) (by omega)
    obtain ⟨M1, eM1, hM1⟩ := looks_eq h hS g1 g2 g3 M
    have f8 : M1 8 = nI n := (hM1.2.2.2 8 (by decide) (by decide) (by decide)).trans e8
    have s8 : k_X8_putListed_2 L (fun Nn_4 Rr_4 => (some (nI 1, Nn_4, Rr_4))) (m8f + 1) (nI i) N R = if clo n o (a i) (b i) = true then (f_X2_trace R N (nI (a i)) (nI (b i))).bind fun r3 => some (nI 0, N, r3) else (f_X3_put N (nI (a i)) (nI (b i))).bind fun r2 => k_X8_putListed_2 L (fun Nn_4 Rr_4 => (some (nI 1, Nn_4, Rr_4))) m8f (nI (i + 1)) r2.2 R := by
      rw [k_X8_putListed_2.eq_2, l1, q_le_f (by omega) (by omega)]
      simp only [lit, nI_add, q_in (show i < 8 by omega) (show 8 < 2147483648 by omega), q_cl (show i < 2147483648 by omega)]
      rw [g4, g6, closes_eq hN h g1 g2 g3, Option.bind_some, q_b0]
    have s9 : k_X9_adds_89 S U lf lt ke9 (m9f + 1) (nI i) M w was rg far ord = if clo n o (a i) (b i) = true then (f_X9_rings M1 rg far was (nI (b i)) (nI (a i))).bind fun r6 => some (-nI 4, upd r6.1 20 (nI 0), S, w, was, U, r6.2.1, r6.2.2, ord) else (f_X9_lays M1 w ord was (nI n) (nI (a i)) (nI (b i))).bind fun r5 => k_X9_adds_89 S U lf lt ke9 m9f (nI (i + 1)) r5.1 r5.2.1 r5.2.2.2 rg far r5.2.2.1 := by
      rw [k_X9_adds_89.eq_2, hM 20 (by decide) (by decide) (by decide), m20, q_le_f (by omega) (by omega)]
      simp only [lit, nI_add, q_in (show i < 8 by omega) (show 8 < 2147483648 by omega), q_cl (show i < 2147483648 by omega)]
      rw [g5, g7, e8, eM1, Option.bind_some]
      simp only [hM1.2.2.1, f8, q_b0]
    rw [s8, s9]
    cases hc : clo n o (a i) (b i) with
    | true =>
      right
      have hdu := clo_du h g2 hc
      obtain ⟨R', eR, r1, r2⟩ := trace_eq hN h g1 g2 hdu R
      obtain ⟨rg', far', e9, r3⟩ := rings_eq h hS f8 g1 g2 hdu rg far
      rw [if_pos rfl, if_pos rfl, eR, e9, Option.bind_some, Option.bind_some]
      refine ⟨N, R', upd M1 22 (nI (du n o (a i) (b i) + 1)), w, was, rg', far', ord, rfl, rfl, ⟨du n o (a i) (b i) + 1, by omega, r1, pk_us, fun j hj => by rw [r2 j (by omega), r3 j (by omega)]⟩, fun j j1 j2 j3 j4 => ?_⟩
      rw [pk_un j4, hM1.2.2.2 j j1 j2 j3]; exact hM j j1 j2 j3
    | false =>
      obtain ⟨N2, eN2, hN2⟩ := put_eq hN h g1 g2 g3 hb hc
      obtain ⟨M2, w2, ord2, was2, e9, hM2, hS2⟩ := lays_eq h hS g1 g2 g3 hc M1 w ord
      rw [if_neg (by decide), if_neg (by decide), eN2, e9, Option.bind_some, Option.bind_some]
      refine puts_eq hk l1 hl hinj ke9 M0 m8 m20 d (i + 1) m8f m9f _ _ _ N2 R M2 w2 was2 rg far ord2 (by omega) (by omega) (by omega) (put_good h g1 g2 g3 hc) hN2 hS2 ((hM.tr hM1.2.2.2).tr hM2.2.2.2) (fun j hj1 hj2 => ?_)
      have hj := hfr j (by omega) hj2
      unfold addA
      by_cases q : a j = a i
      · rw [if_pos q, Nat.testBit_or, ← q, hj, Bool.false_or]
        exact Nat.testBit_two_pow_of_ne (fun e => by have := hinj i j (by omega) hj2 q.symm e; omega)
      · rw [if_neg q]; exact hj
end LST
