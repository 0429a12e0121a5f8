/-! ===== now: free arcs, the arc that moves most, spare arcs ===== -/
def anyB (f : Nat → Bool) : Nat → Bool
  | 0 => false
  | i + 1 => anyB f i || f i
theorem anyB_t {f : Nat → Bool} : ∀ {n}, anyB f n = true ↔ ∃ i, i < n ∧ f i = true
  | 0 => by
    constructor
    · intro h; cases h
    · intro ⟨i, hi, _⟩; omega
  | n + 1 => by
    show (anyB f n || f n) = true ↔ _
    rw [Bool.or_eq_true, anyB_t (n := n)]
    constructor
    · intro q
      rcases q with ⟨i, hi, h⟩ | h
      · exact ⟨i, by omega, h⟩
      · exact ⟨n, by omega, h⟩
    · intro ⟨i, hi, h⟩
      rcases (show i < n ∨ i = n by omega) with c | c
      · exact Or.inl ⟨i, c, h⟩
      · subst c; exact Or.inr h
theorem bool_iff {a b : Bool} (h : a = true ↔ b = true) : a = b := by cases a <;> cases b <;> simp_all
section NOW
variable {n : Nat} {o pl od : Nat → Nat} {N : NetS} {M : ModS} {S : Nat → Int32}
noncomputable def freeB (n : Nat) (o pl : Nat → Nat) (u v : Nat) : Bool := tak n o u v && decide (mvd n o pl u v = 0)
theorem freeB_eq (h : Good n o pl od) {u v : Nat} (hu : u < n) (hv : v < n) : freeB n o pl u v = (decide (pl u < pl v) && !(o u).testBit v) := by
  unfold freeB tak
  by_cases c : pl u < pl v
  · have hne : ¬ u = v := fun e => by rw [e] at c; omega
    have hc : clo n o u v = false := by
      cases hc : clo n o u v with
      | false => rfl
      | true => have := clo_pl h (Ne.symm hne) hc; omega
    have hm : mvd n o pl u v = 0 := by unfold mvd befM aftM; rw [hc, if_neg (by decide), if_pos c, if_pos c]; rfl
    rw [decide_eq_true hne, hc, hm, decide_eq_true c]
    cases (o u).testBit v <;> rfl
  · rw [decide_eq_false c, Bool.false_and]
    cases hc : clo n o u v with
    | true => simp
    | false =>
      by_cases hne : u = v
      · rw [decide_eq_false (fun q => q hne)]; rfl
      · have hm : mvd n o pl u v ≠ 0 := by
          intro e
          have : (mvd n o pl u v).testBit u = true := by
            unfold mvd befM
            rw [hc, if_neg (by decide), if_neg c]
            refine or_bit.mpr (Or.inl (bw_bit.mpr ⟨hu, Rch.rf, by omega⟩))
          rw [e, Nat.zero_testBit] at this; cases this
        rw [decide_eq_false hm, Bool.and_false]
theorem free8_eq (hN : NetR N n o pl od) (h : Good n o pl od) : f_X8_freeArcs N = some (nI (sumN (fun u => cnt (freeB n o pl u) n) n)) := by
  have hn := h.1.2
  have inner : ∀ (u c : Nat) (ke : Int32 → Option Int32), u < n → k_X8_freeArcs_17 (nI u) N ke fu (nI c) (nI 0) = ke (nI (c + cnt (freeB n o pl u) n)) := by
    intro u c ke hu
    refine loop_v (fun m i => k_X8_freeArcs_17 (nI u) N ke m (nI (c + cnt (freeB n o pl u) i)) (nI i)) _ n (by omega) ?_ ?_
    · intro m
      rw [k_X8_freeArcs_17.eq_2, hN.1, q_le_t (by omega) (by omega)]
    · intro m i hi
      rw [k_X8_freeArcs_17.eq_2, hN.1, q_le_f (by omega) (by omega), canTake_eq hN h hu hi]
      simp only [lit, Option.bind_some, q_b0, nI_add]
      rw [cnt_s]
      show _ = k_X8_freeArcs_17 _ _ _ m (nI (c + (cnt (freeB n o pl u) i + (tak n o u i && decide (mvd n o pl u i = 0)).toNat))) _
      cases ht : tak n o u i with
      | false => rfl
      | true =>
        have hne : u ≠ i := by
          intro e
          unfold tak at ht
          rw [decide_eq_false (fun q => q e)] at ht; cases ht
        have hl := lt_4096 (mvd_lt (n := n) (o := o) (pl := pl) u i) hn
        rw [if_pos rfl, movedBy_eq hN h hu hi hne, Option.bind_some, q_eq_n (by omega) (by omega)]
        by_cases c1 : mvd n o pl u i = 0
        · rw [if_pos c1, decide_eq_true c1]; rfl
        · rw [if_neg c1, decide_eq_false c1]; rfl
  unfold f_X8_freeArcs
  simp only [lit]
  refine loop_v (fun m i => k_X8_freeArcs_4 N (fun x => some x) m (nI (sumN (fun u => cnt (freeB n o pl u) n) i)) (nI i)) _ n (by omega) ?_ ?_
  · intro m
    rw [k_X8_freeArcs_4.eq_2, hN.1, q_le_t (by omega) (by omega)]
  · intro m i hi
    rw [k_X8_freeArcs_4.eq_2, hN.1, q_le_f (by omega) (by omega)]
    simp only [lit, nI_add]
    rw [inner _ _ _ hi]
    rfl
theorem free9_eq (h : Good n o pl od) (hS : RefR S n o pl) (m8 : M 8 = nI n) : f_X9_free M S = some (nI (sumN (fun u => cnt (freeB n o pl u) n) n)) := by
  have hn := h.1.2
  have inner : ∀ (u c : Nat) (ke : Int32 → Option Int32), u < n → k_X9_free_14 (nI u) M S ke fu (nI c) (nI 0) = ke (nI (c + cnt (freeB n o pl u) n)) := by
    intro u c ke hu
    refine loop_v (fun m i => k_X9_free_14 (nI u) M S ke m (nI (c + cnt (freeB n o pl u) i)) (nI i)) _ n (by omega) ?_ ?_
    · intro m
      rw [k_X9_free_14.eq_2, m8, q_le_t (by omega) (by omega)]
    · intro m i hi
      have hl := h.olt hu
      have h1 := (h.2.2.1 u hu).1
      have h2 := (h.2.2.1 i hi).1
      rw [k_X9_free_14.eq_2, m8, q_le_f (by omega) (by omega)]
      simp only [lit, nI_add, Nat.zero_add]
      simp only [q_in (show 12 + u < 24 by omega) (show 24 < 2147483648 by omega), q_in (show u < 24 by omega) (show 24 < 2147483648 by omega), q_in (show 12 + i < 24 by omega) (show 24 < 2147483648 by omega), q_cl (show 12 + u < 2147483648 by omega), q_cl (show 12 + i < 2147483648 by omega), q_cl (show u < 2147483648 by omega), (hS u hu).1, (hS u hu).2, (hS i hi).2]
      rw [q_le_n (by omega) (by omega), h9_eq (by omega) (by omega)]
      simp only [Option.bind_some, q_b0]
      rw [cnt_s, freeB_eq h hu hi]
      by_cases c1 : pl u < pl i
      · rw [if_neg (by omega), decide_eq_true c1]
        cases (o u).testBit i <;> rfl
      · rw [if_pos (by omega), decide_eq_false c1]; rfl
  unfold f_X9_free
  simp only [lit]
  refine loop_v (fun m i => k_X9_free_4 M S (fun x => some x) m (nI (sumN (fun u => cnt (freeB n o pl u) n) i)) (nI i)) _ n (by omega) ?_ ?_
  · intro m
    rw [k_X9_free_4.eq_2, m8, q_le_t (by omega) (by omega)]
  · intro m i hi
    rw [k_X9_free_4.eq_2, m8, q_le_f (by omega) (by omega)]
    simp only [lit, nI_add]
    rw [inner _ _ _ hi]
    rfl
/-! the arc that moves most -/
noncomputable def msI (n : Nat) (o pl : Nat → Nat) (u : Nat) (s : Int32 × Int32) : Nat → Int32 × Int32
  | 0 => s
  | i + 1 => if tak n o u i then (if nI (pc (mvd n o pl u i)) ≤ (msI n o pl u s i).2 then msI n o pl u s i else (nI (16 * u + i), nI (pc (mvd n o pl u i)))) else msI n o pl u s i
theorem msI_s (n : Nat) (o pl : Nat → Nat) (u : Nat) (s : Int32 × Int32) (i : Nat) : msI n o pl u s (i + 1) = if tak n o u i then (if nI (pc (mvd n o pl u i)) ≤ (msI n o pl u s i).2 then msI n o pl u s i else (nI (16 * u + i), nI (pc (mvd n o pl u i)))) else msI n o pl u s i := rfl
noncomputable def msO (n : Nat) (o pl : Nat → Nat) : Nat → Int32 × Int32
  | 0 => (-nI 9, -nI 1)
  | u + 1 => msI n o pl u (msO n o pl u) n
theorem q_mul (a b : Nat) : nI a * nI b = nI (a * b) := by
  apply Int32.toBitVec_inj.1
  show BitVec.ofNat 32 a * BitVec.ofNat 32 b = BitVec.ofNat 32 (a * b)
  rw [BitVec.ofNat_mul]
theorem code_eq (u v : Nat) : f_X8_codeOf (nI u) (nI v) = some (nI (16 * u + v)) := by
  unfold f_X8_codeOf
  simp only [lit]
  rw [q_mul, nI_add]
theorem tak_ne {u v : Nat} (h : tak n o u v = true) : u ≠ v := fun e => by
  unfold tak at h
  rw [decide_eq_false (fun q => q e)] at h; cases h
theorem most8_eq (hN : NetR N n o pl od) (h : Good n o pl od) : f_X8_arcMovingMost N = some (msO n o pl n).1 := by
  have hn := h.1.2
  have inner : ∀ (u : Nat) (s : Int32 × Int32) (ke : Int32 → Int32 → Option Int32), u < n → k_X8_arcMovingMost_21 (nI u) N ke fu s.1 s.2 (nI 0) = ke (msI n o pl u s n).1 (msI n o pl u s n).2 := by
    intro u s ke hu
    refine loop_v (fun m i => k_X8_arcMovingMost_21 (nI u) N ke m (msI n o pl u s i).1 (msI n o pl u s i).2 (nI i)) _ n (by omega) ?_ ?_
    · intro m
      rw [k_X8_arcMovingMost_21.eq_2, hN.1, q_le_t (by omega) (by omega)]
    · intro m i hi
      rw [k_X8_arcMovingMost_21.eq_2, hN.1, q_le_f (by omega) (by omega), canTake_eq hN h hu hi]
      simp only [lit, Option.bind_some, q_b0, nI_add]
      rw [msI_s]
      cases ht : tak n o u i with
      | false => simp only [Bool.false_eq_true, if_false]
      | true =>
        have hl := lt_4096 (mvd_lt (n := n) (o := o) (pl := pl) u i) hn
        simp only [if_true]
        rw [movedBy_eq hN h hu hi (tak_ne ht), Option.bind_some, bc_eq hl, Option.bind_some, code_eq, Option.bind_some]
        by_cases c1 : nI (pc (mvd n o pl u i)) ≤ (msI n o pl u s i).2
        · rw [if_pos c1, if_pos c1]
        · rw [if_neg c1, if_neg c1]
  unfold f_X8_arcMovingMost
  simp only [lit]
  refine loop_v (fun m i => k_X8_arcMovingMost_7 N (fun x => some x) m (msO n o pl i).1 (msO n o pl i).2 (nI i)) _ n (by omega) ?_ ?_
  · intro m
    rw [k_X8_arcMovingMost_7.eq_2, hN.1, q_le_t (by omega) (by omega)]
  · intro m i hi
    rw [k_X8_arcMovingMost_7.eq_2, hN.1, q_le_f (by omega) (by omega)]
    simp only [lit, nI_add]
    rw [inner _ _ _ hi]
    rfl
/-- all but what a look leaves -/
def Lk0 (M M' : ModS) : Prop := ∀ k, k ≠ 26 → k ≠ 27 → k ≠ 28 → M' k = M k
theorem Lk0.tr {A B C : ModS} (h : Lk0 A B) (h2 : Lk0 B C) : Lk0 A C := fun k a b c => by rw [h2 k a b c, h k a b c]
theorem most9_eq (h : Good n o pl od) (hS : RefR S n o pl) (m8 : M 8 = nI n) (w ord t : Nat → Int32) : ∃ M' w' ord' t', f_X9_most M S w ord t = some ((msO n o pl n).1, M', w', ord', t') ∧ Lk0 M M' := by
  have hn := h.1.2
  have inner : ∀ (u : Nat) (s : Int32 × Int32) (ke : Int32 → Int32 → ModS → (Nat → Int32) → (Nat → Int32) → (Nat → Int32) → Option (Int32 × ModS × (Nat → Int32) × (Nat → Int32) × (Nat → Int32))) (M0 : ModS) (w ord t : Nat → Int32), u < n → Lk0 M M0 → ∃ M' w' ord' t', Lk0 M M' ∧ k_X9_most_18 (nI u) S ke fu s.1 s.2 (nI 0) M0 w ord t = ke (msI n o pl u s n).1 (msI n o pl u s n).2 M' w' ord' t' := by
    intro u s ke M0 w ord t hu h0
    obtain ⟨⟨M1, w1, o1, t1⟩, hI, e⟩ := loop_e (fun m i (z : ModS × (Nat → Int32) × (Nat → Int32) × (Nat → Int32)) => k_X9_most_18 (nI u) S ke m (msI n o pl u s i).1 (msI n o pl u s i).2 (nI i) z.1 z.2.1 z.2.2.1 z.2.2.2) (fun z => ke (msI n o pl u s n).1 (msI n o pl u s n).2 z.1 z.2.1 z.2.2.1 z.2.2.2) (fun i z => Lk0 M z.1) n (M0, w, ord, t) (by omega) h0
      (by
        intro m ⟨M1, w1, o1, t1⟩ hI
        have e8 : M1 8 = nI n := (hI 8 (by decide) (by decide) (by decide)).trans m8
        dsimp only
        rw [k_X9_most_18.eq_2, e8, q_le_t (by omega) (by omega)])
      (by
        intro m i ⟨M1, w1, o1, t1⟩ hi hI
        have e8 : M1 8 = nI n := (hI 8 (by decide) (by decide) (by decide)).trans m8
        have hl := h.olt hu
        dsimp only
        rw [k_X9_most_18.eq_2, e8, q_le_f (by omega) (by omega), q_eq_n (by omega) (by omega)]
        simp only [lit, nI_add, Nat.zero_add]
        rw [q_in (by omega) (by omega), q_cl (by omega), (hS u hu).1, h9_eq (by omega) (by omega)]
        simp only [Option.bind_some, q_b0]
        by_cases c : u = i
        · rw [if_pos c]
          refine ⟨(M1, w1, o1, t1), hI, ?_⟩
          have : tak n o u i = false := by
            cases ht : tak n o u i with
            | false => rfl
            | true => exact absurd c (tak_ne ht)
          dsimp only
          rw [msI_s, this, if_neg (by decide)]
        · rw [if_neg c]
          cases hb : (o u).testBit i with
          | true =>
            refine ⟨(M1, w1, o1, t1), hI, ?_⟩
            have : tak n o u i = false := by unfold tak; rw [hb]; simp
            dsimp only
            rw [msI_s, this, if_pos rfl, if_neg (by decide)]
          | false =>
            have hm := lt_4096 (mvd_lt (n := n) (o := o) (pl := pl) u i) hn
            obtain ⟨M2, w2, o2, t2, e2, l2⟩ := movedBy9_eq h hS e8 hu hi c w1 o1 t1
            rw [if_neg (by decide), e2, Option.bind_some, on_eq hm, Option.bind_some]
            refine ⟨(M2, w2, o2, t2), hI.tr l2.2.2.2, ?_⟩
            dsimp only
            have : tak n o u i = !clo n o u i := by unfold tak; rw [hb, decide_eq_true c]; simp
            rw [msI_s, this]
            simp only [l2.2.2.1, q_b0, q_mul, nI_add]
            cases clo n o u i with
            | true => rfl
            | false =>
              simp only [Bool.not_false, Bool.false_eq_true, if_false, if_true]
              by_cases c1 : nI (pc (mvd n o pl u i)) ≤ (msI n o pl u s i).2
              · rw [if_pos c1, if_pos c1]
              · rw [if_neg c1, if_neg c1])
    exact ⟨M1, w1, o1, t1, hI, e⟩
  unfold f_X9_most
  simp only [lit]
  obtain ⟨⟨M1, w1, o1, t1⟩, hI, e⟩ := loop_e (fun m i (z : ModS × (Nat → Int32) × (Nat → Int32) × (Nat → Int32)) => k_X9_most_7 S (fun x1_5 Mm_5 m_w_5 m_order_5 m_tried_5 => (some (x1_5, Mm_5, m_w_5, m_order_5, m_tried_5))) m (msO n o pl i).1 (msO n o pl i).2 (nI i) z.1 z.2.1 z.2.2.1 z.2.2.2) (fun z => some ((msO n o pl n).1, z.1, z.2.1, z.2.2.1, z.2.2.2)) (fun i z => Lk0 M z.1) n (M, w, ord, t) (by omega) (fun _ _ _ _ => rfl)
    (by
      intro m ⟨M1, w1, o1, t1⟩ hI
      have e8 : M1 8 = nI n := (hI 8 (by decide) (by decide) (by decide)).trans m8
      dsimp only
      rw [k_X9_most_7.eq_2, e8, q_le_t (by omega) (by omega)])
    (by
      intro m i ⟨M1, w1, o1, t1⟩ hi hI
      have e8 : M1 8 = nI n := (hI 8 (by decide) (by decide) (by decide)).trans m8
      dsimp only
      rw [k_X9_most_7.eq_2, e8, q_le_f (by omega) (by omega)]
      simp only [lit, nI_add]
      obtain ⟨M2, w2, o2, t2, hI2, e2⟩ := inner i (msO n o pl i) (fun x1_4 x2_4 Mm_4 m_w_4 m_order_4 m_tried_4 => k_X9_most_7 S (fun x1_5 Mm_5 m_w_5 m_order_5 m_tried_5 => (some (x1_5, Mm_5, m_w_5, m_order_5, m_tried_5))) m x1_4 x2_4 (nI (i + 1)) Mm_4 m_w_4 m_order_4 m_tried_4) M1 w1 o1 t1 hi hI
      exact ⟨(M2, w2, o2, t2), hI2, e2⟩)
  exact ⟨M1, w1, o1, t1, e, hI⟩
/-! spare arcs -/
noncomputable def sprB (n : Nat) (o : Nat → Nat) (u v : Nat) : Bool := (o u).testBit v && anyB (fun k => decide (¬ k = v) && ((o u).testBit k && (beh n o k).testBit v)) n
theorem sprB_eq (h : Good n o pl od) {u v : Nat} (hu : u < n) (hv : v < n) : sprB n o u v = ((o u).testBit v && decide (¬ tr n o v &&& beh n o u = 0)) := by
  unfold sprB
  congr 1
  apply bool_iff
  rw [anyB_t, decide_eq_true_iff]
  constructor
  · intro ⟨k, hk, hf⟩ e
    rw [Bool.and_eq_true, Bool.and_eq_true] at hf
    obtain ⟨_, j, p⟩ := (beh_pth h).mp hf.2.2
    obtain ⟨z, p2, a⟩ := pth_last j k v p
    refine and_0.mp e z ⟨(tr_bit hv).mpr a, (beh_pth h).mpr ⟨a.1, j, k, ⟨hu, hk, hf.2.1⟩, p2⟩⟩
  · intro e
    have h1 : ∃ z, (tr n o v).testBit z = true ∧ (beh n o u).testBit z = true := by
      apply Classical.byContradiction
      intro hn
      exact e (and_0.mpr fun i hi => hn ⟨i, hi⟩)
    obtain ⟨z, h2, h3⟩ := h1
    have a := (tr_bit hv).mp h2
    obtain ⟨_, j, k, a2, p⟩ := (beh_pth h).mp h3
    have p2 := pth_snoc j k z v p a
    refine ⟨k, a2.2.1, ?_⟩
    rw [Bool.and_eq_true, Bool.and_eq_true]
    refine ⟨decide_eq_true (fun e => ?_), a2.2.2, (beh_pth h).mpr ⟨hv, j, p2⟩⟩
    have := h.2.2.2.2.pth (j + 1) k v p2
    rw [e] at this; omega
theorem spare8_eq (hN : NetR N n o pl od) (h : Good n o pl od) : f_X8_spareArcs N = some (nI (sumN (fun u => cnt (sprB n o u) n) n)) := by
  have hn := h.1.2
  have inner : ∀ (u c : Nat) (ke : Int32 → Option Int32), u < n → k_X8_spareArcs_27 (nI u) (nI (beh n o u)) N ke fu (nI c) (nI 0) = ke (nI (c + cnt (sprB n o u) n)) := by
    intro u c ke hu
    refine loop_v (fun m i => k_X8_spareArcs_27 (nI u) (nI (beh n o u)) N ke m (nI (c + cnt (sprB n o u) i)) (nI i)) _ n (by omega) ?_ ?_
    · intro m
      rw [k_X8_spareArcs_27.eq_2, hN.1, q_le_t (by omega) (by omega)]
    · intro m i hi
      have hl := lt_4096 (tr_lt n o i) hn
      rw [k_X8_spareArcs_27.eq_2, hN.1, q_le_f (by omega) (by omega), has_eq hN h hu hi]
      simp only [lit, Option.bind_some, q_b0, nI_add]
      rw [q_in (by omega) (by omega), q_cl (by omega), hN.2.2.2.1 i hi, q_and, q_eq_n (and_lt hl) (by omega), cnt_s, sprB_eq h hu hi]
      cases (o u).testBit i with
      | false => rfl
      | true =>
        rw [if_pos rfl]
        by_cases c1 : tr n o i &&& beh n o u = 0
        · rw [if_pos c1, decide_eq_false (fun q => q c1)]; rfl
        · rw [if_neg c1, decide_eq_true c1]; rfl
  unfold f_X8_spareArcs
  simp only [lit]
  refine loop_v (fun m i => k_X8_spareArcs_4 N (fun x => some x) m (nI (sumN (fun u => cnt (sprB n o u) n) i)) (nI i)) _ n (by omega) ?_ ?_
  · intro m
    rw [k_X8_spareArcs_4.eq_2, hN.1, q_le_t (by omega) (by omega)]
  · intro m i hi
    rw [k_X8_spareArcs_4.eq_2, hN.1, q_le_f (by omega) (by omega), allBehind_eq hN h hi]
    simp only [lit, nI_add, Option.bind_some]
    rw [inner _ _ _ hi]
    rfl
theorem isSpare_eq (h : Good n o pl od) (hS : RefR S n o pl) (m8 : M 8 = nI n) {u v : Nat} (hu : u < n) (hv : v < n) : f_X9_isSpare M S (nI u) (nI v) = some (nI (anyB (fun k => decide (¬ k = v) && ((o u).testBit k && (beh n o k).testBit v)) n).toNat) := by
  have hn := h.1.2
  have hl := h.olt hu
  unfold f_X9_isSpare
  simp only [lit]
  refine loop_v (fun m i => k_X9_isSpare_5 (nI u) (nI v) M S (fun x3_4 => (if isZ x3_4 then (some x3_4) else none)) m (nI (anyB (fun k => decide (¬ k = v) && ((o u).testBit k && (beh n o k).testBit v)) i).toNat) (nI i)) _ n (by omega) ?_ ?_
  · intro m
    rw [k_X9_isSpare_5.eq_2, m8, q_le_t (by omega) (by omega), q_bz]
  · intro m i hi
    have hb := lt_4096 (beh_lt (n := n) (o := o) i) hn
    rw [k_X9_isSpare_5.eq_2, m8, q_le_f (by omega) (by omega)]
    simp only [lit, nI_add, Nat.zero_add]
    rw [q_b0, q_eq_n (by omega) (by omega), q_in (by omega) (by omega), q_cl (by omega), (hS u hu).1, h9_eq (by omega) (by omega), behind_eq h hS m8 hi]
    simp only [Option.bind_some]
    rw [h9_eq (by omega) (by omega)]
    simp only [Option.bind_some, q_b0]
    show _ = k_X9_isSpare_5 _ _ _ _ _ m (nI (anyB (fun k => decide (¬ k = v) && ((o u).testBit k && (beh n o k).testBit v)) i || (decide (¬ i = v) && ((o u).testBit i && (beh n o i).testBit v))).toNat) _
    cases anyB (fun k => decide (¬ k = v) && ((o u).testBit k && (beh n o k).testBit v)) i with
    | true => rfl
    | false =>
      rw [if_neg (by decide)]
      by_cases c1 : i = v
      · rw [if_pos c1, decide_eq_false (fun q => q c1)]; rfl
      · rw [if_neg c1, decide_eq_true c1]
        cases (o u).testBit i <;> cases (beh n o i).testBit v <;> rfl
theorem spare9_eq (h : Good n o pl od) (hS : RefR S n o pl) (m8 : M 8 = nI n) : f_X9_spares M S = some (nI (sumN (fun u => cnt (sprB n o u) n) n)) := by
  have hn := h.1.2
  have inner : ∀ (u c : Nat) (ke : Int32 → Option Int32), u < n → k_X9_spares_14 (nI u) M S ke fu (nI c) (nI 0) = ke (nI (c + cnt (sprB n o u) n)) := by
    intro u c ke hu
    have hl := h.olt hu
    refine loop_v (fun m i => k_X9_spares_14 (nI u) M S ke m (nI (c + cnt (sprB n o u) i)) (nI i)) _ n (by omega) ?_ ?_
    · intro m
      rw [k_X9_spares_14.eq_2, m8, q_le_t (by omega) (by omega)]
    · intro m i hi
      rw [k_X9_spares_14.eq_2, m8, q_le_f (by omega) (by omega)]
      simp only [lit, nI_add, Nat.zero_add]
      rw [q_in (by omega) (by omega), q_cl (by omega), (hS u hu).1, h9_eq (by omega) (by omega), isSpare_eq h hS m8 hu hi]
      simp only [Option.bind_some, q_b0]
      rw [cnt_s]
      show _ = k_X9_spares_14 _ _ _ _ m (nI (c + (cnt (sprB n o u) i + ((o u).testBit i && anyB (fun k => decide (¬ k = i) && ((o u).testBit k && (beh n o k).testBit i)) n).toNat))) _
      cases (o u).testBit i with
      | false => rfl
      | true =>
        rw [if_pos rfl]
        cases anyB (fun k => decide (¬ k = i) && ((o u).testBit k && (beh n o k).testBit i)) n <;> rfl
  unfold f_X9_spares
  simp only [lit]
  refine loop_v (fun m i => k_X9_spares_4 M S (fun x => some x) m (nI (sumN (fun u => cnt (sprB n o u) n) i)) (nI i)) _ n (by omega) ?_ ?_
  · intro m
    rw [k_X9_spares_4.eq_2, m8, q_le_t (by omega) (by omega)]
  · intro m i hi
    rw [k_X9_spares_4.eq_2, m8, q_le_f (by omega) (by omega)]
    simp only [lit, nI_add]
    rw [inner _ _ _ hi]
    rfl
end NOW
