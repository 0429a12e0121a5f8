/-! ===== the fewest days ===== -/
def subB (a b : Nat) : Prop := ∀ i, a.testBit i = true → b.testBit i = true
theorem and_half (a b : Nat) : (a &&& b) / 2 = a / 2 &&& b / 2 := by
  apply eq_of_bits
  intro i
  rw [Nat.testBit_and, ← Nat.testBit_succ, ← Nat.testBit_succ, ← Nat.testBit_succ, Nat.testBit_and]
theorem odd_bit {a : Nat} : a % 2 = 1 ↔ a.testBit 0 = true := Nat.mod_two_eq_one_iff_testBit_zero
theorem sub_half {a b : Nat} (h : subB a b) : subB (a / 2) (b / 2) := fun i hi => by
  rw [← Nat.testBit_succ] at hi ⊢
  exact h _ hi
theorem sub_and {a b : Nat} (h : subB a b) : a &&& b = a := by
  apply eq_bits2
  intro i
  rw [and_b]
  exact ⟨fun q => q.1, fun q => ⟨q, h i q⟩⟩
/-- the next smaller part of a set -/
theorem sub_next : ∀ (w x m B : Nat), x < 2 ^ w → subB x m → subB B m → B < x → B ≤ (x - 1) &&& m
  | 0, x, m, B, hx, _, _, hB => by
    have : 2 ^ 0 = 1 := rfl
    omega
  | w + 1, x, m, B, hx, h1, h2, hB => by
    have d1 := and_half (x - 1) m
    have hp : 2 ^ (w + 1) = 2 * 2 ^ w := by rw [Nat.pow_succ, Nat.mul_comm]
    rcases Nat.mod_two_eq_zero_or_one x with c | c
    · have e : (x - 1) / 2 = x / 2 - 1 := by omega
      have ih := sub_next w (x / 2) (m / 2) (B / 2) (by omega) (sub_half h1) (sub_half h2) (by omega)
      rw [e] at d1
      rw [← d1] at ih
      rcases Nat.mod_two_eq_zero_or_one B with c2 | c2
      · omega
      · have h3 : ((x - 1) &&& m) % 2 = 1 := odd_bit.mpr (and_b.mpr ⟨odd_bit.mp (by omega), h2 0 (odd_bit.mp c2)⟩)
        omega
    · have e : (x - 1) / 2 = x / 2 := by omega
      rw [e, sub_and (sub_half h1)] at d1
      omega
theorem pc_z {a : Nat} (h : a < 4096) (hp : pc a = 0) : a = 0 := by
  apply eq_of_bits
  intro i
  rw [Nat.zero_testBit]
  cases hb : a.testBit i with
  | false => rfl
  | true =>
    rcases Nat.lt_or_ge i 12 with c | c
    · have := cnt_lt a.testBit c hb
      unfold pc at hp
      omega
    · rw [bits_of_lt (n := 12) h c] at hb; cases hb
theorem pc_0 : pc 0 = 0 := by decide
theorem bit12 {a i : Nat} (h : a < 4096) (hb : a.testBit i = true) : i < 12 := by
  rcases Nat.lt_or_ge i 12 with c | c
  · exact c
  · rw [bits_of_lt (n := 12) h c] at hb; cases hb
theorem ex_bit {a : Nat} (h : 0 < pc a) : ∃ i, i < 12 ∧ a.testBit i = true := by
  obtain ⟨q, h1, h2, _⟩ := cnt_sel a.testBit 12 (r := 0) h
  exact ⟨q, h1, h2⟩
/-- a table of days; some cells come down to a day -/
def Tab (b : Nat) (A : Nat → Int32) : Prop := ∀ T, T < b → ∃ v, v ≤ 99 ∧ A T = nI v
def Up (b : Nat) (A A' : Nat → Int32) (Q : Nat → Prop) (day : Nat) : Prop := ∀ T, T < b → ∀ v, v ≤ 99 → A T = nI v → (Q T → A' T = nI (if day < v then day else v)) ∧ (¬ Q T → A' T = nI v)
theorem Up.tr {b : Nat} {A B C : Nat → Int32} {Q R : Nat → Prop} {day : Nat} (h1 : Up b A B Q day) (h2 : Up b B C R day) : Up b A C (fun T => Q T ∨ R T) day := by
  intro T hT v hv e
  obtain ⟨a, a'⟩ := h1 T hT v hv e
  by_cases q : Q T
  · have hle : (if day < v then day else v) ≤ 99 := by split <;> omega
    obtain ⟨c, c'⟩ := h2 T hT _ hle (a q)
    refine ⟨fun _ => ?_, fun nq => absurd (Or.inl q) nq⟩
    by_cases r : R T
    · rw [c r]
      congr 1
      by_cases d : day < v
      · rw [if_pos d, if_neg (by omega)]
      · rw [if_neg d, if_neg d]
    · exact c' r
  · obtain ⟨c, c'⟩ := h2 T hT v hv (a' q)
    refine ⟨fun qr => ?_, fun nq => c' (fun r => nq (Or.inr r))⟩
    rcases qr with x | x
    · exact absurd x q
    · exact c x
theorem Up.tab {b : Nat} {A B : Nat → Int32} {Q : Nat → Prop} {day : Nat} (h1 : Up b A B Q day) (hA : Tab b A) : Tab b B := by
  intro T hT
  obtain ⟨v, hv, e⟩ := hA T hT
  obtain ⟨a, a'⟩ := h1 T hT v hv e
  by_cases q : Q T
  · exact ⟨_, by split <;> omega, a q⟩
  · exact ⟨v, hv, a' q⟩
theorem Up.iff {b : Nat} {A B : Nat → Int32} {Q R : Nat → Prop} {day : Nat} (h1 : Up b A B Q day) (h : ∀ T, Q T ↔ R T) : Up b A B R day := by
  intro T hT v hv e
  rw [← h T]
  exact h1 T hT v hv e
theorem Up.no {b : Nat} {A : Nat → Int32} {Q : Nat → Prop} {day : Nat} (h : ∀ T, ¬ Q T) : Up b A A Q day := fun T _ _ _ e => ⟨fun q => absurd q (h T), fun _ => e⟩
/-- all ways to take c of what is ready, from u on -/
def CM (r u c made T : Nat) : Prop := ∃ B, (∀ x, B.testBit x = true → r.testBit x = true ∧ u ≤ x) ∧ pc B = c ∧ T = made ||| B
theorem CM_0 {r u made T : Nat} (hr : r < 4096) : CM r u 0 made T ↔ T = made := by
  constructor
  · intro ⟨B, hB, hp, e⟩
    have hl : B < 4096 := Nat.lt_of_lt_of_le (sub_bit (n := 12) (fun i hi => (hB i hi).1) hr) (Nat.le_refl _)
    rw [e, pc_z hl hp, Nat.or_zero]
  · intro e
    exact ⟨0, (fun x hx => absurd hx (by rw [Nat.zero_testBit]; decide)), pc_0, by rw [e, Nat.or_zero]⟩
theorem CM_s {r u c made T : Nat} (hr : r < 4096) : CM r u (c + 1) made T ↔ ∃ j, u ≤ j ∧ j < 12 ∧ r.testBit j = true ∧ CM r (j + 1) c (made ||| 2 ^ j) T := by
  constructor
  · intro ⟨B, hB, hp, e⟩
    have hl : B < 4096 := Nat.lt_of_lt_of_le (sub_bit (n := 12) (fun i hi => (hB i hi).1) hr) (Nat.le_refl _)
    obtain ⟨q, hq, hb⟩ := ex_bit (a := B) (by omega)
    obtain ⟨_, j1, j2, j3⟩ := fnd_spec B.testBit 12 0 q (by omega) (by omega) hb
    refine ⟨fnd B.testBit 12 0, (hB _ j2).2, by omega, (hB _ j2).1, ndf B (2 ^ fnd B.testBit 12 0), fun x hx => ?_, ?_, ?_⟩
    · have := ndf_b.mp hx
      refine ⟨(hB x this.1).1, ?_⟩
      rcases Nat.lt_trichotomy x (fnd B.testBit 12 0) with k | k | k
      · rw [j3 x (by omega) k] at this; cases this.1
      · exact absurd (p2_bit.mpr k) this.2
      · omega
    · have := pc_ndf (a := B) (v := fnd B.testBit 12 0) (by omega) j2
      omega
    · rw [e]
      apply eq_bits2
      intro x
      rw [or_bit, or_bit, or_bit, ndf_b, p2_bit]
      constructor
      · intro q2
        rcases q2 with q2 | q2
        · exact Or.inl (Or.inl q2)
        · by_cases k : x = fnd B.testBit 12 0
          · exact Or.inl (Or.inr k)
          · exact Or.inr ⟨q2, k⟩
      · intro q2
        rcases q2 with (q2 | q2) | q2
        · exact Or.inl q2
        · rw [q2]; exact Or.inr j2
        · exact Or.inr q2.1
  · intro ⟨j, h1, h2, h3, B, hB, hp, e⟩
    have hj : B.testBit j = false := by
      cases hb : B.testBit j with
      | false => rfl
      | true => have := (hB j hb).2; omega
    refine ⟨B ||| 2 ^ j, fun x hx => ?_, by rw [pc_or h2 hj, hp], ?_⟩
    · rcases or_bit.mp hx with q | q
      · exact ⟨(hB x q).1, by have := (hB x q).2; omega⟩
      · rw [p2_bit] at q; subst q; exact ⟨h3, h1⟩
    · rw [e, Nat.or_assoc, Nat.or_comm (2 ^ j)]
theorem work_eq {n r day : Nat} (hn : n ≤ 12) (hr : r < 2 ^ n) (hd : day ≤ 99) : ∀ c d made u A, c < d → c ≤ 12 → made < 2 ^ n → u ≤ 12 → Tab (2 ^ n) A → ∃ A', f_X1_work d A (nI made) (nI r) (nI u) (nI c) (nI day) = some A' ∧ Up (2 ^ n) A A' (CM r u c made) day
  | c, 0, made, u, A, hc, hc2, hm, hu, hA => absurd hc (Nat.not_lt_zero _)
  | 0, d + 1, made, u, A, hc, hc2, hm, hu, hA => by
    have lm := lt_4096 hm hn
    have lr := lt_4096 hr hn
    obtain ⟨v, hv, e⟩ := hA made hm
    rw [f_X1_work.eq_2]
    simp only [lit]
    rw [q_lt_f (by omega) (by omega)]
    simp only [q_in (show made < 4096 by omega) (show 4096 < 2147483648 by omega), q_cl (show made < 2147483648 by omega)]
    rw [e, q_min (by omega) (by omega)]
    refine ⟨_, rfl, fun T hT w hw ew => ?_⟩
    rw [CM_0 lr]
    refine ⟨fun q => ?_, fun q => by rw [pk_un q]; exact ew⟩
    subst q
    rw [pk_us]
    have : v = w := by
      rw [e] at ew
      exact (q_eq (by omega) (by omega)).mp ew
    subst this
    rfl
  | c + 1, d + 1, made, u, A, hc, hc2, hm, hu, hA => by
    have lm := lt_4096 hm hn
    have lr := lt_4096 hr hn
    rw [f_X1_work.eq_2]
    simp only [lit]
    rw [q_lt_t (by omega) (by omega)]
    obtain ⟨A', hI, e⟩ : ∃ A', Up (2 ^ n) A A' (fun T => ∃ j, u ≤ j ∧ j < 12 ∧ r.testBit j = true ∧ CM r (j + 1) c (made ||| 2 ^ j) T) day ∧ k_X1_work_20 (f_X1_work d) (nI made) (nI r) (nI (c + 1)) (nI day) (fun A0_3 => some A0_3) fu (nI u) A = some A' := by
      refine loop_up (fun m i (B : Nat → Int32) => k_X1_work_20 (f_X1_work d) (nI made) (nI r) (nI (c + 1)) (nI day) (fun A0_3 => some A0_3) m (nI i) B) (fun i B => u ≤ i ∧ Up (2 ^ n) A B (fun T => ∃ j, u ≤ j ∧ j < i ∧ r.testBit j = true ∧ CM r (j + 1) c (made ||| 2 ^ j) T) day) (fun b => ∃ A', Up (2 ^ n) A A' (fun T => ∃ j, u ≤ j ∧ j < 12 ∧ r.testBit j = true ∧ CM r (j + 1) c (made ||| 2 ^ j) T) day ∧ b = some A') 12 ?_ ?_ (12 - u) u fu A (by omega) (by rw [fu_eq]; omega) ⟨Nat.le_refl u, Up.no (fun T ⟨j, h1, h2, _⟩ => by omega)⟩
      · intro m B ⟨_, hB⟩
        rw [k_X1_work_20.eq_2]
        simp only [lit]
        rw [q_le_t (by omega) (by omega)]
        exact ⟨B, hB, rfl⟩
      · intro m i B hi ⟨hiu, hB⟩
        left
        rw [k_X1_work_20.eq_2]
        simp only [lit]
        rw [q_le_f (by omega) (by omega), hb_eq (by omega) (by omega), Option.bind_some, q_b0, q_sh (k := i) (by omega), q_or]
        simp only [nI_add]
        cases hb : r.testBit i with
        | false =>
          rw [if_neg (by decide)]
          refine ⟨B, ⟨by omega, hB.iff (fun T => ?_)⟩, rfl⟩
          constructor
          · intro ⟨j, h1, h2, h3⟩; exact ⟨j, h1, by omega, h3⟩
          · intro ⟨j, h1, h2, h3, h4⟩
            refine ⟨j, h1, ?_, h3, h4⟩
            rcases (show j < i ∨ j = i by omega) with q | q
            · exact q
            · subst q; rw [hb] at h3; cases h3
        | true =>
          have hin : i < n := by
            rcases Nat.lt_or_ge i n with q | q
            · exact q
            · rw [bits_of_lt hr q] at hb; cases hb
          rw [if_pos rfl, q_sub (by omega), Nat.add_sub_cancel]
          obtain ⟨B', e, hB'⟩ := work_eq hn hr hd c d (made ||| 2 ^ i) (i + 1) B (by omega) (by omega) (or_p2 hm hin) (by omega) (hB.tab hA)
          rw [e, Option.bind_some]
          refine ⟨B', ⟨by omega, (hB.tr hB').iff (fun T => ?_)⟩, rfl⟩
          constructor
          · intro q
            rcases q with ⟨j, h1, h2, h3⟩ | q
            · exact ⟨j, h1, by omega, h3⟩
            · exact ⟨i, hiu, by omega, hb, q⟩
          · intro ⟨j, h1, h2, h3, h4⟩
            rcases (show j < i ∨ j = i by omega) with q | q
            · exact Or.inl ⟨j, h1, q, h3, h4⟩
            · subst q; exact Or.inr h4
    exact ⟨A', e, hI.iff (fun T => (CM_s lr).symm)⟩
