/-! ===== one entry of the text, of both ===== -/
def TokJ (tx : Nat → Nat) (L e s q kd v : Nat) : Prop := e ≤ s ∧ s ≤ q ∧ q ≤ L ∧ (kd = 0 ∨ s < q) ∧ kd ≤ 5 ∧ v ≤ 99 ∧ (∀ T : TxtS, T.1 0 = nI L → T.1 4 = nI e → (∀ i, i < L → T.2 i = nI (tx i)) → ∃ T', f_X7_nextToken T = some T' ∧ Tk8 L s q kd v T.2 T') ∧ (∀ (M : ModS) (X : Nat → Int32), M 2 = nI L → M 3 = nI e → (∀ i, i < L → X i = nI (tx i)) → ∃ M', f_X9_advances M X = some M' ∧ Tk9 s q kd v M M')
section ENT
variable {tx : Nat → Nat} {L : Nat}
theorem t8_n {kd : Nat} (h : kd ≤ 5) : t8 kd = 110 ↔ kd = 1 := by
  rcases (show kd = 0 ∨ kd = 1 ∨ kd = 2 ∨ kd = 3 ∨ kd = 4 ∨ kd = 5 by omega) with e | e | e | e | e | e <;> subst e <;> decide
theorem t8_a {kd : Nat} (h : kd ≤ 5) : t8 kd = 97 ↔ kd = 2 := by
  rcases (show kd = 0 ∨ kd = 1 ∨ kd = 2 ∨ kd = 3 ∨ kd = 4 ∨ kd = 5 by omega) with e | e | e | e | e | e <;> subst e <;> decide
theorem t8_d {kd : Nat} (h : kd ≤ 5) : t8 kd = 100 ↔ kd = 5 := by
  rcases (show kd = 0 ∨ kd = 1 ∨ kd = 2 ∨ kd = 3 ∨ kd = 4 ∨ kd = 5 by omega) with e | e | e | e | e | e <;> subst e <;> decide
theorem t8_s {kd : Nat} (h : kd ≤ 5) : t8 kd = 59 ↔ kd = 3 := by
  rcases (show kd = 0 ∨ kd = 1 ∨ kd = 2 ∨ kd = 3 ∨ kd = 4 ∨ kd = 5 by omega) with e | e | e | e | e | e <;> subst e <;> decide
theorem t8_e {kd : Nat} (h : kd ≤ 5) : t8 kd = 101 ↔ kd = 0 := by
  rcases (show kd = 0 ∨ kd = 1 ∨ kd = 2 ∨ kd = 3 ∨ kd = 4 ∨ kd = 5 by omega) with e | e | e | e | e | e <;> subst e <;> decide
theorem t8_lt {kd : Nat} (h : kd ≤ 5) : t8 kd < 2147483648 := by
  rcases (show kd = 0 ∨ kd = 1 ∨ kd = 2 ∨ kd = 3 ∨ kd = 4 ∨ kd = 5 by omega) with e | e | e | e | e | e <;> subst e <;> decide
theorem t9_e {kd : Nat} (h : kd ≤ 5) : t9 kd = 0 ↔ kd = 0 := by
  rcases (show kd = 0 ∨ kd = 1 ∨ kd = 2 ∨ kd = 3 ∨ kd = 4 ∨ kd = 5 by omega) with e | e | e | e | e | e <;> subst e <;> decide
theorem t9_l {kd : Nat} (h : kd ≤ 5) : t9 kd = 1 ↔ kd = 1 ∨ kd = 2 := by
  rcases (show kd = 0 ∨ kd = 1 ∨ kd = 2 ∨ kd = 3 ∨ kd = 4 ∨ kd = 5 by omega) with e | e | e | e | e | e <;> subst e <;> decide
theorem t9_d {kd : Nat} (h : kd ≤ 5) : t9 kd = 2 ↔ kd = 5 := by
  rcases (show kd = 0 ∨ kd = 1 ∨ kd = 2 ∨ kd = 3 ∨ kd = 4 ∨ kd = 5 by omega) with e | e | e | e | e | e <;> subst e <;> decide
theorem t9_s {kd : Nat} (h : kd ≤ 5) : t9 kd = 3 ↔ kd = 3 := by
  rcases (show kd = 0 ∨ kd = 1 ∨ kd = 2 ∨ kd = 3 ∨ kd = 4 ∨ kd = 5 by omega) with e | e | e | e | e | e <;> subst e <;> decide
theorem t9_lt {kd : Nat} (h : kd ≤ 5) : t9 kd < 2147483648 := by
  rcases (show kd = 0 ∨ kd = 1 ∨ kd = 2 ∨ kd = 3 ∨ kd = 4 ∨ kd = 5 by omega) with e | e | e | e | e | e <;> subst e <;> decide
/-- a number in a span -/
def nmB (kd v a b : Nat) : Bool := decide (kd = 5 ∧ a ≤ v ∧ v ≤ b)
theorem rdNum_eq {T : TxtS} {e s q kd v a b : Nat} (hj : TokJ tx L e s q kd v) (h0 : T.1 0 = nI L) (h4 : T.1 4 = nI e) (hT : ∀ i, i < L → T.2 i = nI (tx i)) (ha : a < 2147483648) (hb : b < 2147483648) : ∃ T', f_X7_readNumber T (nI a) (nI b) = some (nI (nmB kd v a b).toNat, T') ∧ Tk8 L s q kd v T.2 T' := by
  obtain ⟨T', e1, hk⟩ := hj.2.2.2.2.2.2.1 T h0 h4 hT
  have h5 := hj.2.2.2.2.1
  have hv := hj.2.2.2.2.2.1
  unfold f_X7_readNumber
  rw [e1, Option.bind_some]
  refine ⟨T', ?_, hk⟩
  simp only [lit]
  rw [hk.2.2.2.2.1, q_eq_n (t8_lt h5) (by omega)]
  unfold nmB
  by_cases c : kd = 5
  · rw [if_pos ((t8_d h5).mpr c), hk.2.2.2.2.2 c, q_lt_n (by omega) (by omega), q_lt_n (by omega) (by omega)]
    by_cases c1 : v < a
    · rw [if_pos c1, decide_eq_false (by omega)]; rfl
    · rw [if_neg c1]
      by_cases c2 : b < v
      · rw [if_pos c2, decide_eq_false (by omega)]; rfl
      · rw [if_neg c2, decide_eq_true (by omega)]; rfl
  · rw [if_neg (fun z => c ((t8_d h5).mp z)), decide_eq_false (fun z => c z.1)]; rfl
theorem isNum_eq {M M0 : ModS} {s q kd v a b : Nat} (hM : Tk9 s q kd v M0 M) (h5 : kd ≤ 5) (hv : v ≤ 99) (ha : a < 2147483648) (hb : b < 2147483648) : f_X9_isNumber M (nI a) (nI b) = some (nI (nmB kd v a b).toNat) := by
  unfold f_X9_isNumber
  simp only [lit]
  rw [hM.2.2.1, q_eq_n (t9_lt h5) (by omega)]
  unfold nmB
  by_cases c : kd = 5
  · rw [if_pos ((t9_d h5).mpr c), hM.2.2.2.2.2.1 c, in_eq (by omega) (by omega) (by omega), Option.bind_some, q_b0]
    by_cases c1 : a ≤ v ∧ v ≤ b
    · rw [decide_eq_true c1, decide_eq_true ⟨c, c1⟩]; rfl
    · rw [decide_eq_false c1, decide_eq_false (fun z => c1 z.2)]; rfl
  · rw [if_neg (fun z => c ((t9_d h5).mp z)), decide_eq_false (fun z => c z.1)]; rfl
theorem well_t {M : ModS} (h : M 7 = -nI 1) : f_X9_isWell M = some (nI 1) := by
  unfold f_X9_isWell
  simp only [lit]
  rw [h, if_neg m1_lt]
theorem well_f {M : ModS} {f : Nat} (hf : f < 2147483648) (h : M 7 = nI f) : f_X9_isWell M = some (nI 0) := by
  unfold f_X9_isWell
  simp only [lit]
  rw [h, q_le_t (by omega) (by omega)]
theorem ne10 : ¬ (nI 1 : Int32) = nI 0 := by decide
theorem takes_n {M : ModS} {X : Nat → Int32} {f : Nat} (hf : f < 2147483648) (h : M 7 = nI f) (x : Int32) : f_X9_takes M X x = some (nI 0, M) := by
  unfold f_X9_takes
  rw [well_f hf h, Option.bind_some]
  simp only [lit]
  rw [if_pos trivial]
theorem takes_f {M : ModS} {X : Nat → Int32} (h : M 7 = -nI 1) : f_X9_takes M X (nI 0) = some (nI 0, upd M 7 (M 5)) := by
  unfold f_X9_takes
  rw [well_t h, Option.bind_some]
  simp only [lit]
  rw [if_neg ne10, if_pos trivial]
theorem takes_t {M : ModS} {X : Nat → Int32} {e s q kd v : Nat} (hj : TokJ tx L e s q kd v) (h : M 7 = -nI 1) (m2 : M 2 = nI L) (m3 : M 3 = nI e) (hX : ∀ i, i < L → X i = nI (tx i)) : ∃ M', f_X9_takes M X (nI 1) = some (M 6, M') ∧ Tk9 s q kd v M M' := by
  obtain ⟨M', e1, hk⟩ := hj.2.2.2.2.2.2.2 M X m2 m3 hX
  unfold f_X9_takes
  rw [well_t h, Option.bind_some, e1]
  simp only [lit, Option.bind_some]
  rw [if_neg ne10]
  exact ⟨M', rfl, hk⟩
/-- all but the reader's own -/
def FrS (M M' : ModS) : Prop := ∀ k, k ≠ 0 → k ≠ 3 → k ≠ 4 → k ≠ 5 → k ≠ 6 → k ≠ 7 → k ≠ 9 → k ≠ 26 → k ≠ 27 → k ≠ 28 → M' k = M k
theorem FrS.rf {M : ModS} : FrS M M := fun _ _ _ _ _ _ _ _ _ _ _ => rfl
theorem FrS.tr {A B C : ModS} (h : FrS A B) (h2 : FrS B C) : FrS A C := fun k a b c d e f g i j l => (h2 k a b c d e f g i j l).trans (h k a b c d e f g i j l)
theorem Tk9.fr {s q kd v : Nat} {M M' : ModS} (h : Tk9 s q kd v M M') : FrS M M' := fun k _ b c d e _ _ _ _ _ => h.2.2.2.2.2.2 k b c d e
theorem fr_u7 {M : ModS} {x : Int32} : FrS M (upd M 7 x) := fun _ _ _ _ _ _ f _ _ _ _ => pk_un f
theorem fr_u9 {M : ModS} {x : Int32} : FrS M (upd M 9 x) := fun _ _ _ _ _ _ _ g _ _ _ => pk_un g
theorem LkR.fr {n u v : Nat} {o pl : Nat → Nat} {M M' : ModS} (h : LkR n o pl u v M M') : FrS M M' := fun k _ _ _ _ _ _ _ i j l => h.2.2.2 k i j l
/-- the reference at the head of its loop: it stands on a token, and is well -/
def MxC (L s q kd v : Nat) (M : ModS) : Prop := M 2 = nI L ∧ M 7 = -nI 1 ∧ Tk9 s q kd v M M
theorem Tk9.self {s q kd v : Nat} {M M' : ModS} (h : Tk9 s q kd v M M') : Tk9 s q kd v M' M' := ⟨h.1, h.2.1, h.2.2.1, h.2.2.2.1, h.2.2.2.2.1, h.2.2.2.2.2.1, fun _ _ _ _ _ => rfl⟩
/-- the tail of a round -/
theorem tail_n {X S K : Nat → Int32} {ke : Int32 → ModS → (Nat → Int32) → (Nat → Int32) → (Nat → Int32) → Option (Int32 × ModS × (Nat → Int32) × (Nat → Int32) × (Nat → Int32) × (Nat → Int32) × (Nat → Int32))} {M : ModS} {f m : Nat} {x : Int32} {D w od : Nat → Int32} (hf : f < 2147483648) (h : M 7 = nI f) : (if M 4 = nI 3 then ((f_X9_takes M X (nI 1)).bind fun r => k_X9_store_25 X S K ke m x r.2 D w od) else ((f_X9_takes M X (nI 0)).bind fun r => k_X9_store_25 X S K ke m x r.2 D w od)) = k_X9_store_25 X S K ke m x M D w od := by
  rw [takes_n hf h, takes_n hf h]
  split <;> rfl
theorem tail_f {X S K : Nat → Int32} {ke : Int32 → ModS → (Nat → Int32) → (Nat → Int32) → (Nat → Int32) → Option (Int32 × ModS × (Nat → Int32) × (Nat → Int32) × (Nat → Int32) × (Nat → Int32) × (Nat → Int32))} {M : ModS} {kd m : Nat} {x : Int32} {D w od : Nat → Int32} (h5 : kd ≤ 5) (h4 : M 4 = nI (t9 kd)) (hk : kd ≠ 3) (h : M 7 = -nI 1) : (if M 4 = nI 3 then ((f_X9_takes M X (nI 1)).bind fun r => k_X9_store_25 X S K ke m x r.2 D w od) else ((f_X9_takes M X (nI 0)).bind fun r => k_X9_store_25 X S K ke m x r.2 D w od)) = k_X9_store_25 X S K ke m x (upd M 7 (M 5)) D w od := by
  rw [if_neg (fun z => hk ((t9_s h5).mp ((q_eq (t9_lt h5) (by omega)).mp (h4.symm.trans z)))), takes_f h, Option.bind_some]
theorem tail_t {X S K : Nat → Int32} {ke : Int32 → ModS → (Nat → Int32) → (Nat → Int32) → (Nat → Int32) → Option (Int32 × ModS × (Nat → Int32) × (Nat → Int32) × (Nat → Int32) × (Nat → Int32) × (Nat → Int32))} {M M' : ModS} {m : Nat} {x y : Int32} {D w od : Nat → Int32} (h4 : M 4 = nI 3) (h : f_X9_takes M X (nI 1) = some (y, M')) : (if M 4 = nI 3 then ((f_X9_takes M X (nI 1)).bind fun r => k_X9_store_25 X S K ke m x r.2 D w od) else ((f_X9_takes M X (nI 0)).bind fun r => k_X9_store_25 X S K ke m x r.2 D w od)) = k_X9_store_25 X S K ke m x M' D w od := by
  rw [if_pos h4, h, Option.bind_some]
/-- a round that ends at its first token -/
theorem st_bad {X S K : Nat → Int32} {s q kd v c : Nat} {M : ModS} (hL : L ≤ 120) (hs : s ≤ L) (h5 : kd ≤ 5) (hM : MxC L s q kd v M) (h0 : kd ≠ 0) (hb : kd = 3 ∨ kd = 4 ∨ kd = 5 ∨ (kd = 1 ∧ c ≠ 0)) (hc : c < 2147483648) (D w od : Nat → Int32) (ke : Int32 → ModS → (Nat → Int32) → (Nat → Int32) → (Nat → Int32) → Option (Int32 × ModS × (Nat → Int32) × (Nat → Int32) × (Nat → Int32) × (Nat → Int32) × (Nat → Int32))) (m : Nat) : k_X9_store_25 X S K ke (m + 1) (nI c) M D w od = k_X9_store_25 X S K ke m (nI (c + 1)) (upd M 7 (nI s)) D w od := by
  obtain ⟨m2, m7, hk⟩ := hM
  have hf : (upd M 7 (nI s)) 7 = nI s := pk_us
  have hl : s < 2147483648 := by omega
  rw [k_X9_store_25.eq_2, well_t m7]
  simp only [lit, Option.bind_some, nI_add]
  rw [if_neg ne10]
  simp only [hk.2.2.1, q_eq_n (t9_lt h5) (show 0 < 2147483648 by omega), q_eq_n (t9_lt h5) (show 1 < 2147483648 by omega), takes_f m7, hk.2.1, Option.bind_some, well_f hl hf, takes_n hl hf, if_true]
  rw [if_neg (fun z => h0 ((t9_e h5).mp z))]
  rcases hb with e | e | e | ⟨e, e2⟩
  · subst e; rw [if_neg (by decide)]; simp only [ite_self]
  · subst e; rw [if_neg (by decide)]; simp only [ite_self]
  · subst e; rw [if_neg (by decide)]; simp only [ite_self]
  · rw [if_pos ((t9_l h5).mpr (Or.inl e)), hk.2.2.2.1 e, if_pos rfl, q_eq_n hc (by omega), if_neg e2]
    simp only [ite_self]
end ENT
