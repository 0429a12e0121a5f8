/-! ===== the text: one token ===== -/
theorem fnd_all (f : Nat → Bool) : ∀ (d i : Nat), i ≤ fnd f d i ∧ fnd f d i ≤ i + d ∧ (fnd f d i < i + d → f (fnd f d i) = true) ∧ ∀ j, i ≤ j → j < fnd f d i → f j = false
  | 0, i => ⟨Nat.le_refl _, Nat.le_refl _, fun q => absurd q (Nat.lt_irrefl _), fun j a b => by have b' : j < i := b; omega⟩
  | d + 1, i => by
    unfold fnd
    cases hi : f i with
    | true =>
      rw [if_pos rfl]
      exact ⟨Nat.le_refl _, by omega, fun _ => hi, fun j a b => by omega⟩
    | false =>
      rw [if_neg (by decide)]
      obtain ⟨a, b, c, e⟩ := fnd_all f d (i + 1)
      refine ⟨by omega, by omega, fun q => c (by omega), fun j j1 j2 => ?_⟩
      rcases (show j = i ∨ i + 1 ≤ j by omega) with q | q
      · rw [q]; exact hi
      · exact e j q j2
def isd (c : Nat) : Bool := decide (48 ≤ c ∧ c ≤ 57)
def vA (tx : Nat → Nat) (s : Nat) : Nat → Nat
  | 0 => 0
  | i + 1 => if 100 < 10 * vA tx s i + tx (s + i) - 48 then 100 else 10 * vA tx s i + tx (s + i) - 48
def vB (tx : Nat → Nat) (s : Nat) : Nat → Nat
  | 0 => 0
  | i + 1 => if vB tx s i ≤ 99 then 10 * vB tx s i + tx (s + i) - 48 else vB tx s i
theorem vAB (tx : Nat → Nat) (s : Nat) : ∀ i, (∀ j, j < i → isd (tx (s + j)) = true) → (vA tx s i = vB tx s i ∧ vB tx s i ≤ 99) ∨ (vA tx s i = 100 ∧ 99 < vB tx s i ∧ vB tx s i ≤ 999)
  | 0, _ => Or.inl ⟨rfl, by show (0 : Nat) ≤ 99; omega⟩
  | i + 1, h => by
    have ih := vAB tx s i (fun j hj => h j (by omega))
    have hd := of_decide_eq_true (h i (by omega))
    show ((if 100 < 10 * vA tx s i + tx (s + i) - 48 then 100 else 10 * vA tx s i + tx (s + i) - 48) = (if vB tx s i ≤ 99 then 10 * vB tx s i + tx (s + i) - 48 else vB tx s i) ∧ (if vB tx s i ≤ 99 then 10 * vB tx s i + tx (s + i) - 48 else vB tx s i) ≤ 99) ∨ ((if 100 < 10 * vA tx s i + tx (s + i) - 48 then 100 else 10 * vA tx s i + tx (s + i) - 48) = 100 ∧ 99 < (if vB tx s i ≤ 99 then 10 * vB tx s i + tx (s + i) - 48 else vB tx s i) ∧ (if vB tx s i ≤ 99 then 10 * vB tx s i + tx (s + i) - 48 else vB tx s i) ≤ 999)
    rcases ih with ⟨a, b⟩ | ⟨a, b, c⟩
    · rw [if_pos b, a]
      by_cases q : 100 < 10 * vB tx s i + tx (s + i) - 48
      · rw [if_pos q]; right; omega
      · rw [if_neg q]
        by_cases q2 : 10 * vB tx s i + tx (s + i) - 48 = 100
        · right; omega
        · left; omega
    · rw [if_neg (show ¬ vB tx s i ≤ 99 by omega), a, if_pos (by omega)]
      right; omega
def t8 (kd : Nat) : Nat := if kd = 0 then 101 else if kd = 1 then 110 else if kd = 2 then 97 else if kd = 3 then 59 else if kd = 4 then 119 else 100
def t9 (kd : Nat) : Nat := if kd = 0 then 0 else if kd = 1 then 1 else if kd = 2 then 1 else if kd = 3 then 3 else if kd = 4 then 4 else 2
/-- the class has read this token -/
def Tk8 (L s q kd v : Nat) (A : Nat → Int32) (T' : TxtS) : Prop := T'.2 = A ∧ T'.1 0 = nI L ∧ T'.1 3 = nI s ∧ T'.1 4 = nI q ∧ T'.1 2 = nI (t8 kd) ∧ (kd = 5 → T'.1 5 = nI v)
/-- the reference stands on it -/
def Tk9 (s q kd v : Nat) (M M' : ModS) : Prop := M' 3 = nI q ∧ M' 5 = nI s ∧ M' 4 = nI (t9 kd) ∧ (kd = 1 → M' 6 = nI 110) ∧ (kd = 2 → M' 6 = nI 97) ∧ (kd = 5 → M' 6 = nI v) ∧ ∀ k, k ≠ 3 → k ≠ 4 → k ≠ 5 → k ≠ 6 → M' k = M k
section TOK
variable {tx : Nat → Nat} {L : Nat}
theorem isDig_eq {T : TxtS} (hL : L ≤ 120) (hc : ∀ i, i < L → tx i ≤ 255) (hT : ∀ i, i < L → T.2 i = nI (tx i)) {i : Nat} (hi : i < L) : f_X7_isDigit T (nI i) = some (nI (isd (tx i)).toNat) := by
  have := hc i hi
  unfold f_X7_isDigit
  simp only [lit, q_in (show i < 120 by omega) (show 120 < 2147483648 by omega), q_cl (show i < 2147483648 by omega)]
  rw [hT i hi, q_lt_n (by omega) (by omega), q_lt_n (by omega) (by omega)]
  unfold isd
  by_cases c1 : tx i < 48
  · rw [if_pos c1, decide_eq_false (by omega)]; rfl
  · rw [if_neg c1]
    by_cases c2 : 57 < tx i
    · rw [if_pos c2, decide_eq_false (by omega)]; rfl
    · rw [if_neg c2, decide_eq_true (by omega)]; rfl
theorem skip8 (hL : L ≤ 120) (hc : ∀ i, i < L → tx i ≤ 255) {A : Nat → Int32} (hT : ∀ i, i < L → A i = nI (tx i)) {e s : Nat} (hs : s = fnd (fun i => decide (¬ tx i = 32)) (L - e) e) (he : e ≤ L) (ke : TxtS → Option TxtS) (Q : Nat → Int32) (q0 : Q 0 = nI L) (q3 : Q 3 = nI e) : ∃ Q', k_X7_nextToken_8 ke fu (Q, A) = ke (Q', A) ∧ Q' 3 = nI s ∧ ∀ j, j ≠ 3 → Q' j = Q j := by
  obtain ⟨a, b, c, d⟩ := fnd_all (fun i => decide (¬ tx i = 32)) (L - e) e
  rw [← hs] at a b c d
  refine loop_up (fun m i (P : Nat → Int32) => k_X7_nextToken_8 ke m (P, A)) (fun i P => e ≤ i ∧ P 3 = nI i ∧ ∀ j, j ≠ 3 → P j = Q j) (fun b => ∃ Q', b = ke (Q', A) ∧ Q' 3 = nI s ∧ ∀ j, j ≠ 3 → Q' j = Q j) s ?_ ?_ (s - e) e fu Q (by omega) (by rw [fu_eq]; omega) ⟨Nat.le_refl e, q3, fun _ _ => rfl⟩
  · intro m P ⟨_, p3, pj⟩
    rw [k_X7_nextToken_8.eq_2]
    simp only [pj 0 (by decide), q0, p3]
    rw [q_le_n (by omega) (by omega)]
    by_cases c1 : L ≤ s
    · rw [if_pos c1]; exact ⟨P, rfl, p3, pj⟩
    · have hne := of_decide_eq_true (c (by omega))
      have := hc s (by omega)
      rw [if_neg c1, q_in (by omega) (by omega), q_cl (by omega), hT s (by omega)]
      simp only [lit]
      rw [q_eq_f (by omega) (by omega) (by omega)]
      exact ⟨P, rfl, p3, pj⟩
  · intro m i P hi ⟨h1, p3, pj⟩
    left
    have hsp : tx i = 32 := by
      have := d i h1 hi
      exact Classical.byContradiction fun q => by
        have q2 : decide (¬ tx i = 32) = true := decide_eq_true q
        rw [q2] at this; cases this
    rw [k_X7_nextToken_8.eq_2]
    simp only [pj 0 (by decide), q0, p3]
    rw [q_le_f (by omega) (by omega), q_in (by omega) (by omega), q_cl (by omega), hT i (by omega), hsp]
    simp only [lit, nI_add]
    rw [if_pos trivial]
    exact ⟨upd P 3 (nI (i + 1)), ⟨by omega, pk_us, fun j hj => by rw [pk_un hj]; exact pj j hj⟩, rfl⟩
theorem digs8 (hL : L ≤ 120) (hc : ∀ i, i < L → tx i ≤ 255) {A : Nat → Int32} (hT : ∀ i, i < L → A i = nI (tx i)) {s q : Nat} (hq : q = fnd (fun i => !isd (tx i)) (L - s) s) (hs : s ≤ L) (ke : TxtS → Option TxtS) (Q : Nat → Int32) (q0 : Q 0 = nI L) (q4 : Q 4 = nI s) (q5 : Q 5 = nI 0) : ∃ Q', k_X7_readDigits_5 ke fu (Q, A) = ke (Q', A) ∧ Q' 4 = nI q ∧ Q' 5 = nI (vA tx s (q - s)) ∧ ∀ j, j ≠ 4 → j ≠ 5 → Q' j = Q j := by
  obtain ⟨a, b, c, d⟩ := fnd_all (fun i => !isd (tx i)) (L - s) s
  rw [← hq] at a b c d
  have hdig : ∀ i, s ≤ i → i < q → isd (tx i) = true := fun i h1 h2 => by
    have := d i h1 h2
    cases hi : isd (tx i) with
    | true => rfl
    | false => rw [hi] at this; cases this
  refine loop_up (fun m i (P : Nat → Int32) => k_X7_readDigits_5 ke m (P, A)) (fun i P => s ≤ i ∧ P 4 = nI i ∧ P 5 = nI (vA tx s (i - s)) ∧ ∀ j, j ≠ 4 → j ≠ 5 → P j = Q j) (fun b => ∃ Q', b = ke (Q', A) ∧ Q' 4 = nI q ∧ Q' 5 = nI (vA tx s (q - s)) ∧ ∀ j, j ≠ 4 → j ≠ 5 → Q' j = Q j) q ?_ ?_ (q - s) s fu Q (by omega) (by rw [fu_eq]; omega) ⟨Nat.le_refl s, q4, by rw [Nat.sub_self]; exact q5, fun _ _ _ => rfl⟩
  · intro m P ⟨_, p4, p5, pj⟩
    rw [k_X7_readDigits_5.eq_2]
    simp only [pj 0 (by decide) (by decide), q0, p4]
    rw [q_le_n (by omega) (by omega)]
    by_cases c1 : L ≤ q
    · rw [if_pos c1]; exact ⟨P, rfl, p4, p5, pj⟩
    · have hne := c (by omega)
      rw [if_neg c1, isDig_eq (T := (P, A)) hL hc hT (by omega), Option.bind_some]
      simp only [lit]
      rw [q_b0]
      cases hi : isd (tx q) with
      | true => rw [hi] at hne; cases hne
      | false => rw [if_neg (by decide)]; exact ⟨P, rfl, p4, p5, pj⟩
  · intro m i P hi ⟨h1, p4, p5, pj⟩
    left
    have hd := hdig i h1 hi
    have hd2 := of_decide_eq_true hd
    have hv := vAB tx s (i - s) (fun j hj => hdig (s + j) (by omega) (by omega))
    have hv2 : vA tx s (i - s) ≤ 100 := by rcases hv with v | v <;> omega
    rw [k_X7_readDigits_5.eq_2]
    simp only [pj 0 (by decide) (by decide), q0, p4]
    rw [q_le_f (by omega) (by omega), isDig_eq (T := (P, A)) hL hc hT (by omega), Option.bind_some, hd]
    simp only [lit]
    rw [q_b0, if_pos rfl, q_in (by omega) (by omega), q_cl (by omega), hT i (by omega), p5, q_mul, nI_add, q_sub (by omega), q_min (by omega) (by omega), nI_add]
    refine ⟨upd (upd P 5 (nI (if 100 < 10 * vA tx s (i - s) + tx i - 48 then 100 else 10 * vA tx s (i - s) + tx i - 48))) 4 (nI (i + 1)), ⟨by omega, pk_us, ?_, fun j j4 j5 => by rw [pk_un j4, pk_un j5]; exact pj j j4 j5⟩, rfl⟩
    rw [pk_un (by decide), pk_us, show i + 1 - s = (i - s) + 1 by omega]
    show _ = nI (if 100 < 10 * vA tx s (i - s) + tx (s + (i - s)) - 48 then 100 else 10 * vA tx s (i - s) + tx (s + (i - s)) - 48)
    rw [show s + (i - s) = i by omega]
theorem letter_eq {M : ModS} {X : Nat → Int32} (hL : L ≤ 120) (hX : ∀ i, i < L → X i = nI (tx i)) (m2 : M 2 = nI L) {i : Nat} (hi : i < 2147483648) : f_X9_letterAt M X (nI i) = some (if i < L then nI (tx i) else -nI 1) := by
  unfold f_X9_letterAt
  rw [m2, q_le_n (by omega) (by omega)]
  simp only [lit]
  by_cases c : i < L
  · rw [if_neg (by omega), if_pos c, q_in (by omega) (by omega), q_cl (by omega), hX i c]
  · rw [if_pos (by omega), if_neg c]
theorem inD (c : Nat) (hc : c ≤ 255) : f_X9_in (nI c) (nI 48) (nI 57) = some (nI (isd c).toNat) := in_eq (by omega) (by omega) (by omega)
theorem inD1 : f_X9_in (-nI 1) (nI 48) (nI 57) = some (nI 0) := by decide
theorem skip9 {M : ModS} {X : Nat → Int32} (hL : L ≤ 120) (hc : ∀ i, i < L → tx i ≤ 255) (hX : ∀ i, i < L → X i = nI (tx i)) (m2 : M 2 = nI L) {e s : Nat} (hs : s = fnd (fun i => decide (¬ tx i = 32)) (L - e) e) (he : e ≤ L) (m3 : M 3 = nI e) (ke : ModS → Option ModS) : ∃ M', k_X9_advances_0 X ke fu M = ke M' ∧ M' 3 = nI s ∧ ∀ j, j ≠ 3 → M' j = M j := by
  obtain ⟨a, b, c, d⟩ := fnd_all (fun i => decide (¬ tx i = 32)) (L - e) e
  rw [← hs] at a b c d
  refine loop_up (fun m i (P : Nat → Int32) => k_X9_advances_0 X ke m P) (fun i P => e ≤ i ∧ P 3 = nI i ∧ ∀ j, j ≠ 3 → P j = M j) (fun b => ∃ M', b = ke M' ∧ M' 3 = nI s ∧ ∀ j, j ≠ 3 → M' j = M j) s ?_ ?_ (s - e) e fu M (by omega) (by rw [fu_eq]; omega) ⟨Nat.le_refl e, m3, fun _ _ => rfl⟩
  · intro m P ⟨_, p3, pj⟩
    rw [k_X9_advances_0.eq_2, p3, letter_eq hL hX ((pj 2 (by decide)).trans m2) (by omega), Option.bind_some]
    simp only [lit]
    by_cases c1 : s < L
    · have hne := of_decide_eq_true (c (by omega))
      have := hc s (by omega)
      rw [if_pos c1, q_eq_f (by omega) (by omega) (by omega)]
      exact ⟨P, rfl, p3, pj⟩
    · rw [if_neg c1, if_neg (m1_ne (by omega))]
      exact ⟨P, rfl, p3, pj⟩
  · intro m i P hi ⟨h1, p3, pj⟩
    left
    have hsp : tx i = 32 := by
      have := d i h1 hi
      exact Classical.byContradiction fun q => by
        have q2 : decide (¬ tx i = 32) = true := decide_eq_true q
        rw [q2] at this; cases this
    rw [k_X9_advances_0.eq_2, p3, letter_eq hL hX ((pj 2 (by decide)).trans m2) (by omega), Option.bind_some, if_pos (show i < L by omega), hsp]
    simp only [lit, nI_add]
    rw [if_pos trivial]
    exact ⟨upd P 3 (nI (i + 1)), ⟨by omega, pk_us, fun j hj => by rw [pk_un hj]; exact pj j hj⟩, rfl⟩
theorem digs9 {M : ModS} {X : Nat → Int32} (hL : L ≤ 120) (hc : ∀ i, i < L → tx i ≤ 255) (hX : ∀ i, i < L → X i = nI (tx i)) (m2 : M 2 = nI L) {s q : Nat} (hq : q = fnd (fun i => !isd (tx i)) (L - s) s) (hs : s ≤ L) (m3 : M 3 = nI s) (m6 : M 6 = nI 0) (x1 : Int32) (ke : ModS → Option ModS) : ∃ M', k_X9_advances_71 x1 X ke fu M = ke M' ∧ M' 3 = nI q ∧ M' 6 = nI (vB tx s (q - s)) ∧ ∀ j, j ≠ 3 → j ≠ 6 → M' j = M j := by
  obtain ⟨a, b, c, d⟩ := fnd_all (fun i => !isd (tx i)) (L - s) s
  rw [← hq] at a b c d
  have hdig : ∀ i, s ≤ i → i < q → isd (tx i) = true := fun i h1 h2 => by
    have := d i h1 h2
    cases hi : isd (tx i) with
    | true => rfl
    | false => rw [hi] at this; cases this
  refine loop_up (fun m i (P : Nat → Int32) => k_X9_advances_71 x1 X ke m P) (fun i P => s ≤ i ∧ P 3 = nI i ∧ P 6 = nI (vB tx s (i - s)) ∧ ∀ j, j ≠ 3 → j ≠ 6 → P j = M j) (fun b => ∃ M', b = ke M' ∧ M' 3 = nI q ∧ M' 6 = nI (vB tx s (q - s)) ∧ ∀ j, j ≠ 3 → j ≠ 6 → M' j = M j) q ?_ ?_ (q - s) s fu M (by omega) (by rw [fu_eq]; omega) ⟨Nat.le_refl s, m3, by rw [Nat.sub_self]; exact m6, fun _ _ _ => rfl⟩
  · intro m P ⟨_, p3, p6, pj⟩
    rw [k_X9_advances_71.eq_2, p3, letter_eq hL hX ((pj 2 (by decide) (by decide)).trans m2) (by omega), Option.bind_some]
    simp only [lit]
    by_cases c1 : q < L
    · have hne := c (by omega)
      rw [if_pos c1, inD _ (hc q c1), Option.bind_some, q_b0]
      cases hi : isd (tx q) with
      | true => rw [hi] at hne; cases hne
      | false => rw [if_neg (by decide)]; exact ⟨P, rfl, p3, p6, pj⟩
    · rw [if_neg c1, inD1, Option.bind_some, if_pos rfl]; exact ⟨P, rfl, p3, p6, pj⟩
  · intro m i P hi ⟨h1, p3, p6, pj⟩
    left
    have hd := hdig i h1 hi
    have hd2 := of_decide_eq_true hd
    have hv := vAB tx s (i - s) (fun j hj => hdig (s + j) (by omega) (by omega))
    have hv2 : vB tx s (i - s) ≤ 999 := by rcases hv with v | v <;> omega
    have e1 : vB tx s (i + 1 - s) = if vB tx s (i - s) ≤ 99 then 10 * vB tx s (i - s) + tx i - 48 else vB tx s (i - s) := by
      rw [show i + 1 - s = (i - s) + 1 by omega]
      show (if vB tx s (i - s) ≤ 99 then 10 * vB tx s (i - s) + tx (s + (i - s)) - 48 else vB tx s (i - s)) = _
      rw [show s + (i - s) = i by omega]
    rw [k_X9_advances_71.eq_2, p3, letter_eq hL hX ((pj 2 (by decide) (by decide)).trans m2) (by omega), Option.bind_some, if_pos (show i < L by omega)]
    simp only [lit]
    rw [inD _ (hc i (by omega)), Option.bind_some, hd, q_b0, if_pos rfl, p6, q_le_n (by omega) (by omega)]
    by_cases c1 : vB tx s (i - s) ≤ 99
    · rw [if_pos c1, Option.bind_some, q_mul, nI_add, q_sub (by omega), nI_add]
      refine ⟨upd (upd P 6 (nI (10 * vB tx s (i - s) + tx i - 48))) 3 (nI (i + 1)), ⟨by omega, pk_us, ?_, fun j j3 j6 => by rw [pk_un j3, pk_un j6]; exact pj j j3 j6⟩, rfl⟩
      rw [pk_un (by decide), pk_us, e1, if_pos c1]
    · rw [if_neg c1, nI_add]
      refine ⟨upd (upd P 6 (nI (vB tx s (i - s)))) 3 (nI (i + 1)), ⟨by omega, pk_us, ?_, fun j j3 j6 => by rw [pk_un j3, pk_un j6]; exact pj j j3 j6⟩, rfl⟩
      rw [pk_un (by decide), pk_us, e1, if_neg c1]
end TOK
