/-! ===== questions about items: reference against class ===== -/
theorem loop_v {β : Type} (K : Nat → Nat → β) (E : β) (N : Nat) (hN : N < 5000) (hx : ∀ m, K (m + 1) N = E) (hs : ∀ m i, i < N → K (m + 1) i = K m (i + 1)) : K fu 0 = E :=
  loop_up (fun m i (_ : Unit) => K m i) (fun _ _ => True) (fun b => b = E) N (fun m _ _ => hx m) (fun m i _ hi _ => Or.inl ⟨(), trivial, hs m i hi⟩) N 0 fu () (by omega) (by rw [fu_eq]; exact hN) trivial
def bI (o : Nat → Nat) (A : Nat) : Nat → Nat
  | 0 => A
  | k + 1 => bI o A k ||| (if (bI o A k).testBit k then o k else 0)
def bO (n : Nat) (o : Nat → Nat) (A : Nat) : Nat → Nat
  | 0 => A
  | r + 1 => bI o (bO n o A r) n
theorem bI_mono {o : Nat → Nat} {A x : Nat} (h : A.testBit x = true) : ∀ k, (bI o A k).testBit x = true
  | 0 => h
  | k + 1 => or_bit.mpr (Or.inl (bI_mono h k))
theorem bI_step {o : Nat → Nat} {A x y : Nat} (h : A.testBit y = true) (hx : (o y).testBit x = true) : ∀ k, y < k → (bI o A k).testBit x = true
  | 0, q => absurd q (Nat.not_lt_zero _)
  | k + 1, q => by
    rcases (show y < k ∨ y = k by omega) with c | c
    · exact or_bit.mpr (Or.inl (bI_step h hx k c))
    · subst c
      refine or_bit.mpr (Or.inr ?_)
      rw [if_pos (bI_mono h y)]; exact hx
theorem bI_snd {o : Nat → Nat} {n A : Nat} (P : Nat → Prop) (hA : ∀ x, A.testBit x = true → P x) (hs : ∀ y x, y < n → P y → (o y).testBit x = true → P x) : ∀ k, k ≤ n → ∀ x, (bI o A k).testBit x = true → P x
  | 0, _, x, q => hA x q
  | k + 1, hk, x, q => by
    rcases or_bit.mp q with c | c
    · exact bI_snd P hA hs k (by omega) x c
    · cases hb : (bI o A k).testBit k with
      | false => rw [hb] at c; simp at c
      | true =>
        rw [hb, if_pos rfl] at c
        exact hs k x (by omega) (bI_snd P hA hs k (by omega) k hb) c
theorem bO_snd {o : Nat → Nat} {n A : Nat} (P : Nat → Prop) (hA : ∀ x, A.testBit x = true → P x) (hs : ∀ y x, y < n → P y → (o y).testBit x = true → P x) : ∀ r x, (bO n o A r).testBit x = true → P x
  | 0, x, q => hA x q
  | r + 1, x, q => bI_snd P (bO_snd P hA hs r) hs n (Nat.le_refl n) x q
theorem bO_cmp {n : Nat} {o : Nat → Nat} {u : Nat} : ∀ r k x, k ≤ r → pth n o (k + 1) u x → (bO n o (o u) r).testBit x = true
  | 0, k, x, hk, h => by
    have : k = 0 := by omega
    subst this
    obtain ⟨z, a, e⟩ := h
    cases e
    exact a.2.2
  | r + 1, k, x, hk, h => by
    rcases (show k ≤ r ∨ k = r + 1 by omega) with c | c
    · exact bI_mono (bO_cmp r k x c h) n
    · subst c
      obtain ⟨z, p, a⟩ := pth_last (r + 1) u x h
      exact bI_step (bO_cmp r r z (Nat.le_refl r) p) a.2.2 n a.1
section ASK
variable {n : Nat} {o pl od : Nat → Nat}
theorem beh_pth (h : Good n o pl od) {u x : Nat} : (beh n o u).testBit x = true ↔ x < n ∧ ∃ k, pth n o (k + 1) u x := by
  rw [beh_bit]
  constructor
  · intro ⟨a, ⟨k, b⟩, c⟩
    cases k with
    | zero => exact absurd b (Ne.symm c)
    | succ k => exact ⟨a, k, b⟩
  · intro ⟨a, k, b⟩
    refine ⟨a, ⟨k + 1, b⟩, fun e => ?_⟩
    have := h.2.2.2.2.pth (k + 1) u x b
    rw [e] at this; omega
theorem o_lt (h : Good n o pl od) {y x : Nat} (hy : y < n) (hb : (o y).testBit x = true) : x < n := by
  rcases Nat.lt_or_ge x n with c | c
  · exact c
  · rw [bits_of_lt (h.2.1 y hy) c] at hb; cases hb
theorem bO_eq (h : Good n o pl od) {u : Nat} (hu : u < n) : bO n o (o u) n = beh n o u := by
  apply eq_bits2
  intro x
  rw [beh_pth h]
  constructor
  · intro q
    refine bO_snd (n := n) (fun x => x < n ∧ ∃ k, pth n o (k + 1) u x) ?_ ?_ n x q
    · intro x hx
      have := o_lt h hu hx
      exact ⟨this, 0, x, ⟨hu, this, hx⟩, rfl⟩
    · intro y x hy ⟨_, k, p⟩ hx
      have := o_lt h hy hx
      exact ⟨this, k + 1, pth_snoc (k + 1) u y x p ⟨hy, this, hx⟩⟩
  · intro ⟨a, k, p⟩
    have := h.2.2.2.2.pth (k + 1) u x p
    have := (h.2.2.1 x a).1
    exact bO_cmp n k x (by omega) p
theorem bO_lt (h : Good n o pl od) {u : Nat} (hu : u < n) (r : Nat) : bO n o (o u) r < 2 ^ n := lt_of_bits fun i hi => by
  cases hb : (bO n o (o u) r).testBit i with
  | false => rfl
  | true =>
    have := bO_snd (n := n) (fun x => x < n) (fun x hx => o_lt h hu hx) (fun y x hy _ hx => o_lt h hy hx) r i hb
    omega
theorem bI_lt (h : Good n o pl od) {A : Nat} (hA : A < 2 ^ n) {k : Nat} (hk : k ≤ n) : bI o A k < 2 ^ n := lt_of_bits fun i hi => by
  cases hb : (bI o A k).testBit i with
  | false => rfl
  | true =>
    have := bI_snd (n := n) (fun x => x < n) (fun x hx => by
      rcases Nat.lt_or_ge x n with c | c
      · exact c
      · rw [bits_of_lt hA c] at hx; cases hx) (fun y x hy _ hx => o_lt h hy hx) k hk i hb
    omega
variable {M : ModS} {S : Nat → Int32}
theorem behind_eq (h : Good n o pl od) (hS : RefR S n o pl) (m8 : M 8 = nI n) {u : Nat} (hu : u < n) : f_X9_behind M S (nI u) = some (nI (beh n o u)) := by
  have hn := h.1.2
  have inner : ∀ (A : Nat) (x3 : Int32) (ke : Int32 → Option Int32), A < 2 ^ n → k_X9_behind_22 x3 M S ke fu (nI A) (nI 0) = ke (nI (bI o A n)) := by
    intro A x3 ke hA
    refine loop_v (fun m i => k_X9_behind_22 x3 M S ke m (nI (bI o A i)) (nI i)) _ n (by omega) ?_ ?_
    · intro m
      rw [k_X9_behind_22.eq_2, m8, q_le_t (by omega) (by omega)]
    · intro m i hi
      have hl := lt_4096 (bI_lt h hA (show i ≤ n by omega)) hn
      rw [k_X9_behind_22.eq_2, m8, q_le_f (by omega) (by omega), h9_eq (by omega) (by omega)]
      simp only [lit, Option.bind_some, q_b0, nI_add, Nat.zero_add]
      rw [q_in (by omega) (by omega), q_cl (by omega), (hS i hi).1, q_or, q_or]
      show _ = k_X9_behind_22 _ _ _ _ m (nI (bI o A i ||| _)) _
      cases (bI o A i).testBit i <;> rfl
  unfold f_X9_behind
  simp only [lit]
  rw [nI_add, Nat.zero_add, q_in (by omega) (by omega), q_cl (by omega), (hS u hu).1, ← bO_eq h hu]
  refine loop_v (fun m i => k_X9_behind_11 M S (fun x => some x) m (nI (bO n o (o u) i)) (nI i)) _ n (by omega) ?_ ?_
  · intro m
    rw [k_X9_behind_11.eq_2, m8, q_le_t (by omega) (by omega)]
  · intro m i hi
    rw [k_X9_behind_11.eq_2, m8, q_le_f (by omega) (by omega)]
    simp only [lit, nI_add]
    rw [inner _ _ _ (bO_lt h hu i)]
    rfl
theorem ahead_eq (h : Good n o pl od) (hS : RefR S n o pl) (m8 : M 8 = nI n) {u : Nat} (hu : u < n) : f_X9_ahead M S (nI u) = some (nI (ahd n o u)) := by
  have hn := h.1.2
  have e : ahd n o u = msk (fun k => (beh n o k).testBit u) n := by
    refine eq_msk (ahd_lt u) (fun i hi => ?_)
    cases hb : (beh n o i).testBit u with
    | true =>
      have := beh_bit.mp hb
      exact ahd_bit.mpr ⟨hi, this.2.1, Ne.symm this.2.2⟩
    | false =>
      cases ha : (ahd n o u).testBit i with
      | false => rfl
      | true =>
        have := ahd_bit.mp ha
        rw [beh_bit.mpr ⟨hu, this.2.1, Ne.symm this.2.2⟩] at hb; cases hb
  unfold f_X9_ahead
  rw [e]
  simp only [lit]
  refine loop_v (fun m i => k_X9_ahead_4 (nI u) M S (fun x => some x) m (nI (msk (fun k => (beh n o k).testBit u) i)) (nI i)) _ n (by omega) ?_ ?_
  · intro m
    rw [k_X9_ahead_4.eq_2, m8, q_le_t (by omega) (by omega)]
  · intro m i hi
    have hl := lt_4096 (beh_lt (n := n) (o := o) i) hn
    rw [k_X9_ahead_4.eq_2, m8, q_le_f (by omega) (by omega), behind_eq h hS m8 hi, Option.bind_some, h9_eq (by omega) (by omega)]
    simp only [lit, Option.bind_some, q_b0, nI_add]
    rw [q_sh (k := i) (by omega), q_or, q_or]
    show _ = k_X9_ahead_4 _ _ _ _ m (nI (msk (fun k => (beh n o k).testBit u) i ||| _)) _
    dsimp only
    by_cases c : (beh n o i).testBit u = true
    · rw [if_pos c, if_pos c]
    · rw [if_neg c, if_neg c]
theorem into_eq (h : Good n o pl od) (hS : RefR S n o pl) (m8 : M 8 = nI n) {u : Nat} (hu : u < 31) : f_X9_into M S (nI u) = some (nI (tr n o u)) := by
  have hn := h.1.2
  unfold f_X9_into
  simp only [lit]
  refine loop_v (fun m i => k_X9_into_4 (nI u) M S (fun x => some x) m (nI (msk (fun k => (o k).testBit u) i)) (nI i)) _ n (by omega) ?_ ?_
  · intro m
    rw [k_X9_into_4.eq_2, m8, q_le_t (by omega) (by omega)]
    rfl
  · intro m i hi
    have hl := h.olt hi
    rw [k_X9_into_4.eq_2, m8, q_le_f (by omega) (by omega)]
    simp only [lit, nI_add, Nat.zero_add]
    rw [q_in (by omega) (by omega), q_cl (by omega), (hS i hi).1, h9_eq (by omega) (by omega)]
    simp only [lit, Option.bind_some, q_b0, nI_add]
    rw [q_sh (k := i) (by omega), q_or, q_or]
    show _ = k_X9_into_4 _ _ _ _ m (nI (msk (fun k => (o k).testBit u) i ||| _)) _
    dsimp only
    by_cases c : (o i).testBit u = true
    · rw [if_pos c, if_pos c]
    · rw [if_neg c, if_neg c]
theorem arcs_eq (h : Good n o pl od) (hS : RefR S n o pl) (m8 : M 8 = nI n) : f_X9_arcs M S = some (nI (sumN (fun u => pc (o u)) n)) := by
  have hn := h.1.2
  unfold f_X9_arcs
  simp only [lit]
  refine loop_v (fun m i => k_X9_arcs_4 M S (fun x => some x) m (nI (sumN (fun u => pc (o u)) i)) (nI i)) _ n (by omega) ?_ ?_
  · intro m
    rw [k_X9_arcs_4.eq_2, m8, q_le_t (by omega) (by omega)]
  · intro m i hi
    have hl := h.olt hi
    rw [k_X9_arcs_4.eq_2, m8, q_le_f (by omega) (by omega)]
    simp only [lit, nI_add, Nat.zero_add]
    rw [q_in (by omega) (by omega), q_cl (by omega), (hS i hi).1, on_eq hl, Option.bind_some, nI_add]
    rfl
theorem u0_8 : (upd M 0 (nI 0)) 8 = M 8 := pk_un (by decide)
theorem nneg {x : Int32} (h : ¬ x < nI 0) : ∃ j, j < 2147483648 ∧ x = nI j := nI_of h
theorem neg_ne {x : Int32} (h : x < nI 0) (k : Nat) (hk : k < 2147483648) : ¬ x = nI k := fun e => by
  rw [e, q_lt hk (by omega)] at h; omega
theorem item_eq {N : NetS} (hN : NetR N n o pl od) (h : Good n o pl od) (hS : RefR S n o pl) (m8 : M 8 = nI n) (x y : Int32) : ∃ r, f_X8_item N x y = some r ∧ f_X9_item M S x y = some (r, upd M 0 (nI 0)) := by
  have hn := h.1.2
  unfold f_X8_item f_X9_item
  simp only [lit]
  rw [isItem_eq hN.1, isItem9_eq (n := n) (by rw [u0_8]; exact m8) h.1.1 hn]
  simp only [Option.bind_some, q_b0]
  cases hi : isI n x with
  | false => exact ⟨_, rfl, rfl⟩
  | true =>
    obtain ⟨u, hu, rfl⟩ := isI_t hi hn
    simp only [if_true]
    have la := lt_4096 (ahd_lt (n := n) (o := o) u) hn
    have lb := lt_4096 (beh_lt (n := n) (o := o) u) hn
    by_cases c : y < nI 0
    · unfold f_X9_in
      rw [if_pos c]
      simp only [lit, Option.bind_some, neg_ne c 0 (by omega), neg_ne c 1 (by omega), neg_ne c 2 (by omega), neg_ne c 3 (by omega), neg_ne c 4 (by omega), neg_ne c 5 (by omega), neg_ne c 6 (by omega), if_false, if_true]
      exact ⟨_, rfl, rfl⟩
    · obtain ⟨j, hj, rfl⟩ := nneg c
      rw [in_eq (by omega) (by omega) (by omega)]
      simp only [Option.bind_some, q_b0]
      by_cases c2 : j ≤ 6
      · rw [decide_eq_true (by omega)]
        simp only [if_true]
        rw [q_in (show u < 12 by omega) (by omega), q_in (show u < 12 by omega) (by omega), q_in (show u < 12 by omega) (by omega), allAheadOf_eq hN h hu, allBehind_eq hN h hu, behind_eq h hS (by rw [u0_8]; exact m8) hu, ahead_eq h hS (by rw [u0_8]; exact m8) hu, into_eq h hS (by rw [u0_8]; exact m8) (by omega)]
        simp only [Option.bind_some, nI_add, Nat.zero_add, q_in (show 12 + u < 24 by omega) (show 24 < 2147483648 by omega), q_in (show u < 24 by omega) (show 24 < 2147483648 by omega), q_cl (show 12 + u < 2147483648 by omega), q_cl (show u < 2147483648 by omega), (hS u hu).1, (hS u hu).2, hN.2.2.1 u hu, hN.2.2.2.1 u hu, hN.2.2.2.2.2 u hu, bc_eq la, bc_eq lb, on_eq la, on_eq lb, hN.1, m8]
        rcases (show j = 0 ∨ j = 1 ∨ j = 2 ∨ j = 3 ∨ j = 4 ∨ j = 5 ∨ j = 6 by omega) with e | e | e | e | e | e | e <;> subst e <;> exact ⟨_, rfl, rfl⟩
      · rw [decide_eq_false (by omega)]
        rw [q_eq_f (by omega) (by omega) (by omega), q_eq_f (by omega) (by omega) (by omega), q_eq_f (by omega) (by omega) (by omega), q_eq_f (by omega) (by omega) (by omega), q_eq_f (by omega) (by omega) (by omega), q_eq_f (by omega) (by omega) (by omega), q_eq_f (by omega) (by omega) (by omega)]
        exact ⟨_, rfl, rfl⟩
theorem at_eq {N : NetS} (hN : NetR N n o pl od) (h : Good n o pl od) (hS : RefR S n o pl) (m8 : M 8 = nI n) (x : Int32) : ∃ r, f_X8_at N x = some r ∧ f_X9_at M S x = some (r, upd M 0 (nI 0)) := by
  have hn := h.1.2
  unfold f_X8_at f_X9_at
  simp only [lit]
  rw [isItem_eq hN.1, isItem9_eq (n := n) (by rw [u0_8]; exact m8) h.1.1 hn]
  simp only [Option.bind_some, q_b0]
  cases hi : isI n x with
  | false => exact ⟨_, rfl, rfl⟩
  | true =>
    obtain ⟨p, hp, rfl⟩ := isI_t hi hn
    simp only [if_true]
    rw [q_in (by omega) (by omega), q_cl (by omega), hN.2.2.2.2.1 p hp, itemAt_eq h hS hp, Option.bind_some]
    exact ⟨_, rfl, rfl⟩
end ASK
