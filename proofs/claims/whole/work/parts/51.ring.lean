/-! ===== the ring that an arc would close ===== -/
theorem q_min {a b : Nat} (ha : a < 2147483648) (hb : b < 2147483648) : imin (nI a) (nI b) = nI (if b < a then b else a) := by
  unfold imin
  rw [q_lt_n hb ha]
  split <;> rfl
theorem q_max {a b : Nat} (ha : a < 2147483648) (hb : b < 2147483648) : imax (nI a) (nI b) = nI (if a < b then b else a) := by
  unfold imax
  rw [q_lt_n ha hb]
  split <;> rfl
theorem fill_eq {ln : Nat} (hl : ln < 5000) (A : Nat → Int32) (v : Int32) : ∃ A', f_J7_fill_53178 ln A v = some A' ∧ ∀ k, k < ln → A' k = v := by
  unfold f_J7_fill_53178
  simp only [lit]
  obtain ⟨A', hA, e⟩ := loop_e (fun m i (s : Nat → Int32) => k_J7_fill_53178_5 ln v (nI ln) (fun A0_1 => some A0_1) m (nI i) s) (fun s => some s) (fun i s => ∀ k, k < i → s k = v) ln A hl (fun _ q => absurd q (Nat.not_lt_zero _))
    (by intro m s _; rw [k_J7_fill_53178_5.eq_2, q_le_t (by omega) (by omega)])
    (by
      intro m i s hi hs
      rw [k_J7_fill_53178_5.eq_2, q_le_f (by omega) (by omega), q_in (by omega) (by omega), q_cl (by omega)]
      simp only [lit, nI_add]
      refine ⟨upd s i v, fun k hk => ?_, rfl⟩
      rcases (show k < i ∨ k = i by omega) with q | q
      · rw [pk_un (by omega)]; exact hs k q
      · subst q; rw [pk_us])
  exact ⟨A', e, hA⟩
theorem fnd_none (f : Nat → Bool) : ∀ (d i : Nat), (∀ j, i ≤ j → j < i + d → f j = false) → fnd f d i = i + d
  | 0, i, _ => rfl
  | d + 1, i, h => by
    unfold fnd
    rw [h i (by omega) (by omega), if_neg (by decide), fnd_none f d (i + 1) (fun j a b => h j (by omega) (by omega))]
    omega
section RNG
variable {n : Nat} {o pl od : Nat → Nat} {N : NetS} {M : ModS} {S : Nat → Int32}
/-- how far u is, by arcs; 12 where there is no way -/
noncomputable def du (n : Nat) (o : Nat → Nat) (u x : Nat) : Nat := fnd (fun k => dc (pth n o k x u)) 12 0
theorem du_r (h : Good n o pl od) {u x k : Nat} (hx : x < n) (p : pth n o k x u) : pth n o (du n o u x) x u ∧ du n o u x < n ∧ du n o u x ≤ k := by
  have hn := h.1.2
  have := h.2.2.2.2.pth k x u p
  have := (h.2.2.1 u (Rch.lt ⟨k, p⟩ hx)).1
  obtain ⟨_, b, c, _⟩ := fnd_spec (fun k => dc (pth n o k x u)) 12 0 k (by omega) (by omega) (dc_t p)
  have b' : du n o u x ≤ k := b
  exact ⟨dc_iff.mp c, by omega, b'⟩
theorem du_n {u x : Nat} (hp : ∀ k, ¬ pth n o k x u) : du n o u x = 12 := fnd_none _ 12 0 (fun j _ _ => dc_f (hp j))
theorem du_le (h : Good n o pl od) {u x : Nat} (hx : x < n) : du n o u x ≤ 12 := by
  by_cases c : ∃ k, pth n o k x u
  · obtain ⟨k, p⟩ := c
    have := (du_r h hx p).2.1
    have := h.1.2
    omega
  · rw [du_n (fun k p => c ⟨k, p⟩)]; omega
theorem du_lt (h : Good n o pl od) {u x : Nat} (hx : x < n) (hd : du n o u x < 12) : pth n o (du n o u x) x u := by
  by_cases c : ∃ k, pth n o k x u
  · obtain ⟨k, p⟩ := c
    exact (du_r h hx p).1
  · rw [du_n (fun k p => c ⟨k, p⟩)] at hd; omega
theorem du_0 (h : Good n o pl od) {u : Nat} (hu : u < n) : du n o u u = 0 := by
  have := (du_r h hu (k := 0) (u := u) rfl).2.2
  omega
theorem du_z (h : Good n o pl od) {u x : Nat} (hx : x < n) (hd : du n o u x = 0) : x = u := by
  have := du_lt h (u := u) hx (by omega)
  rw [hd] at this
  exact this
theorem du_next (h : Good n o pl od) {u x d : Nat} (hx : x < n) (hd : du n o u x = d + 1) (hl : d + 1 < 12) : ∃ z, arc n o x z ∧ du n o u z = d := by
  have p := du_lt h (u := u) hx (by omega)
  rw [hd] at p
  obtain ⟨z, a, p2⟩ := p
  have q := du_r h a.2.1 p2
  refine ⟨z, a, ?_⟩
  have := (du_r h hx (k := du n o u z + 1) (u := u) ⟨z, a, q.1⟩).2.2
  omega
theorem du_step (h : Good n o pl od) {u x z : Nat} (a : arc n o x z) : du n o u x ≤ du n o u z + 1 := by
  by_cases c : du n o u z < 12
  · exact (du_r h a.1 (k := du n o u z + 1) (u := u) ⟨z, a, du_lt h a.2.1 c⟩).2.2
  · have := du_le h (u := u) a.1
    omega
set_option maxHeartbeats 1000000 in
theorem measure_eq (hN : NetR N n o pl od) (h : Good n o pl od) {u : Nat} (hu : u < n) (R : LapS) : ∃ T, f_X2_measure R N (nI u) = some (R.1, R.2.1, T) ∧ ∀ x, x < n → T x = nI (du n o u x) := by
  have hn := h.1.2
  have hpu := (h.2.2.1 u hu).1
  obtain ⟨A, eA, hA⟩ := fill_eq (ln := 12) (by omega) R.2.2 (nI 12)
  unfold f_X2_measure
  simp only [lit]
  rw [eA, Option.bind_some]
  simp only [q_in (show u < 12 by omega) (show 12 < 2147483648 by omega), q_cl (show u < 2147483648 by omega)]
  rw [hN.2.2.2.2.2 u hu]
  have inner : ∀ (x : Nat) (x3 : Int32) (ke : LapS → Option LapS) (T : Nat → Int32), x < n → pl x < pl u → T x = nI 12 → (∀ y, y < n → pl x < pl y → T y = nI (du n o u y)) → ∃ T', k_X2_measure_40 x3 (nI x) N ke fu (nI 0) (R.1, R.2.1, T) = ke (R.1, R.2.1, T') ∧ (∀ k, k ≠ x → T' k = T k) ∧ T' x = nI (du n o u x) := by
    intro x x3 ke T hx hxu h12 hT
    obtain ⟨T', ⟨a, c, b1, b2, b3, b4⟩, e⟩ := loop_e (fun m i (T : Nat → Int32) => k_X2_measure_40 x3 (nI x) N ke m (nI i) (R.1, R.2.1, T)) (fun T => ke (R.1, R.2.1, T))
      (fun i T' => (∀ k, k ≠ x → T' k = T k) ∧ ∃ c, T' x = nI c ∧ c ≤ 12 ∧ (c = 12 ∨ pth n o c x u) ∧ ∀ z, z < i → arc n o x z → c ≤ du n o u z + 1) n T (by omega)
      ⟨fun _ _ => rfl, 12, h12, by omega, Or.inl rfl, fun _ q => absurd q (Nat.not_lt_zero _)⟩
      (by intro m T' _; rw [k_X2_measure_40.eq_2, hN.1, q_le_t (by omega) (by omega)])
      (by
        intro m i T' hi ⟨a, c, b1, b2, b3, b4⟩
        rw [k_X2_measure_40.eq_2, hN.1, q_le_f (by omega) (by omega), has_eq hN h hx hi]
        simp only [lit, Option.bind_some, q_b0, nI_add]
        cases hb : (o x).testBit i with
        | false =>
          rw [if_neg (by decide)]
          refine ⟨T', ⟨a, c, b1, b2, b3, fun z hz az => ?_⟩, rfl⟩
          rcases (show z < i ∨ z = i by omega) with q | q
          · exact b4 z q az
          · subst q; rw [az.2.2] at hb; cases hb
        | true =>
          have ai : arc n o x i := ⟨hx, hi, hb⟩
          have hlt := h.2.2.2.2 x i ai
          have hne : i ≠ x := fun e => by rw [e] at hlt; omega
          have hdi := du_le h (u := u) hi
          rw [if_pos rfl]
          simp only [q_in (show x < 12 by omega) (show 12 < 2147483648 by omega), q_in (show i < 12 by omega) (show 12 < 2147483648 by omega), q_cl (show x < 2147483648 by omega), q_cl (show i < 2147483648 by omega)]
          rw [b1, a i hne, hT i hi hlt, nI_add, q_min (by omega) (by omega)]
          refine ⟨upd T' x (nI (if du n o u i + 1 < c then du n o u i + 1 else c)), ⟨fun k hk => by rw [pk_un hk]; exact a k hk, _, pk_us, ?_, ?_, fun z hz az => ?_⟩, rfl⟩
          · split <;> omega
          · split
            · exact Or.inr ⟨i, ai, du_lt h hi (by omega)⟩
            · exact b3
          · rcases (show z < i ∨ z = i by omega) with q | q
            · have := b4 z q az
              split <;> omega
            · subst q
              split <;> omega)
    refine ⟨T', e, a, ?_⟩
    rw [b1]
    congr 1
    by_cases c0 : ∃ k, pth n o k x u
    · obtain ⟨k, p⟩ := c0
      obtain ⟨p2, q1, q2⟩ := du_r h hx p
      cases hd : du n o u x with
      | zero =>
        have e := du_z h hx hd
        rw [e] at hxu; omega
      | succ d =>
        obtain ⟨z, az, dz⟩ := du_next h hx hd (by omega)
        have := b4 z az.2.1 az
        rcases b3 with q | q
        · omega
        · have := (du_r h hx q).2.2
          omega
    · rw [du_n (fun k p => c0 ⟨k, p⟩)]
      rcases b3 with q | q
      · exact q
      · exact absurd ⟨c, q⟩ c0
  have := loop_dn (fun m i (T : Nat → Int32) => k_X2_measure_25 N (fun Rr_4 => some Rr_4) m (dI i) (R.1, R.2.1, T)) (fun i T => i ≤ pl u ∧ (∀ x, x < n → i ≤ pl x → T x = nI (du n o u x)) ∧ (∀ x, x < n → pl x < i → T x = nI 12))
    (fun b => ∃ T, b = some (R.1, R.2.1, T) ∧ ∀ x, x < n → T x = nI (du n o u x)) 0 ?_ ?_ (pl u) fu (upd A u (nI 0)) (by rw [fu_eq]; omega) ⟨by omega, fun x hx hp => ?_, fun x hx hp => ?_⟩
  · try dsimp only at this
    rw [Nat.zero_add] at this
    exact this
  · intro m T ⟨_, a, _⟩
    try dsimp only
    rw [k_X2_measure_25.eq_2]
    simp only [lit]
    rw [dI_lt_t (by omega) (by omega)]
    exact ⟨T, rfl, fun x hx => a x hx (by omega)⟩
  · intro m i T _ ⟨a1, a2, a3⟩
    try dsimp only
    left
    have hop := h.2.2.2.1 i (by omega)
    rw [k_X2_measure_25.eq_2]
    simp only [lit]
    rw [dI_lt_f (by omega) (by omega), dI_s, q_in (by omega) (by omega), q_cl (by omega), hN.2.2.2.2.1 i (by omega)]
    obtain ⟨T', e, b1, b2⟩ := inner (od i) (nI i) (fun Rr_3 => k_X2_measure_25 N (fun Rr_4 => some Rr_4) m (nI i + -nI 1) Rr_3) T hop.1 (by rw [hop.2]; omega) (a3 _ hop.1 (by rw [hop.2]; omega)) (fun y hy hp => a2 y hy (by rw [hop.2] at hp; omega))
    refine ⟨T', ⟨by omega, fun x hx hp => ?_, fun x hx hp => ?_⟩, ?_⟩
    · by_cases q : x = od i
      · subst q; exact b2
      · rw [b1 x q]
        refine a2 x hx ?_
        rcases (show i < pl x ∨ pl x = i by omega) with q2 | q2
        · omega
        · exact absurd (h.pinj hx hop.1 (by rw [q2, hop.2])) q
    · rw [b1 x (fun e => by rw [e, hop.2] at hp; omega)]
      exact a3 x hx (by omega)
    · rw [e, dI_m]
  · rw [Nat.zero_add] at hp
    by_cases q : x = u
    · subst q; rw [pk_us, du_0 h hx]
    · rw [pk_un q, hA x (by omega), du_n (fun k p => ?_)]
      have := h.2.2.2.2.pth k x u p
      have : k = 0 := by omega
      subst this
      exact q p
  · rw [Nat.zero_add] at hp
    rw [pk_un (fun e => by rw [e] at hp; omega)]
    exact hA x (by omega)
/-- the next one on the way -/
noncomputable def nxt (n : Nat) (o : Nat → Nat) (u x t : Nat) : Nat := fnd (fun j => (o x).testBit j && decide (du n o u j = t)) n 0
theorem nxt_ok (h : Good n o pl od) {u x t : Nat} (hx : x < n) (hd : du n o u x = t + 1) (hl : t + 1 < 12) : nxt n o u x t < n ∧ ((o x).testBit (nxt n o u x t) && decide (du n o u (nxt n o u x t) = t)) = true ∧ ∀ j, j < nxt n o u x t → ((o x).testBit j && decide (du n o u j = t)) = false := by
  obtain ⟨z, a, dz⟩ := du_next h hx hd hl
  have hz := a.2.1
  obtain ⟨_, b, c, d⟩ := fnd_spec (fun j => (o x).testBit j && decide (du n o u j = t)) n 0 z (by omega) (by omega) (by rw [a.2.2, decide_eq_true dz]; rfl)
  exact ⟨Nat.lt_of_le_of_lt b hz, c, fun j hj => d j (by omega) hj⟩
theorem lowest_eq (hN : NetR N n o pl od) (h : Good n o pl od) {u x t : Nat} {R : LapS} (hR : ∀ y, y < n → R.2.2 y = nI (du n o u y)) (hx : x < n) (hd : du n o u x = t + 1) (hl : t + 1 < 12) : f_X2_lowestNext R N (nI x) (nI t) = some (nI (nxt n o u x t)) := by
  have hn := h.1.2
  obtain ⟨a, b, c⟩ := nxt_ok h hx hd hl
  unfold f_X2_lowestNext
  simp only [lit]
  have st : ∀ (m i : Nat) (ke : Option Int32), i < n → k_X2_lowestNext_3 (nI x) (nI t) R N ke (m + 1) (nI i) = if ((o x).testBit i && decide (du n o u i = t)) = true then some (nI i) else k_X2_lowestNext_3 (nI x) (nI t) R N ke m (nI (i + 1)) := by
    intro m i ke hi
    have hdi := du_le h (u := u) hi
    rw [k_X2_lowestNext_3.eq_2, hN.1, q_le_f (by omega) (by omega), has_eq hN h hx hi]
    simp only [lit, Option.bind_some, q_b0, nI_add]
    rw [q_in (by omega) (by omega), q_cl (by omega), hR i hi, q_eq_n (by omega) (by omega)]
    cases (o x).testBit i with
    | false => rfl
    | true =>
      rw [if_pos rfl]
      by_cases q : du n o u i = t
      · rw [if_pos q, decide_eq_true q]; rfl
      · rw [if_neg q, decide_eq_false q]; rfl
  refine loop_v (fun m i => k_X2_lowestNext_3 (nI x) (nI t) R N (some (nI x)) m (nI i)) _ (nxt n o u x t) (by omega) ?_ ?_
  · intro m
    rw [st m _ _ a, if_pos b]
  · intro m i hi
    rw [st m i _ (by omega), c i hi, if_neg (by decide)]
noncomputable def wq (n : Nat) (o : Nat → Nat) (u v : Nat) : Nat → Nat
  | 0 => v
  | i + 1 => nxt n o u (wq n o u v i) (du n o u v - i - 1)
theorem wq_ok (h : Good n o pl od) {u v : Nat} (hv : v < n) (hl : du n o u v < 12) : ∀ i, i ≤ du n o u v → wq n o u v i < n ∧ du n o u (wq n o u v i) = du n o u v - i
  | 0, _ => ⟨hv, rfl⟩
  | i + 1, hi => by
    obtain ⟨a, b⟩ := wq_ok h hv hl i (by omega)
    obtain ⟨c, d, _⟩ := nxt_ok h (u := u) (t := du n o u v - i - 1) a (by omega) (by omega)
    rw [Bool.and_eq_true, decide_eq_true_iff] at d
    exact ⟨c, by rw [show du n o u v - (i + 1) = du n o u v - i - 1 by omega]; exact d.2⟩
theorem trace_eq (hN : NetR N n o pl od) (h : Good n o pl od) {u v : Nat} (hu : u < n) (hv : v < n) (hl : du n o u v < 12) (R : LapS) : ∃ R', f_X2_trace R N (nI u) (nI v) = some R' ∧ R'.1 = nI (du n o u v + 1) ∧ ∀ i, i ≤ du n o u v → R'.2.1 i = nI (wq n o u v i) := by
  have hn := h.1.2
  obtain ⟨T, e, hT⟩ := measure_eq hN h hu R
  unfold f_X2_trace
  rw [e, Option.bind_some]
  simp only [lit]
  rw [q_in (by omega) (by omega), q_in (by omega) (by omega)]
  simp only [q_cl (show v < 2147483648 by omega), q_cl (show 0 < 2147483648 by omega)]
  rw [hT v hv]
  obtain ⟨R', hR, e2⟩ := loop_up (fun m i (Q : Nat → Int32) => k_X2_trace_29 N (fun Rr_3 => some Rr_3) m (nI (wq n o u v i)) (nI (du n o u v - i)) (nI (i + 1), Q, T)) (fun i Q => ∀ j, j ≤ i → Q j = nI (wq n o u v j)) (fun b => ∃ Q, (∀ j, j ≤ du n o u v → Q j = nI (wq n o u v j)) ∧ b = some (nI (du n o u v + 1), Q, T)) (du n o u v)
    (by
      intro m Q hQ
      rw [k_X2_trace_29.eq_2]
      simp only [lit]
      rw [Nat.sub_self, q_le_t (by omega) (by omega)]
      exact ⟨Q, hQ, rfl⟩)
    (by
      intro m i Q hi hQ
      left
      obtain ⟨a, b⟩ := wq_ok h hv hl i (by omega)
      rw [k_X2_trace_29.eq_2]
      simp only [lit]
      rw [q_le_f (by omega) (by omega), q_le_f (by omega) (by omega), q_sub (by omega), lowest_eq hN h (R := (nI (i + 1), Q, T)) hT a (by omega) (by omega), Option.bind_some]
      simp only [nI_add]
      rw [q_in (by omega) (by omega), q_cl (by omega), q_m1 (by omega)]
      refine ⟨upd Q (i + 1) (nI (wq n o u v (i + 1))), fun j hj => ?_, ?_⟩
      · rcases (show j ≤ i ∨ j = i + 1 by omega) with q | q
        · rw [pk_un (by omega)]; exact hQ j q
        · subst q; rw [pk_us]
      · rw [show du n o u v - (i + 1) = du n o u v - i - 1 by omega]; rfl)
    (du n o u v) 0 fu (upd R.2.1 0 (nI v)) (by omega) (by rw [fu_eq]; omega) (fun j hj => by
      have : j = 0 := by omega
      subst this
      rw [pk_us]; rfl)
  exact ⟨_, e2, rfl, hR⟩
/-! the reference's -/
noncomputable def frI (n : Nat) (o : Nat → Nat) (u r x : Nat) : Int32 := if du n o u x ≤ r then nI (du n o u x) else -nI 1
theorem m1_ne {k : Nat} (hk : k < 2147483648) : ¬ (-nI 1 : Int32) = nI k := fun e => by
  have h : (-nI 1 : Int32).toInt = -1 := by decide
  rw [e, nI_toInt hk] at h
  omega
theorem m1_lt : ¬ nI 0 ≤ (-nI 1 : Int32) := by decide
theorem frI_eq (h : Good n o pl od) {u r x t : Nat} (hx : x < n) (ht : t ≤ r) (hr : r < 12) : frI n o u r x = nI t ↔ du n o u x = t := by
  have := du_le h (u := u) hx
  unfold frI
  by_cases c : du n o u x ≤ r
  · rw [if_pos c, q_eq (by omega) (by omega)]
  · rw [if_neg c]
    exact ⟨fun e => absurd e (m1_ne (by omega)), fun e => absurd e (by omega)⟩
set_option maxHeartbeats 2000000 in
theorem rings_eq (h : Good n o pl od) (hS : RefR S n o pl) (m8 : M 8 = nI n) {u v : Nat} (hu : u < n) (hv : v < n) (hl : du n o u v < 12) (rg far : Nat → Int32) : ∃ rg' far', f_X9_rings M rg far S (nI v) (nI u) = some (upd M 22 (nI (du n o u v + 1)), rg', far') ∧ ∀ i, i ≤ du n o u v → rg' i = nI (wq n o u v i) := by
  have hn := h.1.2
  have h1n := h.1.1
  have hdv : du n o u v < n := (du_r h hv (du_lt h hv hl)).2.1
  -- one item in one round
  have i63 : ∀ (r k : Nat) (x2 : Int32) (ke : (Nat → Int32) → Option (ModS × (Nat → Int32) × (Nat → Int32))) (F : Nat → Int32), r + 1 < n → k < n → (∀ x, x < n → F x = frI n o u (if x < k then r + 1 else r) x) → ∃ F', k_X9_rings_63 x2 (nI (r + 1)) (nI k) M rg S ke fu (nI 0) F = ke F' ∧ ∀ x, x < n → F' x = frI n o u (if x < k + 1 then r + 1 else r) x := by
    intro r k x2 ke F hr hk hF
    have lk := h.olt hk
    have fin : ∀ F' : Nat → Int32, (∀ x, x ≠ k → F' x = F x) → F' k = frI n o u (r + 1) k → ∀ x, x < n → F' x = frI n o u (if x < k + 1 then r + 1 else r) x := by
      intro F' h1 h2 x hx
      by_cases q : x = k
      · subst q; rw [if_pos (by omega)]; exact h2
      · rw [h1 x q, hF x hx]
        by_cases q2 : x < k
        · rw [if_pos q2, if_pos (by omega)]
        · rw [if_neg q2, if_neg (by omega)]
    have hFk : F k = frI n o u r k := by rw [hF k hk, if_neg (by omega)]
    have hdk := du_le h (u := u) hk
    refine loop_up (fun m i (F' : Nat → Int32) => k_X9_rings_63 x2 (nI (r + 1)) (nI k) M rg S ke m (nI i) F') (fun i F' => (∀ x, x ≠ k → F' x = F x) ∧ ((du n o u k ≤ r + 1 ∧ F' k = nI (du n o u k)) ∨ (r < du n o u k ∧ F' k = -nI 1 ∧ ∀ e, e < i → arc n o k e → du n o u e ≠ r))) (fun b => ∃ F', b = ke F' ∧ ∀ x, x < n → F' x = frI n o u (if x < k + 1 then r + 1 else r) x) n ?_ ?_ n 0 fu F (by omega) (by rw [fu_eq]; omega) ⟨fun _ _ => rfl, ?_⟩
    · intro m F' ⟨a, b⟩
      rw [k_X9_rings_63.eq_2, m8, q_le_t (by omega) (by omega)]
      refine ⟨F', rfl, fin F' a ?_⟩
      unfold frI
      rcases b with ⟨b1, b2⟩ | ⟨b1, b2, b3⟩
      · rw [if_pos b1, b2]
      · rw [b2, if_neg]
        intro q
        have e : du n o u k = r + 1 := by omega
        obtain ⟨z, az, dz⟩ := du_next h hk e (by omega)
        exact b3 z az.2.1 az dz
    · intro m i F' hi ⟨a, b⟩
      rw [k_X9_rings_63.eq_2, m8, q_le_f (by omega) (by omega)]
      simp only [lit, nI_add, Nat.zero_add]
      simp only [q_in (show k < 12 by omega) (show 12 < 2147483648 by omega), q_in (show i < 12 by omega) (show 12 < 2147483648 by omega), q_in (show k < 24 by omega) (show 24 < 2147483648 by omega), q_cl (show k < 2147483648 by omega), q_cl (show i < 2147483648 by omega)]
      rcases b with ⟨b1, b2⟩ | ⟨b1, b2, b3⟩
      · right
        rw [b2, q_le_t (by omega) (by omega)]
        refine ⟨F', rfl, fin F' a ?_⟩
        unfold frI
        rw [if_pos b1, b2]
      · left
        rw [b2, if_neg m1_lt, (hS k hk).1, h9_eq (by omega) (by omega)]
        simp only [Option.bind_some, q_b0]
        have same : upd F' k (-nI 1) = F' := by
          funext j
          by_cases q : j = k
          · subst q; rw [pk_us, b2]
          · rw [pk_un q]
        rw [same]
        cases hb : (o k).testBit i with
        | false =>
          rw [if_neg (by decide)]
          refine ⟨F', ⟨a, Or.inr ⟨b1, b2, fun e he ae => ?_⟩⟩, rfl⟩
          rcases (show e < i ∨ e = i by omega) with q | q
          · exact b3 e q ae
          · subst q; rw [ae.2.2] at hb; cases hb
        | true =>
          have ai : arc n o k i := ⟨hk, hi, hb⟩
          have hne : i ≠ k := fun e => by have := h.2.2.2.2 k i ai; rw [e] at this; omega
          have hFi : F' i = nI r ↔ du n o u i = r := by
            rw [a i hne, hF i hi]
            exact frI_eq h hi (by split <;> omega) (by split <;> omega)
          rw [if_pos rfl, q_sub (by omega), Nat.add_sub_cancel]
          by_cases q : du n o u i = r
          · rw [if_pos (hFi.mpr q)]
            refine ⟨upd F' k (nI (r + 1)), ⟨fun x hx => by rw [pk_un hx]; exact a x hx, Or.inl ?_⟩, rfl⟩
            have := du_step h (u := u) ai
            exact ⟨by omega, by rw [pk_us]; congr 1; omega⟩
          · rw [if_neg (fun e => q (hFi.mp e))]
            refine ⟨F', ⟨a, Or.inr ⟨b1, b2, fun e he ae => ?_⟩⟩, rfl⟩
            rcases (show e < i ∨ e = i by omega) with q2 | q2
            · exact b3 e q2 ae
            · subst q2; exact q
    · rw [hFk]
      unfold frI
      by_cases c : du n o u k ≤ r
      · exact Or.inl ⟨by omega, by rw [if_pos c]⟩
      · exact Or.inr ⟨by omega, by rw [if_neg c], fun e q => absurd q (Nat.not_lt_zero _)⟩
  -- one round
  have i51 : ∀ (r : Nat) (x2 : Int32) (ke : (Nat → Int32) → Option (ModS × (Nat → Int32) × (Nat → Int32))) (F : Nat → Int32), r + 1 < n → (∀ x, x < n → F x = frI n o u r x) → ∃ F', k_X9_rings_51 x2 (nI (r + 1)) M rg S ke fu (nI 0) F = ke F' ∧ ∀ x, x < n → F' x = frI n o u (r + 1) x := by
    intro r x2 ke F hr hF
    obtain ⟨F', hF', e⟩ := loop_e (fun m i (F : Nat → Int32) => k_X9_rings_51 x2 (nI (r + 1)) M rg S ke m (nI i) F) (fun F => ke F) (fun i F' => ∀ x, x < n → F' x = frI n o u (if x < i then r + 1 else r) x) n F (by omega) (fun x hx => by rw [if_neg (by omega)]; exact hF x hx)
      (by intro m F' _; rw [k_X9_rings_51.eq_2, m8, q_le_t (by omega) (by omega)])
      (by
        intro m i F' hi hI
        rw [k_X9_rings_51.eq_2, m8, q_le_f (by omega) (by omega)]
        simp only [lit, nI_add]
        obtain ⟨F2, e2, h2⟩ := i63 r i x2 (fun m_far_3 => k_X9_rings_51 x2 (nI (r + 1)) M rg S ke m (nI (i + 1)) m_far_3) F' hr hi hI
        exact ⟨F2, h2, e2⟩)
    exact ⟨F', e, fun x hx => by rw [hF' x hx, if_pos hx]⟩
  unfold f_X9_rings
  simp only [lit]
  -- the beginning
  obtain ⟨F1, hF1, e1⟩ := loop_e (fun m i (F : Nat → Int32) => k_X9_rings_3 (nI v) (nI u) M rg S (fun m_far_1 => (k_X9_rings_39 (nI v) M rg S (fun m_far_5 => inR (nI v) 12 ((k_X9_rings_165 (upd M 22 ((m_far_5 (nI v).toNatClampNeg) + nI 1)) m_far_5 S (fun m_ring_8 => (some ((upd M 22 ((m_far_5 (nI v).toNatClampNeg) + nI 1)), m_ring_8, m_far_5))) fu (nI v) (nI 0) rg))) fu (nI 1) m_far_1)) m (nI i) F)
    (fun F => k_X9_rings_39 (nI v) M rg S (fun m_far_5 => inR (nI v) 12 ((k_X9_rings_165 (upd M 22 ((m_far_5 (nI v).toNatClampNeg) + nI 1)) m_far_5 S (fun m_ring_8 => (some ((upd M 22 ((m_far_5 (nI v).toNatClampNeg) + nI 1)), m_ring_8, m_far_5))) fu (nI v) (nI 0) rg))) fu (nI 1) F)
    (fun i F => ∀ x, x < i → F x = frI n o u 0 x) n far (by omega) (fun _ q => absurd q (Nat.not_lt_zero _))
    (by intro m F _; rw [k_X9_rings_3.eq_2, m8, q_le_t (by omega) (by omega)])
    (by
      intro m i F hi hF
      rw [k_X9_rings_3.eq_2, m8, q_le_f (by omega) (by omega), q_eq_n (by omega) (by omega)]
      simp only [q_in (show i < 12 by omega) (show 12 < 2147483648 by omega), q_cl (show i < 2147483648 by omega)]
      simp only [lit, nI_add]
      refine ⟨upd F i (if i = u then nI 0 else -nI 1), fun x hx => ?_, by split <;> rfl⟩
      rcases (show x < i ∨ x = i by omega) with q | q
      · rw [pk_un (by omega)]; exact hF x q
      · subst q
        rw [pk_us]
        unfold frI
        by_cases c : x = u
        · subst c; rw [if_pos rfl, du_0 h hi]; rfl
        · rw [if_neg c, if_neg]
          intro q
          exact c (du_z h hi (by omega)))
  rw [e1]
  -- the rounds
  have h39 : ∃ F2, (∀ x, x < n → F2 x = frI n o u (n - 1) x) ∧ k_X9_rings_39 (nI v) M rg S (fun m_far_5 => inR (nI v) 12 ((k_X9_rings_165 (upd M 22 ((m_far_5 (nI v).toNatClampNeg) + nI 1)) m_far_5 S (fun m_ring_8 => (some ((upd M 22 ((m_far_5 (nI v).toNatClampNeg) + nI 1)), m_ring_8, m_far_5))) fu (nI v) (nI 0) rg))) fu (nI 1) F1 = inR (nI v) 12 ((k_X9_rings_165 (upd M 22 ((F2 (nI v).toNatClampNeg) + nI 1)) F2 S (fun m_ring_8 => (some ((upd M 22 ((F2 (nI v).toNatClampNeg) + nI 1)), m_ring_8, F2))) fu (nI v) (nI 0) rg)) := by
    refine loop_up (fun m i (F : Nat → Int32) => k_X9_rings_39 (nI v) M rg S (fun m_far_5 => inR (nI v) 12 ((k_X9_rings_165 (upd M 22 ((m_far_5 (nI v).toNatClampNeg) + nI 1)) m_far_5 S (fun m_ring_8 => (some ((upd M 22 ((m_far_5 (nI v).toNatClampNeg) + nI 1)), m_ring_8, m_far_5))) fu (nI v) (nI 0) rg))) m (nI i) F) (fun i F => 1 ≤ i ∧ ∀ x, x < n → F x = frI n o u (i - 1) x) (fun b => ∃ F2, (∀ x, x < n → F2 x = frI n o u (n - 1) x) ∧ b = inR (nI v) 12 ((k_X9_rings_165 (upd M 22 ((F2 (nI v).toNatClampNeg) + nI 1)) F2 S (fun m_ring_8 => (some ((upd M 22 ((F2 (nI v).toNatClampNeg) + nI 1)), m_ring_8, F2))) fu (nI v) (nI 0) rg))) n ?_ ?_ (n - 1) 1 fu F1 (by omega) (by rw [fu_eq]; omega) ⟨by omega, hF1⟩
    · intro m F ⟨_, hF⟩
      rw [k_X9_rings_39.eq_2, m8, q_le_t (by omega) (by omega)]
      exact ⟨F, hF, rfl⟩
    · intro m i F hi ⟨h1, hF⟩
      left
      obtain ⟨r, rfl⟩ : ∃ r, i = r + 1 := ⟨i - 1, by omega⟩
      rw [k_X9_rings_39.eq_2, m8, q_le_f (by omega) (by omega)]
      simp only [lit]
      rw [nI_add (r + 1) 1]
      obtain ⟨F', e, hF'⟩ := i51 r (nI v) (fun m_far_4 => k_X9_rings_39 (nI v) M rg S (fun m_far_5 => inR (nI v) 12 ((k_X9_rings_165 (upd M 22 ((m_far_5 (nI v).toNatClampNeg) + nI 1)) m_far_5 S (fun m_ring_8 => (some ((upd M 22 ((m_far_5 (nI v).toNatClampNeg) + nI 1)), m_ring_8, m_far_5))) fu (nI v) (nI 0) rg))) m (nI (r + 1 + 1)) m_far_4) F hi hF
      exact ⟨F', ⟨by omega, hF'⟩, e⟩
  obtain ⟨F2, hF2, e2⟩ := h39
  have hFx : ∀ x, x < n → du n o u x < 12 → F2 x = nI (du n o u x) := fun x hx hd => by
    rw [hF2 x hx]
    unfold frI
    have := (du_r h hx (du_lt h hx hd)).2.1
    rw [if_pos (by omega)]
  rw [e2, q_in (by omega) (by omega), q_cl (by omega), hFx v hv hl, nI_add]
  have m22 : (upd M 22 (nI (du n o u v + 1))) 22 = nI (du n o u v + 1) := pk_us
  -- the way
  have i186 : ∀ (i : Nat) (rg1 : Nat → Int32) (ke : Int32 → Option (ModS × (Nat → Int32) × (Nat → Int32))), i < du n o u v → k_X9_rings_186 (nI (wq n o u v i)) (nI i) (upd M 22 (nI (du n o u v + 1))) rg1 F2 S ke fu (nI 0) = ke (nI (wq n o u v (i + 1))) := by
    intro i rg1 ke hi
    obtain ⟨a, b⟩ := wq_ok h hv hl i (by omega)
    have lo := h.olt a
    obtain ⟨c1, c2, c3⟩ := nxt_ok h (u := u) (t := du n o u v - i - 1) a (by omega) (by omega)
    have st : ∀ m j, j < n → k_X9_rings_186 (nI (wq n o u v i)) (nI i) (upd M 22 (nI (du n o u v + 1))) rg1 F2 S ke (m + 1) (nI j) = if ((o (wq n o u v i)).testBit j && decide (du n o u j = du n o u v - i - 1)) = true then ke (nI j) else k_X9_rings_186 (nI (wq n o u v i)) (nI i) (upd M 22 (nI (du n o u v + 1))) rg1 F2 S ke m (nI (j + 1)) := by
      intro m j hj
      rw [k_X9_rings_186.eq_2, m22]
      simp only [lit, nI_add, Nat.zero_add]
      rw [q_le_f (by omega) (by omega), q_in (by omega) (by omega)]
      simp only [q_in (show j < 12 by omega) (show 12 < 2147483648 by omega), q_in (show wq n o u v i < 12 by omega) (show 12 < 2147483648 by omega), q_cl (show j < 2147483648 by omega), q_cl (show wq n o u v i < 2147483648 by omega)]
      rw [(hS _ a).1, h9_eq (by omega) (by omega)]
      simp only [Option.bind_some, q_b0]
      rw [hFx _ a (by omega), q_sub (by omega), b]
      have hq : F2 j = nI (du n o u v - i - 1) ↔ du n o u j = du n o u v - i - 1 := by
        rw [hF2 j hj]
        exact frI_eq h hj (by omega) (by omega)
      cases (o (wq n o u v i)).testBit j with
      | false => rfl
      | true =>
        rw [if_pos rfl]
        by_cases q : du n o u j = du n o u v - i - 1
        · rw [if_pos (hq.mpr q), decide_eq_true q]; rfl
        · rw [if_neg (fun e => q (hq.mp e)), decide_eq_false q]; rfl
    refine loop_v (fun m j => k_X9_rings_186 (nI (wq n o u v i)) (nI i) (upd M 22 (nI (du n o u v + 1))) rg1 F2 S ke m (nI j)) _ (wq n o u v (i + 1)) ?_ ?_ ?_
    · have : wq n o u v (i + 1) < n := c1
      omega
    · intro m
      show k_X9_rings_186 _ _ _ _ _ _ _ (m + 1) (nI (nxt n o u (wq n o u v i) (du n o u v - i - 1))) = _
      rw [st m _ c1, if_pos c2]; rfl
    · intro m j hj
      have hj' : j < nxt n o u (wq n o u v i) (du n o u v - i - 1) := hj
      rw [st m j (by omega), c3 j hj', if_neg (by decide)]
  have := loop_up (fun m i (z : Int32 × (Nat → Int32)) => k_X9_rings_165 (upd M 22 (nI (du n o u v + 1))) F2 S (fun m_ring_8 => (some ((upd M 22 (nI (du n o u v + 1))), m_ring_8, F2))) m z.1 (nI i) z.2) (fun i z => (i ≤ du n o u v → z.1 = nI (wq n o u v i)) ∧ ∀ j, j < i → z.2 j = nI (wq n o u v j)) (fun b => ∃ rg' far', b = some (upd M 22 (nI (du n o u v + 1)), rg', far') ∧ ∀ i, i ≤ du n o u v → rg' i = nI (wq n o u v i)) (du n o u v + 1)
    (by
      intro m ⟨x4, Q⟩ ⟨_, hQ⟩
      dsimp only
      rw [k_X9_rings_165.eq_2, m22, q_le_t (by omega) (by omega)]
      exact ⟨Q, F2, rfl, fun i hi => hQ i (by omega)⟩)
    (by
      intro m i ⟨x4, Q⟩ hi ⟨h4, hQ⟩
      left
      dsimp only at h4 hQ ⊢
      rw [k_X9_rings_165.eq_2, m22, q_le_f (by omega) (by omega), q_in (by omega) (by omega), q_cl (by omega), h4 (by omega)]
      simp only [lit, nI_add]
      have hQ' : ∀ j, j < i + 1 → upd Q i (nI (wq n o u v i)) j = nI (wq n o u v j) := fun j hj => by
        rcases (show j < i ∨ j = i by omega) with q | q
        · rw [pk_un (by omega)]; exact hQ j q
        · subst q; rw [pk_us]
      by_cases c : i < du n o u v
      · rw [i186 i _ _ c]
        exact ⟨(nI (wq n o u v (i + 1)), upd Q i (nI (wq n o u v i))), ⟨fun _ => rfl, hQ'⟩, rfl⟩
      · refine ⟨(nI 0, upd Q i (nI (wq n o u v i))), ⟨fun q => by omega, hQ'⟩, ?_⟩
        rw [show fu = 4999 + 1 from rfl, k_X9_rings_186.eq_2, m22]
        simp only [lit, nI_add]
        rw [q_le_t (by omega) (by omega)])
    (du n o u v + 1) 0 fu (nI v, rg) (by omega) (by rw [fu_eq]; omega) ⟨fun _ => rfl, fun _ q => absurd q (Nat.not_lt_zero _)⟩
  exact this
/-- both lay the same ring -/
theorem clo_du (h : Good n o pl od) {u v : Nat} (hv : v < n) (hc : clo n o u v = true) : du n o u v < 12 := by
  obtain ⟨k, p⟩ := dc_iff.mp hc
  have := (du_r h hv p).2.1
  have := h.1.2
  omega
end RNG
