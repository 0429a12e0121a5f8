/-! ===== the longest chain ===== -/
section CHN
variable {n : Nat} {o pl od : Nat → Nat} {N : NetS} {M : ModS} {S : Nat → Int32}
def rd (n : Nat) (o : Nat → Nat) (s u : Nat) : Bool := !s.testBit u && decide (ndf (tr n o u) s = 0)
def rdy (n : Nat) (o : Nat → Nat) (s : Nat) : Nat := msk (rd n o s) n
theorem rdy_lt (s : Nat) : rdy n o s < 2 ^ n := msk_lt _ _
theorem rd_iff {s u : Nat} (hu : u < n) : rd n o s u = true ↔ ¬ s.testBit u = true ∧ ∀ x, arc n o x u → s.testBit x = true := by
  unfold rd
  rw [Bool.and_eq_true, decide_eq_true_iff, Bool.not_eq_true', Bool.not_eq_true]
  constructor
  · intro ⟨a, b⟩
    refine ⟨a, fun x hx => ?_⟩
    cases hs : s.testBit x with
    | true => rfl
    | false =>
      have : (ndf (tr n o u) s).testBit x = true := ndf_b.mpr ⟨(tr_bit hu).mpr hx, by rw [hs]; decide⟩
      rw [b, Nat.zero_testBit] at this; cases this
  · intro ⟨a, b⟩
    refine ⟨a, eq_of_bits fun x => ?_⟩
    rw [Nat.zero_testBit]
    cases hd : (ndf (tr n o u) s).testBit x with
    | false => rfl
    | true =>
      have := ndf_b.mp hd
      exact absurd (b x ((tr_bit hu).mp this.1)) this.2
theorem rdy_bit {s u : Nat} : (rdy n o s).testBit u = true ↔ u < n ∧ rd n o s u = true := by
  unfold rdy
  rw [msk_bit, Bool.and_eq_true, decide_eq_true_iff]
theorem allReady_eq (hN : NetR N n o pl od) (h : Good n o pl od) {s : Nat} (hs : s < 4096) : f_X3_allReady N (nI s) = some (nI (rdy n o s)) := by
  have hn := h.1.2
  unfold f_X3_allReady
  simp only [lit]
  refine loop_v (fun m i => k_X3_allReady_4 (nI s) N (fun x => some x) m (nI (msk (rd n o s) i)) (nI i)) _ n (by omega) ?_ ?_
  · intro m
    rw [k_X3_allReady_4.eq_2, hN.1, q_le_t (by omega) (by omega)]
    rfl
  · intro m i hi
    rw [k_X3_allReady_4.eq_2, hN.1, q_le_f (by omega) (by omega), isReady_eq hN h hi hs]
    simp only [lit, Option.bind_some, nI_add]
    rw [q_sh (k := i) (by omega), q_or]
    show (if nI (rd n o s i).toNat = nI 0 then _ else _) = k_X3_allReady_4 _ _ _ m (nI (msk (rd n o s) i ||| (if rd n o s i then 2 ^ i else 0))) _
    rw [q_b0]
    by_cases c : rd n o s i = true
    · rw [if_pos c, if_pos c]
    · rw [if_neg c, if_neg c, Nat.or_zero]
/-- no chain of k arcs ends there -/
noncomputable def mdM (n : Nat) (o : Nat → Nat) (k : Nat) : Nat := msk (fun x => dc (¬ ∃ z, z < n ∧ pth n o k z x)) n
theorem mdM_bit {k x : Nat} : (mdM n o k).testBit x = true ↔ x < n ∧ ¬ ∃ z, z < n ∧ pth n o k z x := by
  unfold mdM
  rw [msk_bit, Bool.and_eq_true, decide_eq_true_iff, dc_iff]
theorem mdM_lt (k : Nat) : mdM n o k < 2 ^ n := msk_lt _ _
theorem mdM_0 : mdM n o 0 = 0 := by
  apply eq_bits2
  intro x
  rw [mdM_bit, Nat.zero_testBit]
  constructor
  · intro ⟨a, b⟩; exact absurd ⟨x, a, rfl⟩ b
  · intro q; cases q
theorem mdM_s (k : Nat) : mdM n o (k + 1) = mdM n o k ||| rdy n o (mdM n o k) := by
  apply eq_bits2
  intro x
  rw [or_bit, mdM_bit]
  constructor
  · intro ⟨a, b⟩
    by_cases c : (mdM n o k).testBit x = true
    · exact Or.inl c
    · refine Or.inr (rdy_bit.mpr ⟨a, (rd_iff a).mpr ⟨c, fun y hy => mdM_bit.mpr ⟨hy.1, fun ⟨z, hz, p⟩ => b ⟨z, hz, pth_snoc k z y x p hy⟩⟩⟩⟩)
  · intro q
    rcases q with q | q
    · have := mdM_bit.mp q
      refine ⟨this.1, fun ⟨z, hz, y, a, p⟩ => this.2 ⟨y, a.2.1, p⟩⟩
    · have ⟨a, r⟩ := rdy_bit.mp q
      refine ⟨a, fun ⟨z, hz, p⟩ => ?_⟩
      obtain ⟨y, p2, ay⟩ := pth_last k z x p
      exact (mdM_bit.mp (((rd_iff a).mp r).2 y ay)).2 ⟨z, hz, p2⟩
/-- a chain of k arcs -/
def chn (n : Nat) (o : Nat → Nat) (k : Nat) : Prop := ∃ x y, x < n ∧ pth n o k x y
theorem chn_le {k : Nat} : chn n o (k + 1) → chn n o k := fun ⟨_, y, _, z, a, p⟩ => ⟨z, y, a.2.1, p⟩
theorem chn_le' {j k : Nat} (h : j ≤ k) (hk : chn n o k) : chn n o j := by
  induction k with
  | zero => have : j = 0 := by omega
            subst this; exact hk
  | succ k ih =>
    rcases (show j ≤ k ∨ j = k + 1 by omega) with c | c
    · exact ih c (chn_le hk)
    · subst c; exact hk
theorem ev_bit {n x : Nat} : (2 ^ n - 1).testBit x = true ↔ x < n := by
  rw [Nat.testBit_two_pow_sub_one, decide_eq_true_iff]
theorem mdM_ev (h : Good n o pl od) {k : Nat} : mdM n o k = 2 ^ n - 1 ↔ ¬ chn n o k := by
  constructor
  · intro e ⟨x, y, hx, p⟩
    have hy := Rch.lt ⟨k, p⟩ hx
    have := ev_bit.mpr hy
    rw [← e] at this
    exact (mdM_bit.mp this).2 ⟨x, hx, p⟩
  · intro hk
    apply eq_bits2
    intro x
    rw [ev_bit, mdM_bit]
    exact ⟨fun q => q.1, fun q => ⟨q, fun ⟨z, hz, p⟩ => hk ⟨z, x, hz, p⟩⟩⟩
theorem chn_n (h : Good n o pl od) : ¬ chn n o n := fun ⟨x, y, hx, p⟩ => by
  have := h.2.2.2.2.pth n x y p
  have := (h.2.2.1 y (Rch.lt ⟨n, p⟩ hx)).1
  omega
/-- how many items the longest chain has -/
noncomputable def lngc (n : Nat) (o : Nat → Nat) : Nat := fnd (fun i => dc (¬ chn n o i)) (n + 1) 0
theorem lngc_spec (h : Good n o pl od) : lngc n o ≤ n ∧ ¬ chn n o (lngc n o) ∧ ∀ i, i < lngc n o → chn n o i := by
  obtain ⟨_, b, c, d⟩ := fnd_spec (fun i => dc (¬ chn n o i)) (n + 1) 0 n (by omega) (by omega) (dc_t (chn_n h))
  refine ⟨b, dc_iff.mp c, fun i hi => ?_⟩
  have := d i (by omega) hi
  exact Classical.byContradiction fun q => by
    have t : dc (¬ chn n o i) = true := dc_t q
    rw [t] at this; cases this
theorem lngc_uni (h : Good n o pl od) {m : Nat} (h1 : ¬ chn n o m) (h2 : ∀ i, i < m → chn n o i) : m = lngc n o := by
  obtain ⟨_, b, c⟩ := lngc_spec h
  rcases Nat.lt_trichotomy m (lngc n o) with q | q | q
  · exact absurd (c m q) h1
  · exact q
  · exact absurd (h2 _ q) b
theorem chain8_eq (hN : NetR N n o pl od) (h : Good n o pl od) : f_X3_longestChain N = some (nI (lngc n o)) := by
  have hn := h.1.2
  obtain ⟨a, b, c⟩ := lngc_spec h
  have hp := p2_12 hn
  have hpp := p2_pos n
  unfold f_X3_longestChain
  simp only [lit]
  rw [show (0 : Nat) = mdM n o 0 from mdM_0.symm]
  have := loop_v (fun m i => k_X3_longestChain_6 N (fun x => some x) m (nI (mdM n o i)) (nI i) (nI i)) (some (nI (lngc n o))) (lngc n o) (by omega) (by
    intro m
    have hl := lt_4096 (mdM_lt (n := n) (o := o) (lngc n o)) hn
    rw [k_X3_longestChain_6.eq_2, hN.1, every_eq hN h, Option.bind_some, q_le_n (by omega) (by omega), q_eq_n (by omega) (by omega)]
    by_cases c1 : n ≤ lngc n o
    · rw [if_pos c1]
    · rw [if_neg c1, if_pos ((mdM_ev h).mpr b)]) (by
    intro m i hi
    have hl := lt_4096 (mdM_lt (n := n) (o := o) i) hn
    rw [k_X3_longestChain_6.eq_2, hN.1, every_eq hN h, Option.bind_some, q_le_f (by omega) (by omega), q_eq_n (by omega) (by omega), if_neg (fun q => (mdM_ev h).mp q (c i hi)), allReady_eq hN h hl, Option.bind_some]
    simp only [lit, nI_add]
    rw [q_or, ← mdM_s])
  rw [mdM_0] at this ⊢
  exact this
/-! the reference's chains -/
def isLg (n : Nat) (o : Nat → Nat) (x d : Nat) : Prop := (∃ y, pth n o d x y) ∧ ∀ k y, pth n o k x y → k ≤ d
theorem isLg_lt (h : Good n o pl od) {x d : Nat} (hx : x < n) (hd : isLg n o x d) : d < n := by
  obtain ⟨⟨y, p⟩, _⟩ := hd
  have := h.2.2.2.2.pth d x y p
  have := (h.2.2.1 y (Rch.lt ⟨d, p⟩ hx)).1
  omega
set_option maxHeartbeats 1000000 in
theorem chain9_eq (h : Good n o pl od) (hS : RefR S n o pl) (m8 : M 8 = nI n) (far : Nat → Int32) : ∃ far', f_X9_chain M S far = some (nI (lngc n o), far') := by
  have hn := h.1.2
  have h1n := h.1.1
  -- one item
  have inner : ∀ (u : Nat) (x1 x2 : Int32) (ke : (Nat → Int32) → Option (Int32 × (Nat → Int32))) (F : Nat → Int32), u < n → F u = nI 1 → (∀ x, x < n → pl u < pl x → ∃ d, isLg n o x d ∧ F x = nI (d + 1)) → ∃ F', k_X9_chain_52 x1 x2 (nI u) M S ke fu (nI 0) F = ke F' ∧ (∀ k, k ≠ u → F' k = F k) ∧ ∃ d, isLg n o u d ∧ F' u = nI (d + 1) := by
    intro u x1 x2 ke F hu h1 hF
    have hl := h.olt hu
    obtain ⟨F', ⟨a, d, b, ⟨y, p⟩, c⟩, e⟩ := loop_e (fun m i (F : Nat → Int32) => k_X9_chain_52 x1 x2 (nI u) M S ke m (nI i) F) (fun F => ke F)
      (fun i F' => (∀ k, k ≠ u → F' k = F k) ∧ ∃ d, F' u = nI (d + 1) ∧ (∃ y, pth n o d u y) ∧ ∀ k z y, z < i → arc n o u z → pth n o k z y → k + 1 ≤ d) n F (by omega)
      ⟨fun _ _ => rfl, 0, h1, ⟨u, rfl⟩, fun _ _ _ q => absurd q (Nat.not_lt_zero _)⟩
      (by intro m F' _; rw [k_X9_chain_52.eq_2, m8, q_le_t (by omega) (by omega)])
      (by
        intro m i F' hi ⟨a, d, b, ⟨y, p⟩, c⟩
        have hd : d < n := by
          have := h.2.2.2.2.pth d u y p
          have := (h.2.2.1 y (Rch.lt ⟨d, p⟩ hu)).1
          omega
        rw [k_X9_chain_52.eq_2, m8, q_le_f (by omega) (by omega)]
        simp only [lit, nI_add, Nat.zero_add]
        rw [q_in (show u < 24 by omega) (by omega)]
        simp only [q_in (show u < 12 by omega) (show 12 < 2147483648 by omega), q_in (show i < 12 by omega) (show 12 < 2147483648 by omega), q_cl (show u < 2147483648 by omega), q_cl (show i < 2147483648 by omega)]
        rw [(hS u hu).1, h9_eq (by omega) (by omega)]
        simp only [Option.bind_some, q_b0]
        have same : upd F' u (F' u) = F' := by
          funext k
          by_cases q : k = u
          · subst q; rw [pk_us]
          · rw [pk_un q]
        rw [same]
        cases hb : (o u).testBit i with
        | false =>
          rw [if_neg (by decide)]
          refine ⟨F', ⟨a, d, b, ⟨y, p⟩, fun k z y hz az pz => ?_⟩, rfl⟩
          rcases (show z < i ∨ z = i by omega) with q | q
          · exact c k z y q az pz
          · subst q; rw [az.2.2] at hb; cases hb
        | true =>
          have ai : arc n o u i := ⟨hu, hi, hb⟩
          have hlt := h.2.2.2.2 u i ai
          obtain ⟨di, li, fi⟩ := hF i hi hlt
          have hdi := isLg_lt h hi li
          have hne : i ≠ u := fun e => by rw [e] at hlt; omega
          rw [if_pos rfl, a i hne, fi, b, nI_add, q_le_n (by omega) (by omega)]
          by_cases q : di + 1 + 1 ≤ d + 1
          · rw [if_pos q]
            refine ⟨F', ⟨a, d, b, ⟨y, p⟩, fun k z y hz az pz => ?_⟩, rfl⟩
            rcases (show z < i ∨ z = i by omega) with r | r
            · exact c k z y r az pz
            · subst r
              have := li.2 k y pz
              omega
          · rw [if_neg q]
            obtain ⟨⟨yi, pi⟩, mi⟩ := li
            refine ⟨upd F' u (nI (di + 1 + 1)), ⟨fun k hk => by rw [pk_un hk]; exact a k hk, di + 1, pk_us, ⟨yi, i, ai, pi⟩, fun k z y hz az pz => ?_⟩, rfl⟩
            rcases (show z < i ∨ z = i by omega) with r | r
            · have := c k z y r az pz
              omega
            · subst r
              have := mi k y pz
              omega)
    refine ⟨F', e, a, d, ⟨⟨y, p⟩, fun k y2 p2 => ?_⟩, b⟩
    cases k with
    | zero => omega
    | succ k =>
      obtain ⟨z, az, pz⟩ := p2
      exact c k z y2 az.2.1 az pz
  unfold f_X9_chain
  simp only [lit]
  obtain ⟨F1, h1, e1⟩ := loop_e (fun m i (F : Nat → Int32) => k_X9_chain_4 (nI 0) M S (fun m_far_1 => (k_X9_chain_32 M S (fun x1_5 m_far_5 => (some (x1_5, m_far_5))) fu (nI 0) ((M 8) - nI 1) m_far_1)) m (nI i) F) (fun F => k_X9_chain_32 M S (fun x1_5 m_far_5 => (some (x1_5, m_far_5))) fu (nI 0) ((M 8) - nI 1) F)
    (fun i F => ∀ x, x < i → F x = nI 1) n far (by omega) (fun _ q => absurd q (Nat.not_lt_zero _))
    (by intro m F _; rw [k_X9_chain_4.eq_2, m8, q_le_t (by omega) (by omega)])
    (by
      intro m i F hi hF
      rw [k_X9_chain_4.eq_2, m8, q_le_f (by omega) (by omega), q_in (by omega) (by omega), q_cl (by omega)]
      simp only [lit, nI_add]
      refine ⟨upd F i (nI 1), fun x hx => ?_, rfl⟩
      rcases (show x < i ∨ x = i by omega) with q | q
      · rw [pk_un (by omega)]; exact hF x q
      · subst q; rw [pk_us])
  rw [e1, m8]
  have := loop_dn (fun m i (z : Nat × (Nat → Int32)) => k_X9_chain_32 M S (fun x1_5 m_far_5 => (some (x1_5, m_far_5))) m (nI z.1) (dI i) z.2)
    (fun i z => i ≤ n ∧ (∀ x, x < n → pl x < i → z.2 x = nI 1) ∧ (∀ x, x < n → i ≤ pl x → ∃ d, isLg n o x d ∧ z.2 x = nI (d + 1) ∧ d + 1 ≤ z.1) ∧ z.1 ≤ n ∧ (z.1 = 0 ∧ i = n ∨ ∃ m, z.1 = m + 1 ∧ chn n o m))
    (fun b => ∃ far', b = some (nI (lngc n o), far')) 0 ?_ ?_ n fu (0, F1) (by rw [fu_eq]; omega) ⟨by omega, fun x hx _ => h1 x hx, fun x hx hp => ?_, by omega, Or.inl ⟨rfl, by omega⟩⟩
  · dsimp only at this
    rw [Nat.zero_add] at this
    exact this
  · intro m ⟨b, F⟩ ⟨_, _, c, d, e⟩
    dsimp only
    rw [k_X9_chain_32.eq_2]
    simp only [lit]
    rw [dI_lt_t (by omega) (by omega)]
    refine ⟨F, ?_⟩
    rcases e with e | ⟨m, e, hm⟩
    · omega
    · dsimp only at e c
      have : b = lngc n o := by
        refine lngc_uni h ?_ (fun i hi => chn_le' (by omega) hm)
        intro ⟨x, y, hx, p⟩
        obtain ⟨d, l, _, q⟩ := c x hx (by omega)
        have := l.2 b y p
        omega
      rw [this]
  · intro m i ⟨b, F⟩ _ ⟨a1, a2, a3, a4, a5⟩
    dsimp only at a1 a2 a3 a4 a5 ⊢
    left
    have hop := h.2.2.2.1 i (by omega)
    rw [k_X9_chain_32.eq_2]
    simp only [lit]
    rw [dI_lt_f (by omega) (by omega), dI_s, itemAt_eq h hS (by omega), Option.bind_some]
    obtain ⟨F', e, b1, d, b2, b3⟩ := inner (od i) (nI b) (nI i) (fun m_far_4 => inR (nI (od i)) 12 ((if (m_far_4 (nI (od i)).toNatClampNeg) ≤ nI b then (k_X9_chain_32 M S (fun x1_5 m_far_5 => (some (x1_5, m_far_5))) m (nI b) (nI i + -nI 1) m_far_4) else inR (nI (od i)) 12 ((k_X9_chain_32 M S (fun x1_5 m_far_5 => (some (x1_5, m_far_5))) m (m_far_4 (nI (od i)).toNatClampNeg) (nI i + -nI 1) m_far_4))))) F hop.1 (a2 _ hop.1 (by omega)) (fun x hx hp => by
      obtain ⟨d, l, q, _⟩ := a3 x hx (by omega)
      exact ⟨d, l, q⟩)
    rw [e]
    have hd := isLg_lt h hop.1 b2
    simp only [q_in (show od i < 12 by omega) (show 12 < 2147483648 by omega), q_cl (show od i < 2147483648 by omega)]
    rw [b3, dI_m, q_le_n (by omega) (by omega)]
    have k1 : ∀ x, x < n → pl x < i → F' x = nI 1 := fun x hx hp => by
      rw [b1 x (fun e => by rw [e, hop.2] at hp; omega)]; exact a2 x hx (by omega)
    obtain ⟨⟨yd, pd⟩, md⟩ := b2
    have k2 : ∀ c, b ≤ c → d + 1 ≤ c → ∀ x, x < n → i ≤ pl x → ∃ d, isLg n o x d ∧ F' x = nI (d + 1) ∧ d + 1 ≤ c := by
      intro c hc hc2 x hx hp
      by_cases q : x = od i
      · subst q; exact ⟨d, ⟨⟨yd, pd⟩, md⟩, b3, hc2⟩
      · obtain ⟨d2, l, r, s⟩ := a3 x hx (by
          rcases (show i < pl x ∨ pl x = i by omega) with q2 | q2
          · omega
          · exact absurd (h.pinj hx hop.1 (by rw [q2, hop.2])) q)
        exact ⟨d2, l, by rw [b1 x q]; exact r, by omega⟩
    by_cases q : d + 1 ≤ b
    · rw [if_pos q]
      refine ⟨(b, F'), ⟨by omega, k1, k2 b (by omega) q, a4, Or.inr ?_⟩, rfl⟩
      rcases a5 with ⟨e0, _⟩ | r
      · dsimp only; omega
      · exact r
    · rw [if_neg q]
      exact ⟨(d + 1, F'), ⟨by omega, k1, k2 (d + 1) (by omega) (by omega), by show d + 1 ≤ n; omega, Or.inr ⟨d, rfl, od i, yd, hop.1, pd⟩⟩, rfl⟩
  · have := (h.2.2.1 x hx).1
    omega
end CHN
