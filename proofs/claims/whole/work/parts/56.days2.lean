/-! the two tables, and why their last cells are the same -/
/-- chains of moves from nothing -/
def CH (mv : Nat → Nat → Prop) : Nat → Nat → Prop
  | 0, T => T = 0
  | d + 1, T => ∃ S A, CH mv d S ∧ mv S A ∧ T = S ||| A
section DAY
variable {n : Nat} {o pl od : Nat → Nat} {N : NetS} {M : ModS} {Sr : Nat → Int32}
def mvR (n : Nat) (o : Nat → Nat) (h : Nat) (S A : Nat) : Prop := S < 2 ^ n ∧ A ≠ 0 ∧ subB A (rdy n o S) ∧ pc A ≤ h
def mvF (n : Nat) (o : Nat → Nat) (h : Nat) (S A : Nat) : Prop := S < 2 ^ n - 1 ∧ subB A (rdy n o S) ∧ pc A = if pc (rdy n o S) < h then pc (rdy n o S) else h
theorem sub_lt {a b n : Nat} (h : subB a b) (hb : b < 2 ^ n) : a < 2 ^ n := sub_bit h hb
theorem rdy_ne (h : Good n o pl od) {S : Nat} (hS : S < 2 ^ n - 1) : 0 < pc (rdy n o S) := by
  obtain ⟨u, hu, hr⟩ := ex_rd h (s := S) (by omega) (by omega)
  have hb : (rdy n o S).testBit u = true := rdy_bit.mpr ⟨hu, hr⟩
  have := cnt_lt (rdy n o S).testBit (show u < 12 by have := h.1.2; omega) hb
  show 0 < cnt _ 12
  omega
theorem mvF_R (h : Good n o pl od) {k S A : Nat} (hk : 1 ≤ k) (hm : mvF n o k S A) : mvR n o k S A := by
  obtain ⟨a, b, c⟩ := hm
  have := rdy_ne h a
  refine ⟨by omega, fun e => ?_, b, by rw [c]; split <;> omega⟩
  subst e
  rw [pc_0] at c
  split at c <;> omega
theorem or_nz {S A R : Nat} (hn : n ≤ 12) (hA : subB A (rdy n o S)) (h0 : A ≠ 0) : S < S ||| A ∧ pc (S ||| A) = pc S + pc A := by
  have hd : ∀ i, ¬ (S.testBit i = true ∧ A.testBit i = true) := fun i hi => by
    have := (rdy_bit.mp (hA i hi.2))
    have := rd_nb this.2
    rw [hi.1] at this; cases this
  constructor
  · have h1 : S ≤ S ||| A := Nat.left_le_or
    rcases Nat.lt_or_ge S (S ||| A) with c | c
    · exact c
    · exfalso
      have e : S ||| A = S := by omega
      apply h0
      apply eq_of_bits
      intro i
      rw [Nat.zero_testBit]
      cases hb : A.testBit i with
      | false => rfl
      | true =>
        have : (S ||| A).testBit i = true := or_bit.mpr (Or.inr hb)
        rw [e] at this
        exact absurd ⟨this, hb⟩ (hd i)
  · unfold pc
    rw [← cnt_or (f := S.testBit) (g := A.testBit)]
    · exact cnt_congr (fun i _ => by rw [Nat.testBit_or])
    · intro i _
      have := hd i
      cases hs : S.testBit i <;> cases ha : A.testBit i <;> simp_all
theorem pc_pos {A : Nat} (hA : A < 4096) (h : A ≠ 0) : 1 ≤ pc A := by
  rcases Nat.lt_or_ge 0 (pc A) with c | c
  · omega
  · exact absurd (pc_z hA (by omega)) h
theorem or_sub_lt {S A : Nat} (hS : S < 2 ^ n) (hA : subB A (rdy n o S)) : S ||| A < 2 ^ n := or_lt2 hS (sub_lt hA (rdy_lt S))
theorem CH_R {k : Nat} (hn : n ≤ 12) : ∀ d T, CH (mvR n o k) d T → T < 2 ^ n ∧ d ≤ pc T
  | 0, T, e => by
    have e' : T = 0 := e
    rw [e']
    exact ⟨p2_pos n, Nat.zero_le _⟩
  | d + 1, T, ⟨S, A, c, m, e⟩ => by
    obtain ⟨a, b⟩ := CH_R hn d S c
    have := or_nz (R := 0) hn m.2.2.1 m.2.1
    have := pc_pos (lt_4096 (sub_lt m.2.2.1 (rdy_lt S)) hn) m.2.1
    rw [e]
    exact ⟨or_sub_lt a m.2.2.1, by omega⟩
theorem CH_FR (h : Good n o pl od) {k : Nat} (hk : 1 ≤ k) : ∀ d T, CH (mvF n o k) d T → CH (mvR n o k) d T
  | 0, T, e => e
  | d + 1, T, ⟨S, A, c, m, e⟩ => ⟨S, A, CH_FR h hk d S c, mvF_R h hk m, e⟩
/-- a small part of what is ready grows to a full one -/
theorem grow {R k : Nat} (hR : R < 4096) : ∀ e B, subB B R → pc B + e = (if pc R < k then pc R else k) → ∃ A, subB B A ∧ subB A R ∧ pc A = if pc R < k then pc R else k
  | 0, B, h1, h2 => ⟨B, fun _ q => q, h1, by omega⟩
  | e + 1, B, h1, h2 => by
    have hlt : pc B < pc R := by split at h2 <;> omega
    have : ∃ x, x < 12 ∧ R.testBit x = true ∧ B.testBit x = false := by
      apply Classical.byContradiction
      intro hn
      have : cnt R.testBit 12 = cnt B.testBit 12 := cnt_congr (fun i hi => by
        cases hr : R.testBit i with
        | false =>
          cases hb : B.testBit i with
          | false => rfl
          | true => rw [h1 i hb] at hr; cases hr
        | true =>
          cases hb : B.testBit i with
          | true => rfl
          | false => exact absurd ⟨i, hi, hr, hb⟩ hn)
      unfold pc at hlt
      omega
    obtain ⟨x, hx, h3, h4⟩ := this
    obtain ⟨A, a1, a2, a3⟩ := grow (k := k) hR e (B ||| 2 ^ x) (fun i hi => by
      rcases or_bit.mp hi with q | q
      · exact h1 i q
      · rw [p2_bit] at q; subst q; exact h3) (by rw [pc_or hx h4]; omega)
    exact ⟨A, fun i hi => a1 i (or_bit.mpr (Or.inl hi)), a2, a3⟩
theorem pc_mono {A B : Nat} (h : subB A B) : pc A ≤ pc B := by
  have key : ∀ m, cnt A.testBit m ≤ cnt B.testBit m := by
    intro m
    induction m with
    | zero => exact Nat.le_refl _
    | succ m ih =>
      rw [cnt_s, cnt_s]
      cases ha : A.testBit m with
      | false => simp; omega
      | true => rw [h m ha]; omega
  exact key 12
theorem CH_RF (h : Good n o pl od) {k : Nat} (hk : 1 ≤ k) : ∀ d T, CH (mvR n o k) d T → ∃ d2 T2, d2 ≤ d ∧ CH (mvF n o k) d2 T2 ∧ subB T T2 ∧ T2 < 2 ^ n
  | 0, T, e => ⟨0, 0, Nat.le_refl _, rfl, fun i hi => by rw [show T = 0 from e] at hi; exact hi, p2_pos n⟩
  | d + 1, T, ⟨S, A, c, m, e⟩ => by
    have hn := h.1.2
    obtain ⟨d2, S2, h1, h2, h3, h4⟩ := CH_RF h hk d S c
    rcases (show S2 < 2 ^ n - 1 ∨ S2 = 2 ^ n - 1 by omega) with q | q
    · have hsub : subB (ndf A S2) (rdy n o S2) := fun i hi => by
        have := ndf_b.mp hi
        obtain ⟨hin, hr⟩ := rdy_bit.mp (m.2.2.1 i this.1)
        refine rdy_bit.mpr ⟨hin, (rd_iff hin).mpr ⟨this.2, fun x hx => h3 x (((rd_iff hin).mp hr).2 x hx)⟩⟩
      have hle : pc (ndf A S2) ≤ pc A := pc_mono (fun i hi => (ndf_b.mp hi).1)
      have hle2 := pc_mono hsub
      have hk2 := m.2.2.2
      obtain ⟨A2, a1, a2, a3⟩ := grow (k := k) (lt_4096 (rdy_lt (n := n) (o := o) S2) hn) ((if pc (rdy n o S2) < k then pc (rdy n o S2) else k) - pc (ndf A S2)) (ndf A S2) hsub (by split <;> omega)
      refine ⟨d2 + 1, S2 ||| A2, by omega, ⟨S2, A2, h2, ⟨q, a2, a3⟩, rfl⟩, fun i hi => ?_, or_sub_lt h4 a2⟩
      rw [e] at hi
      rcases or_bit.mp hi with r | r
      · exact or_bit.mpr (Or.inl (h3 i r))
      · by_cases b : S2.testBit i = true
        · exact or_bit.mpr (Or.inl b)
        · exact or_bit.mpr (Or.inr (a1 i (ndf_b.mpr ⟨r, b⟩)))
    · refine ⟨d2, S2, by omega, h2, fun i hi => ?_, h4⟩
      rw [q, ev_bit]
      have hT : T < 2 ^ n := by rw [e]; exact or_sub_lt m.1 m.2.2.1
      rcases Nat.lt_or_ge i n with c2 | c2
      · exact c2
      · rw [bits_of_lt hT c2] at hi; cases hi
/-- one item a day, as they stand -/
theorem mdp_bit (h : Good n o pl od) : ∀ p, p ≤ n → ∀ x, (mdp od p).testBit x = true ↔ x < n ∧ pl x < p
  | 0, _, x => by
    show Nat.testBit 0 x = true ↔ _
    rw [Nat.zero_testBit]
    constructor
    · intro q; cases q
    · intro q; omega
  | p + 1, hp, x => by
    have ho := h.2.2.2.1 p (by omega)
    show (mdp od p ||| 2 ^ od p).testBit x = true ↔ _
    rw [or_bit, mdp_bit h p (by omega), p2_bit]
    constructor
    · intro q
      rcases q with q | q
      · exact ⟨q.1, by omega⟩
      · rw [q]; exact ⟨ho.1, by omega⟩
    · intro ⟨a, b⟩
      rcases (show pl x < p ∨ pl x = p by omega) with q | q
      · exact Or.inl ⟨a, q⟩
      · exact Or.inr (h.pinj a ho.1 (by rw [q, ho.2]))
theorem CH_one (h : Good n o pl od) {k : Nat} (hk : 1 ≤ k) : ∀ p, p ≤ n → CH (mvR n o k) p (mdp od p)
  | 0, _ => rfl
  | p + 1, hp => by
    have ho := h.2.2.2.1 p (by omega)
    have hn := h.1.2
    refine ⟨mdp od p, 2 ^ od p, CH_one h hk p (by omega), ⟨mdp_lt h p (by omega), ?_, fun i hi => ?_, ?_⟩, rfl⟩
    · have := p2_pos (od p); omega
    · rw [p2_bit] at hi
      subst hi
      refine rdy_bit.mpr ⟨ho.1, (rd_iff ho.1).mpr ⟨fun q => ?_, fun x hx => ?_⟩⟩
      · have := ((mdp_bit h p (by omega) _).mp q).2
        omega
      · have := h.2.2.2.2 x _ hx
        exact (mdp_bit h p (by omega) x).mpr ⟨hx.1, by omega⟩
    · have : pc (0 ||| 2 ^ od p) = pc 0 + 1 := pc_or (by omega) (Nat.zero_testBit _)
      rw [Nat.zero_or, pc_0] at this
      omega
theorem mdp_ev (h : Good n o pl od) : mdp od n = 2 ^ n - 1 := by
  apply eq_bits2
  intro x
  rw [mdp_bit h n (Nat.le_refl n), ev_bit]
  exact ⟨fun q => q.1, fun q => ⟨q, (h.2.2.1 x q).1⟩⟩
/-- a table that holds the fewest days over all moves from cells below i -/
def DP (mv : Nat → Nat → Prop) (nv n i : Nat) (F : Nat → Int32) : Prop := F 0 = nI 0 ∧ (∀ T, T < 2 ^ n → ∃ v, F T = nI v ∧ (v = nv ∨ (v ≤ 12 ∧ CH mv v T))) ∧ ∀ d S A, S < i → CH mv d S → mv S A → ∀ v, v ≤ 99 → F (S ||| A) = nI v → v ≤ d + 1
theorem DP.tab {mv : Nat → Nat → Prop} {nv n i : Nat} {F : Nat → Int32} (h : DP mv nv n i F) (hv : nv ≤ 99) : Tab (2 ^ n) F := fun T hT => by
  obtain ⟨v, e, c⟩ := h.2.1 T hT
  exact ⟨v, by rcases c with c | c <;> omega, e⟩
theorem DP.skip {mv : Nat → Nat → Prop} {nv n i : Nat} {F : Nat → Int32} (h : DP mv nv n i F) (hmv : ∀ S A, mv S A → S < S ||| A) (hd : ∀ d T, CH mv d T → d ≤ 12) (hv : 12 < nv) (hv2 : nv ≤ 99) (e : F i = nI nv) : DP mv nv n (i + 1) F := by
  refine ⟨h.1, h.2.1, fun d S A hS c m => ?_⟩
  rcases (show S < i ∨ S = i by omega) with q | q
  · exact h.2.2 d S A q c m
  · exfalso
    subst q
    cases d with
    | zero =>
      have e0 : S = 0 := c
      rw [e0, h.1] at e
      have := (q_eq (by omega) (by omega)).mp e
      omega
    | succ d =>
      have hd12 := hd _ _ c
      obtain ⟨S2, A2, c2, m2, e2⟩ := c
      have hlt := hmv S2 A2 m2
      rw [← e2] at hlt
      have := h.2.2 d S2 A2 hlt c2 m2 nv hv2 (by rw [← e2]; exact e)
      omega
theorem DP.go {mv : Nat → Nat → Prop} {nv n i v : Nat} {F F' : Nat → Int32} (h : DP mv nv n i F) (hmv : ∀ S A, mv S A → S < S ||| A) (hd : ∀ d T, CH mv d T → d ≤ 12) (hv : 12 < nv) (hv2 : nv ≤ 99) (hi : i < 2 ^ n) (e : F i = nI v) (hv3 : v ≤ 99) (hne : v ≠ nv) (hU : Up (2 ^ n) F F' (fun T => ∃ A, mv i A ∧ T = i ||| A) (v + 1)) (hother : ∀ S A, mv S A → S ≤ i → S ||| A < 2 ^ n) : DP mv nv n (i + 1) F' := by
  obtain ⟨h1, h2, h3⟩ := h
  have hF : ∀ T w, T < 2 ^ n → w ≤ 99 → F T = nI w → (w = nv ∨ (w ≤ 12 ∧ CH mv w T)) := fun T w hT hw ew => by
    obtain ⟨v2, e2, c2⟩ := h2 T hT
    rw [ew] at e2
    have : w = v2 := (q_eq (by omega) (by rcases c2 with c2 | c2 <;> omega)).mp e2
    subst this
    exact c2
  obtain ⟨vi, ei, ci⟩ := h2 i hi
  have hvi99 : vi ≤ 99 := by rcases ci with c | c <;> omega
  have hvi : vi = v := by
    rw [ei] at e
    exact (q_eq (by omega) (by omega)).mp e
  have hv12 : v ≤ 12 ∧ CH mv v i := by
    subst hvi
    rcases ci with c | c
    · exact absurd c hne
    · exact c
  have hU0 := hU 0 (p2_pos n) 0 (by omega) h1
  refine ⟨?_, fun T hT => ?_, fun d S A hS c m w hw ew => ?_⟩
  · by_cases q : ∃ A, mv i A ∧ 0 = i ||| A
    · rw [hU0.1 q, if_neg (by omega)]
    · exact hU0.2 q
  · obtain ⟨w, e2, c2⟩ := h2 T hT
    have hw : w ≤ 99 := by rcases c2 with c2 | c2 <;> omega
    have hUT := hU T hT w hw e2
    by_cases q : ∃ A, mv i A ∧ T = i ||| A
    · rw [hUT.1 q]
      by_cases q2 : v + 1 < w
      · rw [if_pos q2]
        obtain ⟨A, mA, eA⟩ := q
        have cc : CH mv (v + 1) T := ⟨i, A, hv12.2, mA, eA⟩
        exact ⟨v + 1, rfl, Or.inr ⟨hd _ _ cc, cc⟩⟩
      · rw [if_neg q2]; exact ⟨w, rfl, c2⟩
    · exact ⟨w, hUT.2 q, c2⟩
  · have hT := hother S A m (by omega)
    obtain ⟨w0, e0, c0⟩ := h2 _ hT
    have hw0 : w0 ≤ 99 := by rcases c0 with c0 | c0 <;> omega
    have hUT := hU _ hT w0 hw0 e0
    rcases (show S < i ∨ S = i by omega) with q | q
    · have h4 := h3 d S A q c m w0 hw0 e0
      by_cases q2 : ∃ A2, mv i A2 ∧ S ||| A = i ||| A2
      · have e5 := hUT.1 q2
        rw [ew] at e5
        have := (q_eq (by omega) (by split <;> omega)).mp e5
        split at this <;> omega
      · have e5 := hUT.2 q2
        rw [ew] at e5
        have := (q_eq (by omega) (by omega)).mp e5
        omega
    · subst q
      have e5 := hUT.1 ⟨A, m, rfl⟩
      rw [ew] at e5
      have hwv := (q_eq (by omega) (by split <;> omega)).mp e5
      have hvd : v ≤ d := by
        cases d with
        | zero =>
          have e6 : S = 0 := c
          rw [e6, h1] at e
          have := (q_eq (by omega) (by omega)).mp e
          omega
        | succ d =>
          obtain ⟨S2, A2, c2, m2, e2⟩ := c
          have hl2 := hmv S2 A2 m2
          rw [← e2] at hl2
          exact h3 d S2 A2 hl2 c2 m2 v (by omega) (by rw [← e2]; exact e)
      split at hwv <;> omega
/-- both ends are the same -/
theorem dp_end (h : Good n o pl od) {k : Nat} (hk : 1 ≤ k) {F G : Nat → Int32} (hF : DP (mvF n o k) 13 n (2 ^ n - 1) F) (hG : DP (mvR n o k) 99 n (2 ^ n - 1) G) : F (2 ^ n - 1) = G (2 ^ n - 1) := by
  have hn := h.1.2
  have hp := p2_pos n
  obtain ⟨v, ev, cv⟩ := hF.2.1 (2 ^ n - 1) (by omega)
  obtain ⟨w, ew, cw⟩ := hG.2.1 (2 ^ n - 1) (by omega)
  have hv99 : v ≤ 99 := by rcases cv with c | c <;> omega
  have hw99 : w ≤ 99 := by rcases cw with c | c <;> omega
  have minF : ∀ d, CH (mvF n o k) d (2 ^ n - 1) → v ≤ d := by
    intro d c
    cases d with
    | zero =>
      have e0 : 2 ^ n - 1 = 0 := c
      rw [e0, hF.1] at ev
      have := (q_eq (by omega) (by omega)).mp ev
      omega
    | succ d =>
      obtain ⟨S, A, c, m, e⟩ := c
      exact hF.2.2 d S A m.1 c m v hv99 (by rw [← e]; exact ev)
  have minG : ∀ d, CH (mvR n o k) d (2 ^ n - 1) → w ≤ d := by
    intro d c
    cases d with
    | zero =>
      have e0 : 2 ^ n - 1 = 0 := c
      rw [e0, hG.1] at ew
      have := (q_eq (by omega) (by omega)).mp ew
      omega
    | succ d =>
      obtain ⟨S, A, c, m, e⟩ := c
      have := (or_nz (R := 0) hn m.2.2.1 m.2.1).1
      exact hG.2.2 d S A (by omega) c m w hw99 (by rw [← e]; exact ew)
  have RF : ∀ d, CH (mvR n o k) d (2 ^ n - 1) → ∃ d2, d2 ≤ d ∧ CH (mvF n o k) d2 (2 ^ n - 1) := by
    intro d c
    obtain ⟨d2, T2, a1, a2, a3, a4⟩ := CH_RF h hk d _ c
    have : T2 = 2 ^ n - 1 := by
      apply eq_bits2
      intro x
      rw [ev_bit]
      constructor
      · intro hx
        rcases Nat.lt_or_ge x n with q | q
        · exact q
        · rw [bits_of_lt a4 q] at hx; cases hx
      · intro hx; exact a3 x (ev_bit.mpr hx)
    subst this
    exact ⟨d2, a1, a2⟩
  have c1 : CH (mvR n o k) n (2 ^ n - 1) := by
    have := CH_one h hk n (Nat.le_refl n)
    rwa [mdp_ev h] at this
  obtain ⟨d2, l2, c2⟩ := RF n c1
  have hvF := minF d2 c2
  have cvF : CH (mvF n o k) v (2 ^ n - 1) := by
    rcases cv with c | c
    · omega
    · exact c.2
  have hwv := minG v (CH_FR h hk v _ cvF)
  have cwR : CH (mvR n o k) w (2 ^ n - 1) := by
    rcases cw with c | c
    · omega
    · exact c.2
  obtain ⟨d3, l3, c3⟩ := RF w cwR
  have := minF d3 c3
  rw [ev, ew]
  congr 1
  omega
end DAY
