/-! ===== copies, lays, moved, movedBy (reference); part, copyOf, begin (class) ===== -/
theorem copies_eq (A0 A1 : Nat → Int32) : ∃ A', f_X9_copies A0 A1 = some A' ∧ ∀ k, k < 24 → A' k = A0 k := by
  unfold f_X9_copies
  simp only [lit]
  obtain ⟨A', hA, e⟩ := loop_e (fun k i (s : Nat → Int32) => k_X9_copies_2 A0 (fun A1_1 => some A1_1) k (nI i) s) (fun s => some s) (fun i s => ∀ p, p < i → s p = A0 p) 24 A1 (by omega) (fun _ q => absurd q (Nat.not_lt_zero _))
    (by intro k s _; rw [k_X9_copies_2.eq_2]; simp only [lit]; rw [q_le_t (by omega) (by omega)])
    (by
      intro k i s hi hs
      rw [k_X9_copies_2.eq_2]
      simp only [lit]
      rw [q_le_f (by omega) (by omega)]
      simp only [q_in (show i < 24 by omega) (show 24 < 2147483648 by omega), q_cl (show i < 2147483648 by omega), nI_add]
      refine ⟨_, fun p hp => ?_, rfl⟩
      rcases (show p < i ∨ p = i by omega) with c | c
      · rw [pk_un (by omega)]; exact hs p c
      · subst c; rw [pk_us])
  exact ⟨A', e, hA⟩
theorem copies_R {n : Nat} {o pl : Nat → Nat} (hn : n ≤ 12) {A0 A' : Nat → Int32} (h : RefR A0 n o pl) (hA : ∀ k, k < 24 → A' k = A0 k) : RefR A' n o pl := fun u hu => ⟨by rw [hA u (by omega)]; exact (h u hu).1, by rw [hA (12 + u) (by omega)]; exact (h u hu).2⟩
section LY
variable {n : Nat} {o pl od : Nat → Nat}
theorem befM_0 (h : Good n o pl od) {u v : Nat} (hu : u < n) : befM n o pl u v = 0 ↔ pl u < pl v := by
  unfold befM
  by_cases c : pl u < pl v
  · rw [if_pos c]; exact ⟨fun _ => c, fun _ => rfl⟩
  · rw [if_neg c]
    constructor
    · intro e
      have : (bw n o pl u (pl v)).testBit u = true := bw_bit.mpr ⟨hu, Rch.rf, by omega⟩
      rw [e] at this; simp at this
    · intro q; exact absurd q c
theorem lays_eq {A : Nat → Int32} (h : Good n o pl od) (hA : RefR A n o pl) {u v : Nat} (hu : u < n) (hv : v < n) (hne : u ≠ v) (hc : clo n o u v = false) (M : ModS) (w ord : Nat → Int32) :
    ∃ M' w' ord' A', f_X9_lays M w ord A (nI n) (nI u) (nI v) = some (M', w', ord', A') ∧ LkR n o pl u v M M' ∧ RefR A' n (addA o u v) (plP n o pl od u v) := by
  have hn := h.1.2
  unfold f_X9_lays
  obtain ⟨M', e, hM⟩ := looks_eq h hA hu hv hne M
  rw [e, Option.bind_some, hM.1]
  simp only [lit]
  have lb := lt_4096 (befM_lt (n := n) (o := o) (pl := pl) u v) hn
  rw [q_eq_n (by omega) (by omega), nI_add, Nat.zero_add]
  simp only [q_in (show u < 24 by omega) (show 24 < 2147483648 by omega), q_cl (show u < 2147483648 by omega), q_sh (show v < 31 by omega)]
  by_cases c : pl u < pl v
  · rw [if_pos ((befM_0 h hu).mpr c)]
    refine ⟨_, _, _, _, rfl, hM, fun x hx => ⟨?_, ?_⟩⟩
    · unfold addA
      by_cases e : x = u
      · subst e; rw [pk_us, if_pos rfl, (hA x hx).1, q_or]
      · rw [pk_un e, if_neg e]; exact (hA x hx).1
    · rw [pk_un (by omega), plP_id h c hx]; exact (hA x hx).2
  · rw [if_neg (fun q => c ((befM_0 h hu).mp q))]
    obtain ⟨w', ord', A', e2, k1, k2⟩ := moves_eq h hA (befM_lt u v) (aftM_lt u v) (dis_BA h hc) hM.1 hM.2.1 w ord
    rw [e2, Option.bind_some]
    dsimp only
    refine ⟨_, _, _, _, rfl, hM, fun x hx => ⟨?_, ?_⟩⟩
    · unfold addA
      by_cases e : x = u
      · subst e; rw [pk_us, if_pos rfl, k1 x (by omega), (hA x hx).1, q_or]
      · rw [pk_un e, if_neg e, k1 x (by omega)]; exact (hA x hx).1
    · rw [pk_un (by omega)]; exact k2 x hx
theorem moved_eq {M : ModS} {A1 A2 : Nat → Int32} (hn : n ≤ 12) (m8 : M 8 = nI n) {p1 p2 : Nat → Nat} (h1 : ∀ u, u < n → A1 (12 + u) = nI (p1 u) ∧ p1 u < n) (h2 : ∀ u, u < n → A2 (12 + u) = nI (p2 u) ∧ p2 u < n) : f_X9_moved M A1 A2 = some (nI (msk (fun u => decide (¬ p1 u = p2 u)) n)) := by
  unfold f_X9_moved
  simp only [lit]
  obtain ⟨s, hs, e⟩ := loop_e (fun k i (s : Nat) => k_X9_moved_5 M A1 A2 (fun x3_1 => some x3_1) k (nI s) (nI i)) (fun s => some (nI s)) (fun i s => s = msk (fun u => decide (¬ p1 u = p2 u)) i) n 0 (by omega) rfl
    (by intro k s _; rw [k_X9_moved_5.eq_2, m8, q_le_t (by omega) (by omega)])
    (by
      intro k i s hi hs
      have a1 := h1 i hi
      have a2 := h2 i hi
      rw [k_X9_moved_5.eq_2, m8, q_le_f (by omega) (by omega)]
      simp only [lit]
      rw [nI_add]
      simp only [q_in (show 12 + i < 24 by omega) (show 24 < 2147483648 by omega), q_cl (show 12 + i < 2147483648 by omega), q_sh (show i < 31 by omega)]
      rw [a1.1, a2.1, q_eq_n (by omega) (by omega), q_or, q_or, nI_add, hs]
      refine ⟨_, rfl, ?_⟩
      show _ = k_X9_moved_5 _ _ _ _ k (nI (msk _ i ||| _)) _
      by_cases c : p1 i = p2 i <;> simp [c])
  rw [← hs]
  exact e
/-- what an arc would move, as the places tell it -/
theorem mvd_pl (h : Good n o pl od) {u v : Nat} (hu : u < n) (hv : v < n) (hne : u ≠ v) (hc : clo n o u v = false) : mvd n o pl u v = msk (fun x => decide (¬ plP n o pl od u v x = pl x)) n := by
  refine eq_msk (mvd_lt u v) (fun x hx => ?_)
  have hm : mvd n o pl u v = befM n o pl u v ||| aftM n o pl u v := by unfold mvd; rw [hc]; rfl
  by_cases c : pl u < pl v
  · rw [plP_id h c hx]
    have e1 : befM n o pl u v = 0 := by unfold befM; rw [if_pos c]
    have e2 : aftM n o pl u v = 0 := by unfold aftM; rw [if_pos c]
    rw [hm, e1, e2]; simp
  · have hp : pl v < pl u := by
      rcases (show pl v < pl u ∨ pl v = pl u by omega) with q | q
      · exact q
      · exact absurd (h.pinj hv hu q).symm hne
    have e1 : befM n o pl u v = bw n o pl u (pl v) := by unfold befM; rw [if_neg c]
    have e2 : aftM n o pl u v = fw n o pl v (pl u + 1) := by unfold aftM; rw [if_neg c]
    rw [hm, Nat.testBit_or, e1, e2]
    cases hb : (bw n o pl u (pl v)).testBit x with
    | true =>
      have := (mv_B h hu hv hc hp hb).1
      rw [decide_eq_true (by omega)]; rfl
    | false =>
      cases ha : (fw n o pl v (pl u + 1)).testBit x with
      | true =>
        have := (mv_A h hu hv hc hp ha).1
        rw [decide_eq_true (by omega)]; rfl
      | false =>
        have : plP n o pl od u v x = pl x := npl_N h (dis_BA h hc) hx (by rw [e1, hb]; simp) (by rw [e2, ha]; simp)
        rw [this]; simp
/-- a question about an arc leaves the reference as it was, but its rows of chalk -/
theorem movedBy9_eq {M : ModS} {S : Nat → Int32} (h : Good n o pl od) (hS : RefR S n o pl) (m8 : M 8 = nI n) {u v : Nat} (hu : u < n) (hv : v < n) (hne : u ≠ v) (w ord t : Nat → Int32) :
    ∃ M' w' ord' t', f_X9_movedBy M S w ord t (nI u) (nI v) = some (nI (mvd n o pl u v), M', w', ord', t') ∧ LkR n o pl u v M M' := by
  have hn := h.1.2
  unfold f_X9_movedBy
  rw [m8]
  obtain ⟨M', e, hM⟩ := looks_eq h hS hu hv hne M
  have m8' : M' 8 = nI n := by rw [hM.2.2.2 8 (by decide) (by decide) (by decide)]; exact m8
  rw [e, Option.bind_some, hM.1, hM.2.2.1, m8']
  simp only [lit]
  have lb := lt_4096 (befM_lt (n := n) (o := o) (pl := pl) u v) hn
  rw [q_b0, q_eq_n (by omega) (by omega)]
  cases hc : clo n o u v with
  | true =>
    rw [if_pos rfl]
    refine ⟨M', w, ord, t, ?_, hM⟩
    unfold mvd
    rw [hc, if_pos rfl]
  | false =>
    rw [if_neg (by decide)]
    by_cases c : pl u < pl v
    · rw [if_pos ((befM_0 h hu).mpr c)]
      refine ⟨M', w, ord, t, ?_, hM⟩
      unfold mvd aftM
      rw [hc, if_neg (by decide), (befM_0 h hu).mpr c, if_pos c]; rfl
    · rw [if_neg (fun q => c ((befM_0 h hu).mp q))]
      obtain ⟨T, eT, hT⟩ := copies_eq S t
      have hTR := copies_R hn hS hT
      obtain ⟨w', ord', A', e2, k1, k2⟩ := moves_eq h hTR (befM_lt u v) (aftM_lt u v) (dis_BA h hc) hM.1 hM.2.1 w ord
      rw [eT, Option.bind_some, e2, Option.bind_some, moved_eq hn m8' (p1 := plP n o pl od u v) (p2 := pl) (fun x hx => ⟨k2 x hx, (npl_ok h (dis_BA h hc) hx).1⟩) (fun x hx => ⟨(hS x hx).2, (h.2.2.1 x hx).1⟩), Option.bind_some, ← mvd_pl h hu hv hne hc]
      exact ⟨_, _, _, _, rfl, hM⟩
/-! an arc cut -/
def cutA (o : Nat → Nat) (u v : Nat) : Nat → Nat := fun x => if x = u then ndf (o u) (2 ^ v) else o x
theorem ndf_lt {a b n : Nat} (h : a < 2 ^ n) : ndf a b < 2 ^ n := lt_of_bits fun i hi => by rw [ndf_bit, bits_of_lt h hi, Bool.false_and]
theorem cutA_arc {u v x y : Nat} : arc n (cutA o u v) x y ↔ arc n o x y ∧ ¬ (x = u ∧ y = v) := by
  unfold arc cutA
  by_cases c : x = u
  · subst c
    rw [if_pos rfl, ndf_b, p2_bit]
    constructor
    · intro ⟨a, b, d, e⟩; exact ⟨⟨a, b, d⟩, fun q => e q.2⟩
    · intro ⟨⟨a, b, d⟩, e⟩; exact ⟨a, b, d, fun q => e ⟨rfl, q⟩⟩
  · rw [if_neg c]
    constructor
    · intro q; exact ⟨q, fun r => c r.1⟩
    · intro q; exact q.1
theorem cut_good (h : Good n o pl od) {u v : Nat} (hu : u < n) : Good n (cutA o u v) pl od := by
  refine ⟨h.1, fun x hx => ?_, h.2.2.1, h.2.2.2.1, fun x y a => h.2.2.2.2 x y (cutA_arc.mp a).1⟩
  unfold cutA
  split
  · exact ndf_lt (h.2.1 u hu)
  · exact h.2.1 x hx
theorem tr_cut {u v : Nat} {y : Nat} (hy : y < n) : tr n (cutA o u v) y = if y = v then ndf (tr n o v) (2 ^ u) else tr n o y := by
  split
  · rename_i e
    subst e
    apply eq_bits2
    intro x
    rw [tr_bit hy, cutA_arc, ndf_b, tr_bit hy, p2_bit]
    constructor
    · intro q; exact ⟨q.1, fun r => q.2 ⟨r, rfl⟩⟩
    · intro q; exact ⟨q.1, fun r => q.2 r.1⟩
  · rename_i e
    apply eq_bits2
    intro x
    rw [tr_bit hy, cutA_arc, tr_bit hy]
    constructor
    · intro q; exact q.1
    · intro q; exact ⟨q, fun r => e r.2⟩
theorem arcs_cut (h : Good n o pl od) {u v : Nat} (hu : u < n) (hv : v < n) (hb : (o u).testBit v = true) : sumN (fun x => pc (o x)) n = sumN (fun x => pc (cutA o u v x)) n + 1 := by
  refine sumN_one hu (fun i _ hne => ?_) ?_
  · show pc (cutA o u v i) = pc (o i)
    unfold cutA; rw [if_neg hne]
  · show pc (o u) = pc (cutA o u v u) + 1
    unfold cutA; rw [if_pos rfl, ← pc_ndf (by have := h.1.2; omega) hb]
theorem part_eq {N : NetS} (hN : NetR N n o pl od) (h : Good n o pl od) {u v : Nat} (hu : u < n) (hv : v < n) (hb : (o u).testBit v = true) : ∃ N', f_X3_part N (nI u) (nI v) = some N' ∧ NetR N' n (cutA o u v) pl od := by
  have hn := h.1.2
  unfold f_X3_part
  simp only [lit]
  simp only [q_in (show u < 12 by omega) (show 12 < 2147483648 by omega), q_in (show v < 12 by omega) (show 12 < 2147483648 by omega), q_cl (show u < 2147483648 by omega), q_cl (show v < 2147483648 by omega), q_sh (show u < 31 by omega), q_sh (show v < 31 by omega)]
  refine ⟨_, rfl, hN.1, ?_, fun x hx => ?_, fun x hx => ?_, hN.2.2.2.2.1, hN.2.2.2.2.2⟩
  · show N.2.1 - nI 1 = _
    rw [hN.2.1, arcs_cut h hu hv hb, q_sub (by omega), Nat.add_sub_cancel]
  · show upd N.2.2.1 u (N.2.2.1 u &&& (nI (2 ^ v) ^^^ -nI 1)) x = nI (cutA o u v x)
    unfold cutA
    by_cases c : x = u
    · subst c; rw [pk_us, if_pos rfl, hN.2.2.1 x hx, q_ndf]
    · rw [pk_un c, if_neg c, hN.2.2.1 x hx]
  · show upd N.2.2.2.1 v (N.2.2.2.1 v &&& (nI (2 ^ u) ^^^ -nI 1)) x = nI (tr n (cutA o u v) x)
    rw [tr_cut hx]
    by_cases c : x = v
    · subst c; rw [pk_us, if_pos rfl, hN.2.2.2.1 x hx, q_ndf]
    · rw [pk_un c, if_neg c, hN.2.2.2.1 x hx]
theorem copyOf_eq {N1 : NetS} (hn : n ≤ 12) (hN : NetR N1 n o pl od) (N : NetS) : ∃ N', f_X3_copyOf N N1 = some N' ∧ NetR N' n o pl od := by
  unfold f_X3_copyOf
  refine ⟨_, rfl, hN.1, hN.2.1, fun u hu => ?_, fun u hu => ?_, fun u hu => ?_, fun u hu => ?_⟩
  · show va_cpy N1.2.2.1 N.2.2.1 0 0 12 u = _
    rw [pk_cpy_in (by omega) (by omega), Nat.zero_add, Nat.sub_zero]; exact hN.2.2.1 u hu
  · show va_cpy N1.2.2.2.1 N.2.2.2.1 0 0 12 u = _
    rw [pk_cpy_in (by omega) (by omega), Nat.zero_add, Nat.sub_zero]; exact hN.2.2.2.1 u hu
  · show va_cpy N1.2.2.2.2.1 N.2.2.2.2.1 0 0 12 u = _
    rw [pk_cpy_in (by omega) (by omega), Nat.zero_add, Nat.sub_zero]; exact hN.2.2.2.2.1 u hu
  · show va_cpy N1.2.2.2.2.2.1 N.2.2.2.2.2.1 0 0 12 u = _
    rw [pk_cpy_in (by omega) (by omega), Nat.zero_add, Nat.sub_zero]; exact hN.2.2.2.2.2 u hu
/-! a fresh net -/
def o0 : Nat → Nat := fun _ => 0
def id0 : Nat → Nat := fun k => k
theorem good0 (h1 : 1 ≤ n) (hn : n ≤ 12) : Good n o0 id0 id0 := ⟨⟨h1, hn⟩, fun _ _ => p2_pos n, fun u hu => ⟨hu, rfl⟩, fun u hu => ⟨hu, rfl⟩, fun x y a => by have := a.2.2; unfold o0 at this; simp at this⟩
theorem tr0 (v : Nat) : tr n o0 v = 0 := by
  apply eq_of_bits
  intro i
  unfold tr
  rw [msk_bit]
  unfold o0
  simp
theorem sum0 : ∀ n, sumN (fun u => pc (o0 u)) n = 0
  | 0 => rfl
  | n + 1 => by show sumN _ n + pc 0 = 0; rw [sum0 n]; decide
theorem begin_eq (N : NetS) (hn : n ≤ 12) : ∃ N', f_X3_begin N (nI n) = some N' ∧ NetR N' n o0 id0 id0 := by
  unfold f_X3_begin
  simp only [lit]
  obtain ⟨N', ⟨a, b, c⟩, e⟩ := loop_e (fun k i (s : NetS) => k_X3_begin_12 (fun Nn_1 => some Nn_1) k (nI i) s) (fun s => some s) (fun i s => s.1 = nI n ∧ s.2.1 = nI 0 ∧ ∀ p, p < i → s.2.2.1 p = nI 0 ∧ s.2.2.2.1 p = nI 0 ∧ s.2.2.2.2.1 p = nI p ∧ s.2.2.2.2.2.1 p = nI p) 12 (nI n, nI 0, N.2.2.1, N.2.2.2.1, N.2.2.2.2.1, N.2.2.2.2.2.1, N.2.2.2.2.2.2) (by omega) ⟨rfl, rfl, fun _ q => absurd q (Nat.not_lt_zero _)⟩
    (by intro k s _; rw [k_X3_begin_12.eq_2]; simp only [lit]; rw [q_le_t (by omega) (by omega)])
    (by
      intro k i s hi ⟨a, b, c⟩
      rw [k_X3_begin_12.eq_2]
      simp only [lit]
      rw [q_le_f (by omega) (by omega)]
      simp only [q_in (show i < 12 by omega) (show 12 < 2147483648 by omega), q_cl (show i < 2147483648 by omega), nI_add]
      refine ⟨(s.1, s.2.1, upd s.2.2.1 i (nI 0), upd s.2.2.2.1 i (nI 0), upd s.2.2.2.2.1 i (nI i), upd s.2.2.2.2.2.1 i (nI i), s.2.2.2.2.2.2), ⟨a, b, fun p hp => ?_⟩, rfl⟩
      show upd s.2.2.1 i (nI 0) p = nI 0 ∧ upd s.2.2.2.1 i (nI 0) p = nI 0 ∧ upd s.2.2.2.2.1 i (nI i) p = nI p ∧ upd s.2.2.2.2.2.1 i (nI i) p = nI p
      rcases (show p < i ∨ p = i by omega) with q | q
      · rw [pk_un (by omega), pk_un (by omega), pk_un (by omega), pk_un (by omega)]; exact c p q
      · subst q; rw [pk_us, pk_us, pk_us, pk_us]; exact ⟨rfl, rfl, rfl, rfl⟩)
  refine ⟨N', e, a, by rw [b, sum0], fun u hu => (c u (by omega)).1, fun u hu => by rw [tr0]; exact (c u (by omega)).2.1, fun u hu => (c u (by omega)).2.2.1, fun u hu => (c u (by omega)).2.2.2⟩
end LY
