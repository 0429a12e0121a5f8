/-! ===== what was seen, and what fits it ===== -/
def fitB (it : Nat → Nat) (mv : Nat → Bool) (a : Nat) : Nat → Bool
  | 0 => true
  | i + 1 => fitB it mv a i && (a.testBit (it i) == mv i)
def mmM (it : Nat → Nat) (mv : Nat → Bool) : Nat → Nat
  | 0 => 0
  | i + 1 => mmM it mv i ||| (if mv i then 2 ^ it i else 0)
def msM (it : Nat → Nat) (mv : Nat → Bool) : Nat → Nat
  | 0 => 0
  | i + 1 => msM it mv i ||| (if mv i then 0 else 2 ^ it i)
theorem ndf_0 {a b : Nat} : ndf a b = 0 ↔ ∀ i, a.testBit i = true → b.testBit i = true := by
  constructor
  · intro h i hi
    cases hb : b.testBit i with
    | true => rfl
    | false =>
      have : (ndf a b).testBit i = true := ndf_b.mpr ⟨hi, by rw [hb]; decide⟩
      rw [h, Nat.zero_testBit] at this; cases this
  · intro h
    apply eq_of_bits
    intro i
    rw [Nat.zero_testBit]
    cases hb : (ndf a b).testBit i with
    | false => rfl
    | true =>
      have := ndf_b.mp hb
      exact absurd (h i this.1) this.2
theorem fitB_eq (it : Nat → Nat) (mv : Nat → Bool) (a : Nat) : ∀ k, fitB it mv a k = true ↔ ndf (mmM it mv k) a = 0 ∧ msM it mv k &&& a = 0
  | 0 => by
    constructor
    · intro _
      exact ⟨ndf_0.mpr fun i hi => absurd hi (by show ¬ Nat.testBit 0 i = true; rw [Nat.zero_testBit]; decide), and_0.mpr fun i hi => absurd hi.1 (by show ¬ Nat.testBit 0 i = true; rw [Nat.zero_testBit]; decide)⟩
    · intro _; rfl
  | k + 1 => by
    show (fitB it mv a k && (a.testBit (it k) == mv k)) = true ↔ ndf (mmM it mv k ||| (if mv k then 2 ^ it k else 0)) a = 0 ∧ (msM it mv k ||| (if mv k then 0 else 2 ^ it k)) &&& a = 0
    rw [Bool.and_eq_true, fitB_eq it mv a k, ndf_0, ndf_0, and_0, and_0, beq_iff_eq]
    constructor
    · intro ⟨⟨h1, h2⟩, h3⟩
      refine ⟨fun i hi => ?_, fun i hi => ?_⟩
      · rcases or_bit.mp hi with q | q
        · exact h1 i q
        · cases hm : mv k with
          | true =>
            rw [hm, if_pos rfl, p2_bit] at q
            rw [q, h3, hm]
          | false => rw [hm] at q; simp at q
      · rcases or_bit.mp hi.1 with q | q
        · exact h2 i ⟨q, hi.2⟩
        · cases hm : mv k with
          | true => rw [hm] at q; simp at q
          | false =>
            rw [hm, if_neg (by decide), p2_bit] at q
            have := hi.2
            rw [q, h3, hm] at this; cases this
    · intro ⟨h1, h2⟩
      refine ⟨⟨fun i hi => h1 i (or_bit.mpr (Or.inl hi)), fun i hi => h2 i ⟨or_bit.mpr (Or.inl hi.1), hi.2⟩⟩, ?_⟩
      cases hm : mv k with
      | true => exact h1 (it k) (or_bit.mpr (Or.inr (by rw [hm, if_pos rfl]; exact p2_bit.mpr rfl)))
      | false =>
        cases hb : a.testBit (it k) with
        | false => rfl
        | true => exact absurd ⟨or_bit.mpr (Or.inr (by rw [hm, if_neg (by decide)]; exact p2_bit.mpr rfl)), hb⟩ (h2 (it k))
/-- how many fit, the first, how often each moves -/
def wst (a code : Nat) (t : Nat × Int32 × (Nat → Nat)) : Nat × Int32 × (Nat → Nat) := (t.1 + 1, (if t.1 = 0 then nI code else t.2.1), fun i => t.2.2 i + (a.testBit i).toNat)
section SGT
variable {n : Nat} {o pl od : Nat → Nat} {N : NetS} {M : ModS} {S : Nat → Int32}
noncomputable def wI (n : Nat) (o pl : Nat → Nat) (ft : Nat → Bool) (u : Nat) (t : Nat × Int32 × (Nat → Nat)) : Nat → Nat × Int32 × (Nat → Nat)
  | 0 => t
  | i + 1 => if tak n o u i && ft (mvd n o pl u i) then wst (mvd n o pl u i) (16 * u + i) (wI n o pl ft u t i) else wI n o pl ft u t i
noncomputable def wO (n : Nat) (o pl : Nat → Nat) (ft : Nat → Bool) : Nat → Nat × Int32 × (Nat → Nat)
  | 0 => (0, -nI 9, fun _ => 0)
  | u + 1 => wI n o pl ft u (wO n o pl ft u) n
theorem wI_s (ft : Nat → Bool) (u : Nat) (t : Nat × Int32 × (Nat → Nat)) (i : Nat) : wI n o pl ft u t (i + 1) = if tak n o u i && ft (mvd n o pl u i) then wst (mvd n o pl u i) (16 * u + i) (wI n o pl ft u t i) else wI n o pl ft u t i := rfl
/-- what holds of such a count after so many arcs -/
def wok (c : Nat) (t : Nat × Int32 × (Nat → Nat)) : Prop := t.1 ≤ c ∧ (t.1 = 0 → t.2.1 = -nI 9) ∧ (t.1 ≠ 0 → ∃ j, j < 2147483648 ∧ t.2.1 = nI j) ∧ ∀ i, t.2.2 i ≤ t.1
theorem wst_ok {c a code : Nat} {t : Nat × Int32 × (Nat → Nat)} (hc : code < 2147483648) (h : wok c t) : wok (c + 1) (wst a code t) := by
  obtain ⟨a1, a2, a3, a4⟩ := h
  refine ⟨by show t.1 + 1 ≤ c + 1; omega, fun e => by have e' : t.1 + 1 = 0 := e; omega, fun _ => ?_, fun i => ?_⟩
  · show ∃ j, j < 2147483648 ∧ (if t.1 = 0 then nI code else t.2.1) = nI j
    by_cases q : t.1 = 0
    · rw [if_pos q]; exact ⟨code, hc, rfl⟩
    · rw [if_neg q]; exact a3 q
  · show t.2.2 i + (a.testBit i).toNat ≤ t.1 + 1
    have := a4 i
    cases a.testBit i <;> simp <;> omega
theorem wok_mono {c d : Nat} {t : Nat × Int32 × (Nat → Nat)} (hd : c ≤ d) (h : wok c t) : wok d t := ⟨by have := h.1; omega, h.2⟩
theorem wI_ok {ft : Nat → Bool} {u c : Nat} {t : Nat × Int32 × (Nat → Nat)} (hu : u < 12) (h : wok c t) : ∀ i, i ≤ 12 → wok (c + i) (wI n o pl ft u t i)
  | 0, _ => h
  | i + 1, hi => by
    rw [wI_s]
    split
    · exact wst_ok (by omega) (wI_ok hu h i (by omega))
    · exact wok_mono (by omega) (wI_ok hu h i (by omega))
theorem wO_ok {ft : Nat → Bool} (hn : n ≤ 12) : ∀ u, u ≤ 12 → wok (12 * u) (wO n o pl ft u)
  | 0, _ => ⟨Nat.le_refl _, fun _ => rfl, fun e => absurd rfl e, fun _ => Nat.le_refl _⟩
  | u + 1, hu => wok_mono (by omega) (wI_ok (by omega) (wO_ok hn u (by omega)) n (by omega))
theorem wI_ok' {ft : Nat → Bool} {u i : Nat} (hn : n ≤ 12) (hu : u < n) (hi : i ≤ n) : wok 200 (wI n o pl ft u (wO n o pl ft u) i) := wok_mono (by omega) (wI_ok (by omega) (wO_ok hn u (by omega)) i (by omega))
/-- the class's sight against such a count -/
def SgS (Sg : SgtS) (t : Nat × Int32 × (Nat → Nat)) (B : Nat → Int32) : Prop := Sg.1 1 = nI t.1 ∧ Sg.1 2 = t.2.1 ∧ (∀ j, j ≠ 1 → j ≠ 2 → Sg.1 j = B j) ∧ ∀ i, i < 12 → Sg.2 i = nI (t.2.2 i)
theorem fits_loop {a : Nat} (ha : a < 4096) (Q : Nat → Int32) (A : Nat → Int32) (m0 : Nat → Nat) (h0 : ∀ i, i < 12 → A i = nI (m0 i)) : ∃ A', k_X5_takeIfFits_47 (nI a) (fun Ss_2 => some Ss_2) fu (nI 0) (Q, A) = some (Q, A') ∧ ∀ i, i < 12 → A' i = nI (m0 i + (a.testBit i).toNat) := by
  obtain ⟨A', hA, e⟩ := loop_e (fun m i (T : Nat → Int32) => k_X5_takeIfFits_47 (nI a) (fun Ss_2 => some Ss_2) m (nI i) (Q, T)) (fun T => some (Q, T)) (fun i T => ∀ j, j < 12 → T j = nI (if j < i then m0 j + (a.testBit j).toNat else m0 j)) 12 A (by omega) (fun j hj => by rw [if_neg (by omega)]; exact h0 j hj)
    (by intro m T _; rw [k_X5_takeIfFits_47.eq_2]; simp only [lit]; rw [q_le_t (by omega) (by omega)])
    (by
      intro m i T hi hT
      rw [k_X5_takeIfFits_47.eq_2]
      simp only [lit]
      rw [q_le_f (by omega) (by omega), q_bit (by omega) (by omega)]
      simp only [q_in (show i < 12 by omega) (show 12 < 2147483648 by omega), q_cl (show i < 2147483648 by omega)]
      rw [hT i hi, if_neg (by omega)]
      simp only [nI_add]
      refine ⟨upd T i (nI (m0 i + (a.testBit i).toNat)), fun j hj => ?_, rfl⟩
      by_cases q : j = i
      · subst q; rw [pk_us, if_pos (by omega)]
      · rw [pk_un q, hT j hj]
        by_cases q2 : j < i
        · rw [if_pos q2, if_pos (by omega)]
        · rw [if_neg q2, if_neg (by omega)])
  exact ⟨A', e, fun i hi => by rw [hA i hi, if_pos hi]⟩
theorem m9_ne {j : Nat} (hj : j < 2147483648) : ¬ (nI j : Int32) = -nI 9 := fun e => by
  have h : (-nI 9 : Int32).toInt = -9 := by decide
  rw [← e, nI_toInt hj] at h
  omega
theorem fits_eq {Sg : SgtS} {t : Nat × Int32 × (Nat → Nat)} {B : Nat → Int32} {it : Nat → Nat} {mv : Nat → Bool} {k a code : Nat} (hS : SgS Sg t B) (hw : wok 200 t) (b3 : B 3 = nI (mmM it mv k)) (b4 : B 4 = nI (msM it mv k)) (h3 : mmM it mv k < 4096) (h4 : msM it mv k < 4096) (ha : a < 4096) (hc : code < 2147483648) : ∃ Sg', f_X5_takeIfFits Sg (nI code) (nI a) = some Sg' ∧ SgS Sg' (if fitB it mv a k then wst a code t else t) B := by
  obtain ⟨s1, s2, s3, s4⟩ := hS
  unfold f_X5_takeIfFits
  rw [s3 3 (by decide) (by decide), s3 4 (by decide) (by decide), b3, b4, s1, s2]
  simp only [lit]
  have l5 := lt_4096 (ndf_lt (a := mmM it mv k) (b := a) (n := 12) (by omega)) (Nat.le_refl _)
  rw [q_ndf, q_eq_n (by omega) (by omega), q_and, q_eq_n (and_lt h4) (by omega)]
  cases hf : fitB it mv a k with
  | true =>
    obtain ⟨f1, f2⟩ := (fitB_eq it mv a k).mp hf
    rw [if_pos f1, if_pos f2, if_pos rfl]
    by_cases c : t.1 = 0
    · rw [if_pos (hw.2.1 c)]
      obtain ⟨A', e, hA⟩ := fits_loop ha (upd (upd Sg.1 2 (nI code)) 1 (nI t.1 + nI 1)) Sg.2 t.2.2 s4
      refine ⟨_, e, ?_, ?_, fun j j1 j2 => ?_, hA⟩
      · show upd (upd Sg.1 2 (nI code)) 1 (nI t.1 + nI 1) 1 = nI (t.1 + 1)
        rw [pk_us, nI_add]
      · show upd (upd Sg.1 2 (nI code)) 1 (nI t.1 + nI 1) 2 = if t.1 = 0 then nI code else t.2.1
        rw [pk_un (by decide), pk_us, if_pos c]
      · show upd (upd Sg.1 2 (nI code)) 1 (nI t.1 + nI 1) j = B j
        rw [pk_un j1, pk_un j2]; exact s3 j j1 j2
    · obtain ⟨j, hj, ej⟩ := hw.2.2.1 c
      rw [ej, if_neg (m9_ne hj)]
      obtain ⟨A', e, hA⟩ := fits_loop ha (upd Sg.1 1 (nI t.1 + nI 1)) Sg.2 t.2.2 s4
      refine ⟨_, e, ?_, ?_, fun j j1 j2 => ?_, hA⟩
      · show upd Sg.1 1 (nI t.1 + nI 1) 1 = nI (t.1 + 1)
        rw [pk_us, nI_add]
      · show upd Sg.1 1 (nI t.1 + nI 1) 2 = if t.1 = 0 then nI code else t.2.1
        rw [pk_un (by decide), if_neg c]; exact s2
      · show upd Sg.1 1 (nI t.1 + nI 1) j = B j
        rw [pk_un j1]; exact s3 j j1 j2
  | false =>
    rw [show (if (false : Bool) = true then wst a code t else t) = t from rfl]
    have hn : ¬ (ndf (mmM it mv k) a = 0 ∧ msM it mv k &&& a = 0) := fun q => by
      rw [(fitB_eq it mv a k).mpr q] at hf; cases hf
    by_cases f1 : ndf (mmM it mv k) a = 0
    · rw [if_pos f1, if_neg (fun q => hn ⟨f1, q⟩)]
      exact ⟨Sg, rfl, s1, s2, s3, s4⟩
    · rw [if_neg f1]
      exact ⟨Sg, rfl, s1, s2, s3, s4⟩
theorem weigh_eq (hN : NetR N n o pl od) (h : Good n o pl od) {Sg : SgtS} {it : Nat → Nat} {mv : Nat → Bool} {k : Nat} (b3 : Sg.1 3 = nI (mmM it mv k)) (b4 : Sg.1 4 = nI (msM it mv k)) (h3 : mmM it mv k < 4096) (h4 : msM it mv k < 4096) : ∃ Sg', f_X5_weigh Sg N = some Sg' ∧ SgS Sg' (wO n o pl (fun a => fitB it mv a k) n) Sg.1 := by
  have hn := h.1.2
  obtain ⟨A, eA, hA⟩ := fill_eq (ln := 12) (by omega) Sg.2 (nI 0)
  have inner : ∀ (u : Nat) (ke : SgtS → Option SgtS) (Q : SgtS), u < n → SgS Q (wO n o pl (fun a => fitB it mv a k) u) Sg.1 → ∃ Q', k_X5_weigh_31 (nI u) N ke fu (nI 0) Q = ke Q' ∧ SgS Q' (wO n o pl (fun a => fitB it mv a k) (u + 1)) Sg.1 := by
    intro u ke Q hu hQ
    obtain ⟨Q', hQ', e⟩ := loop_e (fun m i (Q : SgtS) => k_X5_weigh_31 (nI u) N ke m (nI i) Q) (fun Q => ke Q) (fun i Q => SgS Q (wI n o pl (fun a => fitB it mv a k) u (wO n o pl (fun a => fitB it mv a k) u) i) Sg.1) n Q (by omega) hQ
      (by intro m Q _; rw [k_X5_weigh_31.eq_2, hN.1, q_le_t (by omega) (by omega)])
      (by
        intro m i Q hi hQ
        rw [k_X5_weigh_31.eq_2, hN.1, q_le_f (by omega) (by omega), canTake_eq hN h hu hi]
        simp only [lit, Option.bind_some, q_b0, nI_add]
        rw [wI_s]
        cases ht : tak n o u i with
        | false =>
          simp only [Bool.false_and, Bool.false_eq_true, if_false]
          exact ⟨Q, hQ, rfl⟩
        | true =>
          have lm := lt_4096 (mvd_lt (n := n) (o := o) (pl := pl) u i) hn
          rw [if_pos rfl, Bool.true_and, code_eq, Option.bind_some, movedBy_eq hN h hu hi (tak_ne ht), Option.bind_some]
          obtain ⟨Q2, e2, h2⟩ := fits_eq hQ (wI_ok' hn hu (by omega)) b3 b4 h3 h4 lm (show 16 * u + i < 2147483648 by omega)
          rw [e2, Option.bind_some]
          exact ⟨Q2, h2, rfl⟩)
    exact ⟨Q', e, hQ'⟩
  unfold f_X5_weigh
  simp only [lit]
  rw [eA, Option.bind_some]
  obtain ⟨Q', hQ', e⟩ := loop_e (fun m i (Q : SgtS) => k_X5_weigh_21 N (fun Ss_7 => some Ss_7) m (nI i) Q) (fun Q => some Q) (fun i Q => SgS Q (wO n o pl (fun a => fitB it mv a k) i) Sg.1) n (upd (upd Sg.1 1 (nI 0)) 2 (-nI 9), A) (by omega) ⟨by show upd (upd Sg.1 1 (nI 0)) 2 (-nI 9) 1 = _; rw [pk_un (by decide), pk_us]; rfl, (by show upd (upd Sg.1 1 (nI 0)) 2 (-nI 9) 2 = _; rw [pk_us]; rfl), fun j j1 j2 => by show upd (upd Sg.1 1 (nI 0)) 2 (-nI 9) j = _; rw [pk_un j2, pk_un j1], fun i hi => hA i hi⟩
    (by intro m Q _; rw [k_X5_weigh_21.eq_2, hN.1, q_le_t (by omega) (by omega)])
    (by
      intro m i Q hi hQ
      rw [k_X5_weigh_21.eq_2, hN.1, q_le_f (by omega) (by omega)]
      simp only [lit, nI_add]
      obtain ⟨Q2, e2, h2⟩ := inner i (fun Ss_6 => k_X5_weigh_21 N (fun Ss_7 => some Ss_7) m (nI (i + 1)) Ss_6) Q hi hQ
      exact ⟨Q2, h2, e2⟩)
  exact ⟨Q', e, hQ'⟩
/-! the reference's -/
def Lk5 (M M' : ModS) : Prop := ∀ k, k ≠ 26 → k ≠ 27 → k ≠ 28 → k ≠ 35 → M' k = M k
def UnS (x1 : Int32) (M' : ModS) (mi : Nat → Int32) (n : Nat) (t : Nat × Int32 × (Nat → Nat)) : Prop := x1 = nI t.1 ∧ M' 35 = t.2.1 ∧ ∀ i, i < n → mi i = nI (t.2.2 i)
set_option maxHeartbeats 2000000 in
theorem unseen9_eq (h : Good n o pl od) (hS : RefR S n o pl) (m8 : M 8 = nI n) {it : Nat → Nat} {mv : Nat → Bool} {k : Nat} (m25 : M 25 = nI k) (hk : k ≤ 6) {si sm : Nat → Int32} (hs : ∀ i, i < k → si i = nI (it i) ∧ it i < n ∧ sm i = nI (mv i).toNat) (w ord t mi : Nat → Int32) : ∃ M' w' ord' t' mi' x, f_X9_unseenMany M S w si sm ord t mi = some (x, M', w', ord', t', mi') ∧ Lk5 M M' ∧ UnS x M' mi' n (wO n o pl (fun a => fitB it mv a k) n) := by
  have hn := h.1.2
  -- does it fit
  have i94 : ∀ (x1 x2 x3 : Int32) (M1 : ModS) (w1 o1 t1 q1 : Nat → Int32) (ke : Int32 → Option (Int32 × ModS × (Nat → Int32) × (Nat → Int32) × (Nat → Int32) × (Nat → Int32))) (a : Nat) (b : Bool), M1 25 = nI k → a < 4096 → k_X9_unseenMany_94 x1 x2 x3 (nI a) M1 S w1 si sm o1 t1 q1 ke fu (nI b.toNat) (nI 0) = ke (nI (b && fitB it mv a k).toNat) := by
    intro x1 x2 x3 M1 w1 o1 t1 q1 ke a b e25 ha
    have := loop_v (fun m i => k_X9_unseenMany_94 x1 x2 x3 (nI a) M1 S w1 si sm o1 t1 q1 ke m (nI (b && fitB it mv a i).toNat) (nI i)) (ke (nI (b && fitB it mv a k).toNat)) k (by omega) (by
      intro m
      rw [k_X9_unseenMany_94.eq_2, e25, q_le_t (by omega) (by omega)]) (by
      intro m i hi
      obtain ⟨s1, s2, s3⟩ := hs i hi
      rw [k_X9_unseenMany_94.eq_2, e25, q_le_f (by omega) (by omega)]
      simp only [lit, nI_add]
      simp only [q_in (show i < 6 by omega) (show 6 < 2147483648 by omega), q_cl (show i < 2147483648 by omega)]
      rw [q_b0, s1, s3, q_bit (by omega) (by omega)]
      show _ = k_X9_unseenMany_94 _ _ _ _ _ _ _ _ _ _ _ _ _ m (nI (b && (fitB it mv a i && (a.testBit (it i) == mv i))).toNat) _
      cases b with
      | false => rfl
      | true =>
        cases fitB it mv a i with
        | false => rfl
        | true => cases a.testBit (it i) <;> cases mv i <;> rfl)
    have e0 : (b && fitB it mv a 0) = b := by cases b <;> rfl
    try dsimp only at this
    rw [e0] at this
    exact this
  have i94a : ∀ (x1 x2 x3 : Int32) (M1 : ModS) (w1 o1 t1 q1 : Nat → Int32) (ke : Int32 → Option (Int32 × ModS × (Nat → Int32) × (Nat → Int32) × (Nat → Int32) × (Nat → Int32))) (a : Nat), M1 25 = nI k → a < 4096 → k_X9_unseenMany_94 x1 x2 x3 (nI a) M1 S w1 si sm o1 t1 q1 ke fu (nI 1) (nI 0) = ke (nI (fitB it mv a k).toNat) := fun x1 x2 x3 M1 w1 o1 t1 q1 ke a e ha => i94 x1 x2 x3 M1 w1 o1 t1 q1 ke a true e ha
  have i94b : ∀ (x1 x2 x3 : Int32) (M1 : ModS) (w1 o1 t1 q1 : Nat → Int32) (ke : Int32 → Option (Int32 × ModS × (Nat → Int32) × (Nat → Int32) × (Nat → Int32) × (Nat → Int32))) (a : Nat), M1 25 = nI k → a < 4096 → k_X9_unseenMany_94 x1 x2 x3 (nI a) M1 S w1 si sm o1 t1 q1 ke fu (nI 0) (nI 0) = ke (nI 0) := fun x1 x2 x3 M1 w1 o1 t1 q1 ke a e ha => i94 x1 x2 x3 M1 w1 o1 t1 q1 ke a false e ha
  -- who moves
  have i175 : ∀ (x1 x2 x3 : Int32) (M1 : ModS) (w1 o1 t1 : Nat → Int32) (ke : (Nat → Int32) → Option (Int32 × ModS × (Nat → Int32) × (Nat → Int32) × (Nat → Int32) × (Nat → Int32))) (a : Nat) (A : Nat → Int32) (m0 : Nat → Nat), M1 8 = nI n → a < 4096 → (∀ i, i < n → A i = nI (m0 i)) → ∃ A', k_X9_unseenMany_175 x1 x2 x3 (nI a) M1 S w1 si sm o1 t1 ke fu (nI 0) A = ke A' ∧ ∀ i, i < n → A' i = nI (m0 i + (a.testBit i).toNat) := by
    intro x1 x2 x3 M1 w1 o1 t1 ke a A m0 e8 ha h0
    obtain ⟨A', hA, e⟩ := loop_e (fun m i (T : Nat → Int32) => k_X9_unseenMany_175 x1 x2 x3 (nI a) M1 S w1 si sm o1 t1 ke m (nI i) T) (fun T => ke T) (fun i T => ∀ j, j < n → T j = nI (if j < i then m0 j + (a.testBit j).toNat else m0 j)) n A (by omega) (fun j hj => by rw [if_neg (by omega)]; exact h0 j hj)
      (by intro m T _; rw [k_X9_unseenMany_175.eq_2, e8, q_le_t (by omega) (by omega)])
      (by
        intro m i T hi hT
        rw [k_X9_unseenMany_175.eq_2, e8, q_le_f (by omega) (by omega)]
        simp only [lit]
        rw [q_bit (by omega) (by omega)]
        simp only [q_in (show i < 12 by omega) (show 12 < 2147483648 by omega), q_cl (show i < 2147483648 by omega)]
        rw [hT i hi, if_neg (by omega)]
        simp only [nI_add]
        refine ⟨upd T i (nI (m0 i + (a.testBit i).toNat)), fun j hj => ?_, rfl⟩
        by_cases q : j = i
        · subst q; rw [pk_us, if_pos (by omega)]
        · rw [pk_un q, hT j hj]
          by_cases q2 : j < i
          · rw [if_pos q2, if_pos (by omega)]
          · rw [if_neg q2, if_neg (by omega)])
    exact ⟨A', e, fun i hi => by rw [hA i hi, if_pos hi]⟩
  have i41 : ∀ (u : Nat) (ke : Int32 → ModS → (Nat → Int32) → (Nat → Int32) → (Nat → Int32) → (Nat → Int32) → Option (Int32 × ModS × (Nat → Int32) × (Nat → Int32) × (Nat → Int32) × (Nat → Int32))) (x1 : Int32) (M1 : ModS) (w1 o1 t1 A : Nat → Int32), u < n → Lk5 M M1 → UnS x1 M1 A n (wO n o pl (fun a => fitB it mv a k) u) → ∃ x1' M2 w2 o2 t2 A2, k_X9_unseenMany_41 (nI u) S si sm ke fu x1 (nI 0) M1 w1 o1 t1 A = ke x1' M2 w2 o2 t2 A2 ∧ Lk5 M M2 ∧ UnS x1' M2 A2 n (wO n o pl (fun a => fitB it mv a k) (u + 1)) := by
    intro u ke x1 M1 w1 o1 t1 A hu hM1 hU
    have lo := h.olt hu
    obtain ⟨⟨x2, M2, w2, o2, t2, A2⟩, ⟨hM2, hU2⟩, e⟩ := loop_e (fun m i (z : Int32 × ModS × (Nat → Int32) × (Nat → Int32) × (Nat → Int32) × (Nat → Int32)) => k_X9_unseenMany_41 (nI u) S si sm ke m z.1 (nI i) z.2.1 z.2.2.1 z.2.2.2.1 z.2.2.2.2.1 z.2.2.2.2.2) (fun z => ke z.1 z.2.1 z.2.2.1 z.2.2.2.1 z.2.2.2.2.1 z.2.2.2.2.2) (fun i z => Lk5 M z.2.1 ∧ UnS z.1 z.2.1 z.2.2.2.2.2 n (wI n o pl (fun a => fitB it mv a k) u (wO n o pl (fun a => fitB it mv a k) u) i)) n (x1, M1, w1, o1, t1, A) (by omega) ⟨hM1, hU⟩
      (by
        intro m ⟨x1, M1, w1, o1, t1, A⟩ ⟨hM1, _⟩
        have e8 : M1 8 = nI n := (hM1 8 (by decide) (by decide) (by decide) (by decide)).trans m8
        dsimp only
        rw [k_X9_unseenMany_41.eq_2, e8, q_le_t (by omega) (by omega)])
      (by
        intro m i ⟨x1, M1, w1, o1, t1, A⟩ hi ⟨hM1, hU1, hU2, hU3⟩
        have e8 : M1 8 = nI n := (hM1 8 (by decide) (by decide) (by decide) (by decide)).trans m8
        have e25 : M1 25 = nI k := (hM1 25 (by decide) (by decide) (by decide) (by decide)).trans m25
        dsimp only at hM1 hU1 hU2 hU3 ⊢
        rw [k_X9_unseenMany_41.eq_2, e8, q_le_f (by omega) (by omega), q_eq_n (by omega) (by omega)]
        simp only [lit, nI_add, Nat.zero_add]
        rw [q_in (by omega) (by omega), q_cl (by omega), (hS u hu).1, h9_eq (by omega) (by omega)]
        simp only [Option.bind_some, q_b0]
        rw [wI_s]
        by_cases c : u = i
        · rw [if_pos c]
          have : tak n o u i = false := by
            cases ht : tak n o u i with
            | false => rfl
            | true => exact absurd c (tak_ne ht)
          rw [this, Bool.false_and, if_neg (by decide)]
          exact ⟨(x1, M1, w1, o1, t1, A), ⟨hM1, hU1, hU2, hU3⟩, rfl⟩
        · rw [if_neg c]
          cases hb : (o u).testBit i with
          | true =>
            have : tak n o u i = false := by unfold tak; rw [hb]; simp
            rw [if_pos rfl, this, Bool.false_and, if_neg (by decide)]
            exact ⟨(x1, M1, w1, o1, t1, A), ⟨hM1, hU1, hU2, hU3⟩, rfl⟩
          | false =>
            have hm := lt_4096 (mvd_lt (n := n) (o := o) (pl := pl) u i) hn
            obtain ⟨M2, w2, o2, t2, e2, l2⟩ := movedBy9_eq h hS e8 hu hi c w1 o1 t1
            have f8 : M2 8 = nI n := (l2.2.2.2 8 (by decide) (by decide) (by decide)).trans e8
            have f25 : M2 25 = nI k := (l2.2.2.2 25 (by decide) (by decide) (by decide)).trans e25
            have f35 : M2 35 = M1 35 := l2.2.2.2 35 (by decide) (by decide) (by decide)
            have hM2 : Lk5 M M2 := fun j a b c d => (l2.2.2.2 j a b c).trans (hM1 j a b c d)
            simp only [Bool.false_eq_true, if_false]
            rw [e2, Option.bind_some]
            dsimp only
            have htk : tak n o u i = !clo n o u i := by unfold tak; rw [hb, decide_eq_true c]; simp
            simp only [l2.2.2.1, q_b0]
            rw [htk]
            cases hc : clo n o u i with
            | true =>
              simp only [Bool.not_true, Bool.false_and, Bool.false_eq_true, if_false, if_true]
              rw [i94b _ _ _ M2 _ _ _ _ _ _ f25 hm, if_pos rfl]
              exact ⟨(x1, M2, w2, o2, t2, A), ⟨hM2, hU1, f35.trans hU2, hU3⟩, rfl⟩
            | false =>
              simp only [Bool.not_false, Bool.true_and, Bool.false_eq_true, if_false]
              rw [i94a _ _ _ M2 _ _ _ _ _ _ f25 hm, q_b0]
              have hwk := wI_ok' (o := o) (pl := pl) (ft := fun a => fitB it mv a k) hn hu (show i ≤ n by omega)
              cases hf : fitB it mv (mvd n o pl u i) k with
              | false =>
                simp only [Bool.false_eq_true, if_false]
                exact ⟨(x1, M2, w2, o2, t2, A), ⟨hM2, hU1, f35.trans hU2, hU3⟩, rfl⟩
              | true =>
                simp only [if_true]
                rw [hU1, q_eq_n (by have := hwk.1; omega) (by omega), q_mul, nI_add, nI_add]
                have f8' : ∀ y, (upd M2 35 y) 8 = nI n := fun y => by rw [pk_un (by decide)]; exact f8
                have hM3 : ∀ y, Lk5 M (upd M2 35 y) := fun y j a b c d => by rw [pk_un d]; exact hM2 j a b c d
                by_cases c0 : (wI n o pl (fun a => fitB it mv a k) u (wO n o pl (fun a => fitB it mv a k) u) i).1 = 0
                · rw [if_pos c0]
                  obtain ⟨A', e3, hA'⟩ := i175 (nI ((wI n o pl (fun a => fitB it mv a k) u (wO n o pl (fun a => fitB it mv a k) u) i).1 + 1)) (nI u) (nI i) (upd M2 35 (nI (16 * u + i))) w2 o2 t2 (fun m_movedIf_9 => k_X9_unseenMany_41 (nI u) S si sm ke m (nI ((wI n o pl (fun a => fitB it mv a k) u (wO n o pl (fun a => fitB it mv a k) u) i).1 + 1)) (nI (i + 1)) (upd M2 35 (nI (16 * u + i))) w2 o2 t2 m_movedIf_9) (mvd n o pl u i) A _ (f8' _) hm hU3
                  rw [e3]
                  refine ⟨(nI ((wI n o pl (fun a => fitB it mv a k) u (wO n o pl (fun a => fitB it mv a k) u) i).1 + 1), upd M2 35 (nI (16 * u + i)), w2, o2, t2, A'), ⟨hM3 _, rfl, ?_, hA'⟩, rfl⟩
                  show upd M2 35 (nI (16 * u + i)) 35 = if _ = 0 then nI (16 * u + i) else _
                  rw [pk_us, if_pos c0]
                · rw [if_neg c0]
                  obtain ⟨A', e3, hA'⟩ := i175 (nI ((wI n o pl (fun a => fitB it mv a k) u (wO n o pl (fun a => fitB it mv a k) u) i).1 + 1)) (nI u) (nI i) (upd M2 35 (M2 35)) w2 o2 t2 (fun m_movedIf_9 => k_X9_unseenMany_41 (nI u) S si sm ke m (nI ((wI n o pl (fun a => fitB it mv a k) u (wO n o pl (fun a => fitB it mv a k) u) i).1 + 1)) (nI (i + 1)) (upd M2 35 (M2 35)) w2 o2 t2 m_movedIf_9) (mvd n o pl u i) A _ (f8' _) hm hU3
                  rw [e3]
                  refine ⟨(nI ((wI n o pl (fun a => fitB it mv a k) u (wO n o pl (fun a => fitB it mv a k) u) i).1 + 1), upd M2 35 (M2 35), w2, o2, t2, A'), ⟨hM3 _, rfl, ?_, hA'⟩, rfl⟩
                  show upd M2 35 (M2 35) 35 = if _ = 0 then nI (16 * u + i) else _
                  rw [pk_us, if_neg c0, f35]; exact hU2)
    exact ⟨x2, M2, w2, o2, t2, A2, e, hM2, hU2⟩
  unfold f_X9_unseenMany
  simp only [lit]
  obtain ⟨A0, hA0, e0⟩ := loop_e (fun m i (T : Nat → Int32) => k_X9_unseenMany_8 (upd M 35 (-nI 9)) S w si sm ord t (fun m_movedIf_1 => (k_X9_unseenMany_31 S si sm (fun x1_11 Mm_11 m_w_11 m_order_11 m_tried_11 m_movedIf_11 => (some (x1_11, Mm_11, m_w_11, m_order_11, m_tried_11, m_movedIf_11))) fu (nI 0) (nI 0) (upd M 35 (-nI 9)) w ord t m_movedIf_1)) m (nI i) T) (fun T => k_X9_unseenMany_31 S si sm (fun x1_11 Mm_11 m_w_11 m_order_11 m_tried_11 m_movedIf_11 => (some (x1_11, Mm_11, m_w_11, m_order_11, m_tried_11, m_movedIf_11))) fu (nI 0) (nI 0) (upd M 35 (-nI 9)) w ord t T) (fun i T => ∀ j, j < i → T j = nI 0) 12 mi (by omega) (fun _ q => absurd q (Nat.not_lt_zero _))
    (by intro m T _; rw [k_X9_unseenMany_8.eq_2]; simp only [lit]; rw [q_le_t (by omega) (by omega)])
    (by
      intro m i T hi hT
      rw [k_X9_unseenMany_8.eq_2]
      simp only [lit]
      rw [q_le_f (by omega) (by omega), q_in (by omega) (by omega), q_cl (by omega)]
      simp only [nI_add]
      refine ⟨upd T i (nI 0), fun j hj => ?_, rfl⟩
      rcases (show j < i ∨ j = i by omega) with q | q
      · rw [pk_un (by omega)]; exact hT j q
      · subst q; rw [pk_us])
  rw [e0]
  obtain ⟨⟨x2, M2, w2, o2, t2, A2⟩, ⟨hM2, hU2⟩, e⟩ := loop_e (fun m i (z : Int32 × ModS × (Nat → Int32) × (Nat → Int32) × (Nat → Int32) × (Nat → Int32)) => k_X9_unseenMany_31 S si sm (fun x1_11 Mm_11 m_w_11 m_order_11 m_tried_11 m_movedIf_11 => (some (x1_11, Mm_11, m_w_11, m_order_11, m_tried_11, m_movedIf_11))) m z.1 (nI i) z.2.1 z.2.2.1 z.2.2.2.1 z.2.2.2.2.1 z.2.2.2.2.2) (fun z => some z) (fun i z => Lk5 M z.2.1 ∧ UnS z.1 z.2.1 z.2.2.2.2.2 n (wO n o pl (fun a => fitB it mv a k) i)) n (nI 0, upd M 35 (-nI 9), w, ord, t, A0) (by omega) ⟨fun j _ _ _ d => pk_un d, rfl, (by show upd M 35 (-nI 9) 35 = _; rw [pk_us]; rfl), fun i hi => hA0 i (by omega)⟩
    (by
      intro m ⟨x1, M1, w1, o1, t1, A⟩ ⟨hM1, _⟩
      have e8 : M1 8 = nI n := (hM1 8 (by decide) (by decide) (by decide) (by decide)).trans m8
      dsimp only
      rw [k_X9_unseenMany_31.eq_2, e8, q_le_t (by omega) (by omega)])
    (by
      intro m i ⟨x1, M1, w1, o1, t1, A⟩ hi ⟨hM1, hU⟩
      have e8 : M1 8 = nI n := (hM1 8 (by decide) (by decide) (by decide) (by decide)).trans m8
      dsimp only at hM1 hU ⊢
      rw [k_X9_unseenMany_31.eq_2, e8, q_le_f (by omega) (by omega)]
      simp only [lit, nI_add]
      obtain ⟨x2, M2, w2, o2, t2, A2, e, h1, h2⟩ := i41 i (fun x1_10 Mm_10 m_w_10 m_order_10 m_tried_10 m_movedIf_10 => k_X9_unseenMany_31 S si sm (fun x1_11 Mm_11 m_w_11 m_order_11 m_tried_11 m_movedIf_11 => (some (x1_11, Mm_11, m_w_11, m_order_11, m_tried_11, m_movedIf_11))) m x1_10 (nI (i + 1)) Mm_10 m_w_10 m_order_10 m_tried_10 m_movedIf_10) x1 M1 w1 o1 t1 A hi hM1 hU
      exact ⟨(x2, M2, w2, o2, t2, A2), ⟨h1, h2⟩, e⟩)
  exact ⟨M2, w2, o2, t2, A2, x2, e, hM2, hU2⟩
/-! the item to look at -/
def grt (t : Nat × Int32 × (Nat → Nat)) (i : Nat) : Nat := if t.2.2 i < t.1 - t.2.2 i then t.1 - t.2.2 i else t.2.2 i
def bF (t : Nat × Int32 × (Nat → Nat)) (L : Nat) : Nat → Int32 × Nat
  | 0 => (-nI 9, L)
  | i + 1 => if (bF t L i).2 ≤ grt t i then bF t L i else (nI i, grt t i)
theorem bF_s (t : Nat × Int32 × (Nat → Nat)) (L i : Nat) : bF t L (i + 1) = if (bF t L i).2 ≤ grt t i then bF t L i else (nI i, grt t i) := rfl
theorem grt_le {t : Nat × Int32 × (Nat → Nat)} (h : ∀ i, t.2.2 i ≤ t.1) (i : Nat) : grt t i ≤ t.1 := by
  unfold grt
  have := h i
  split <;> omega
theorem bF_le {t : Nat × Int32 × (Nat → Nat)} {L : Nat} (h : ∀ i, t.2.2 i ≤ t.1) (hL : t.1 ≤ L) : ∀ i, (bF t L i).2 ≤ L
  | 0 => Nat.le_refl _
  | i + 1 => by
    rw [bF_s]
    have := grt_le h i
    split
    · exact bF_le h hL i
    · show grt t i ≤ L; omega
theorem bF_same {t : Nat × Int32 × (Nat → Nat)} {L K : Nat} (h : ∀ i, t.2.2 i ≤ t.1) (hL : t.1 < L) (hK : t.1 < K) : ∀ i, bF t L (i + 1) = bF t K (i + 1)
  | 0 => by
    have := grt_le h 0
    rw [bF_s, bF_s]
    show (if L ≤ grt t 0 then _ else _) = (if K ≤ grt t 0 then _ else _)
    rw [if_neg (by omega), if_neg (by omega)]
  | i + 1 => by rw [bF_s, bF_s t K (i + 1), bF_same h hL hK i]
theorem best_eq (hN : NetR N n o pl od) (h : Good n o pl od) {Sg : SgtS} {t : Nat × Int32 × (Nat → Nat)} {B : Nat → Int32} (hS : SgS Sg t B) (hw : wok 200 t) : f_X5_bestItem Sg N = some (if 1 < t.1 then (bF t (t.1 + 1) n).1 else -nI 9) := by
  have hn := h.1.2
  have hw1 := hw.1
  obtain ⟨s1, s2, s3, s4⟩ := hS
  unfold f_X5_bestItem
  rw [s1]
  simp only [lit]
  rw [q_lt_n (by omega) (by omega)]
  by_cases c : 1 < t.1
  · rw [if_pos c, if_pos c, nI_add]
    refine loop_v (fun m i => k_X5_bestItem_24 Sg N (fun x2_1 => some x2_1) m (bF t (t.1 + 1) i).1 (nI (bF t (t.1 + 1) i).2) (nI i)) _ n (by omega) ?_ ?_
    · intro m
      rw [k_X5_bestItem_24.eq_2, hN.1, q_le_t (by omega) (by omega)]
    · intro m i hi
      have h4 := hw.2.2.2 i
      have h5 := bF_le (L := t.1 + 1) hw.2.2.2 (by omega) i
      have h6 := grt_le hw.2.2.2 i
      rw [k_X5_bestItem_24.eq_2, hN.1, q_le_f (by omega) (by omega)]
      simp only [q_in (show i < 12 by omega) (show 12 < 2147483648 by omega), q_cl (show i < 2147483648 by omega)]
      rw [s4 i (by omega), s1, q_sub h4, q_max (by omega) (by omega), show (if t.2.2 i < t.1 - t.2.2 i then t.1 - t.2.2 i else t.2.2 i) = grt t i from rfl, q_le_n (by omega) (by omega), bF_s]
      simp only [lit, nI_add]
      by_cases q : (bF t (t.1 + 1) i).2 ≤ grt t i
      · rw [if_pos q, if_pos q]
      · rw [if_neg q, if_neg q]
  · rw [if_neg c, if_neg c]
theorem look_loop {M' : ModS} (m8 : M' 8 = nI n) (hn : n ≤ 12) {x1 : Int32} {A : Nat → Int32} {t : Nat × Int32 × (Nat → Nat)} (hU : UnS x1 M' A n t) (hw : wok 200 t) (w si sm ord tr : Nat → Int32) (ke : Int32 → Option (Int32 × ModS × (Nat → Int32) × (Nat → Int32) × (Nat → Int32) × (Nat → Int32))) : k_X9_look_20 x1 M' S w si sm ord tr A ke fu (-nI 9) (nI 999) (nI 0) = ke (if 1 < t.1 then (bF t 999 n).1 else -nI 9) := by
  obtain ⟨u1, u2, u3⟩ := hU
  have hw1 := hw.1
  by_cases c : 1 < t.1
  · rw [if_pos c]
    refine loop_v (fun m i => k_X9_look_20 x1 M' S w si sm ord tr A ke m (bF t 999 i).1 (nI (bF t 999 i).2) (nI i)) _ n (by omega) ?_ ?_
    · intro m
      rw [k_X9_look_20.eq_2, m8, q_le_t (by omega) (by omega)]
    · intro m i hi
      have h4 := hw.2.2.2 i
      have h5 := bF_le (L := 999) hw.2.2.2 (by omega) i
      rw [k_X9_look_20.eq_2, m8, q_le_f (by omega) (by omega), u1]
      simp only [lit, nI_add]
      rw [q_le_f (by omega) (by omega)]
      simp only [q_in (show i < 12 by omega) (show 12 < 2147483648 by omega), q_cl (show i < 2147483648 by omega)]
      rw [u3 i hi, q_sub h4, q_le_n (by omega) (by omega), bF_s]
      simp only [q_le_n (show (bF t 999 i).2 < 2147483648 by omega) (show t.1 - t.2.2 i < 2147483648 by omega), q_le_n (show (bF t 999 i).2 < 2147483648 by omega) (show t.2.2 i < 2147483648 by omega)]
      by_cases q : t.2.2 i ≤ t.1 - t.2.2 i
      · have eg : grt t i = t.1 - t.2.2 i := by unfold grt; split <;> omega
        rw [if_pos q, eg]
        by_cases q2 : (bF t 999 i).2 ≤ t.1 - t.2.2 i
        · simp only [if_pos q2]
        · simp only [if_neg q2]
      · have eg : grt t i = t.2.2 i := by unfold grt; split <;> omega
        rw [if_neg q, eg]
        by_cases q2 : (bF t 999 i).2 ≤ t.2.2 i
        · simp only [if_pos q2]
        · simp only [if_neg q2]
  · rw [if_neg c, show fu = 4999 + 1 from rfl, k_X9_look_20.eq_2, u1]
    simp only [lit]
    rw [show (if nI t.1 ≤ nI 1 then ke (-nI 9) else _) = ke (-nI 9) from if_pos ((q_le (by omega) (by omega)).mpr (by omega))]
    split <;> rfl
end SGT
