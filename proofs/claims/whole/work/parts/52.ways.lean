/-! ===== in how many ways the others can come ===== -/
def iL (n : Nat) : Int64 := Int64.ofNat n
theorem lit6 (n : Nat) : (OfNat.ofNat n : Int64) = iL n := rfl
theorem iL_add (a b : Nat) : iL a + iL b = iL (a + b) := by
  apply Int64.toBitVec_inj.1
  show BitVec.ofNat 64 a + BitVec.ofNat 64 b = BitVec.ofNat 64 (a + b)
  rw [BitVec.ofNat_add]
theorem iL_sub {a b : Nat} (h : b ≤ a) : iL a - iL b = iL (a - b) := by
  rw [show iL a = iL (a - b) + iL b by rw [iL_add]; congr 1; omega]
  apply Int64.toBitVec_inj.1
  show (iL (a - b)).toBitVec + (iL b).toBitVec - (iL b).toBitVec = (iL (a - b)).toBitVec
  exact BitVec.add_sub_cancel _ _
theorem iL_int {a : Nat} (h : a < 9223372036854775808) : (iL a).toInt = (a : Int) := Int64.toInt_ofNat_of_lt (n := a) (by omega)
theorem iL_lt {a b : Nat} (ha : a < 9223372036854775808) (hb : b < 9223372036854775808) : iL a < iL b ↔ a < b := by
  rw [Int64.lt_iff_toInt_lt, iL_int ha, iL_int hb]
  omega
theorem iL_le {a b : Nat} (ha : a < 9223372036854775808) (hb : b < 9223372036854775808) : iL a ≤ iL b ↔ a ≤ b := by
  rw [Int64.le_iff_toInt_le, iL_int ha, iL_int hb]
  omega
theorem iL_of {x : Int64} (h : iL 0 ≤ x) : ∃ j, j < 9223372036854775808 ∧ x = iL j := by
  rw [Int64.le_iff_toInt_le, iL_int (by omega)] at h
  have h2 := Int64.toInt_lt x
  refine ⟨x.toInt.toNat, by omega, ?_⟩
  apply Int64.toInt_inj.1
  rw [iL_int (by omega)]
  omega
theorem cm0 {x y : Int64} : nI 0 ≤ lg_cmp x y ↔ y ≤ x := lg_cmp_ge x y
theorem cm1 {x y : Int64} : lg_cmp x y < nI 0 ↔ x < y := lg_cmp_lt x y
theorem q_cge {α : Type} {a b : Nat} {X Y : α} (ha : a < 9223372036854775808) (hb : b < 9223372036854775808) : (if nI 0 ≤ lg_cmp (iL a) (iL b) then X else Y) = if b ≤ a then X else Y := by
  by_cases c : b ≤ a
  · rw [if_pos c, if_pos (cm0.mpr ((iL_le hb ha).mpr c))]
  · rw [if_neg c, if_neg (fun q => c ((iL_le hb ha).mp (cm0.mp q)))]
theorem q_clt {α : Type} {a b : Nat} {X Y : α} (ha : a < 9223372036854775808) (hb : b < 9223372036854775808) : (if lg_cmp (iL a) (iL b) < nI 0 then X else Y) = if a < b then X else Y := by
  by_cases c : a < b
  · rw [if_pos c, if_pos (cm1.mpr ((iL_lt ha hb).mpr c))]
  · rw [if_neg c, if_neg (fun q => c ((iL_lt ha hb).mp (cm1.mp q)))]
theorem uL_s {f : Nat → Int64} {k : Nat} {x : Int64} : vp_updL f k x k = x := if_pos rfl
theorem uL_n {f : Nat → Int64} {k j : Nat} {x : Int64} (h : j ≠ k) : vp_updL f k x j = f j := if_neg h
section WAY
variable {n : Nat} {o pl od : Nat → Nat} {N : NetS} {M : ModS} {S : Nat → Int32}
def wF (n : Nat) (o : Nat → Nat) : Nat → Nat → Nat
  | 0, _ => 1
  | d + 1, s => sumN (fun u => if rd n o s u then wF n o d (s ||| 2 ^ u) else 0) n
def wN (n : Nat) (o : Nat → Nat) (s : Nat) : Nat := wF n o (n - cnt s.testBit n) s
/-- the ways over an item that comes next -/
def wU (n : Nat) (o : Nat → Nat) (s u : Nat) : Nat := if rd n o s u then wN n o (s ||| 2 ^ u) else 0
theorem rd_nb {s u : Nat} (h : rd n o s u = true) : s.testBit u = false := by
  unfold rd at h
  rw [Bool.and_eq_true, Bool.not_eq_true'] at h
  exact h.1
theorem cnt_add {s u : Nat} (hu : u < n) (h : s.testBit u = false) : cnt (s ||| 2 ^ u).testBit n = cnt s.testBit n + 1 := by
  refine cnt_one hu (fun i _ hne => ?_) h (or_bit.mpr (Or.inr (p2_bit.mpr rfl)))
  rw [Nat.testBit_or, Nat.testBit_two_pow_of_ne (Ne.symm hne), Bool.or_false]
theorem cnt_full : ∀ {n : Nat} {f : Nat → Bool}, (∀ i, i < n → f i = true) → cnt f n = n
  | 0, _, _ => rfl
  | n + 1, f, h => by rw [cnt_s, cnt_full (fun i hi => h i (by omega)), h n (by omega)]; rfl
theorem cnt_nfull : ∀ {n : Nat} {f : Nat → Bool} {i : Nat}, i < n → f i = false → cnt f n < n
  | 0, _, _, h, _ => absurd h (Nat.not_lt_zero _)
  | n + 1, f, i, h, hf => by
    rw [cnt_s]
    rcases (show i < n ∨ i = n by omega) with q | q
    · have := cnt_nfull q hf
      cases f n <;> simp <;> omega
    · subst q
      rw [hf]
      have := cnt_le f i
      simp
      omega
theorem ex_miss {s : Nat} (hs : s < 2 ^ n) (hne : s ≠ 2 ^ n - 1) : ∃ i, i < n ∧ s.testBit i = false := by
  apply Classical.byContradiction
  intro hn
  apply hne
  apply eq_bits2
  intro x
  rw [ev_bit]
  constructor
  · intro hx
    rcases Nat.lt_or_ge x n with c | c
    · exact c
    · rw [bits_of_lt hs c] at hx; cases hx
  · intro hx
    cases hb : s.testBit x with
    | true => rfl
    | false => exact absurd ⟨x, hx, hb⟩ hn
theorem or_p2 {s u : Nat} (hs : s < 2 ^ n) (hu : u < n) : s ||| 2 ^ u < 2 ^ n := or_lt2 hs (p2_lt hu)
theorem wN_ev : wN n o (2 ^ n - 1) = 1 := by
  unfold wN
  rw [cnt_full (fun i hi => ev_bit.mpr hi), Nat.sub_self]; rfl
theorem wN_s {s : Nat} (hs : s < 2 ^ n) (hne : s ≠ 2 ^ n - 1) : wN n o s = sumN (wU n o s) n := by
  obtain ⟨i, hi, hb⟩ := ex_miss hs hne
  have := cnt_nfull hi hb
  unfold wN
  obtain ⟨d, hd⟩ : ∃ d, n - cnt s.testBit n = d + 1 := ⟨n - cnt s.testBit n - 1, by omega⟩
  rw [hd]
  refine sumN_c (fun u hu => ?_)
  unfold wU
  cases hr : rd n o s u with
  | false => rfl
  | true =>
    rw [if_pos rfl, if_pos rfl]
    unfold wN
    rw [cnt_add hu (rd_nb hr), show n - (cnt s.testBit n + 1) = d by omega]
theorem wU_ev {u : Nat} (hu : u < n) : wU n o (2 ^ n - 1) u = 0 := by
  unfold wU
  cases hr : rd n o (2 ^ n - 1) u with
  | false => rfl
  | true =>
    have := rd_nb hr
    rw [ev_bit.mpr hu] at this; cases this
theorem sumN_0 : ∀ {n : Nat} {f : Nat → Nat}, (∀ i, i < n → f i = 0) → sumN f n = 0
  | 0, _, _ => rfl
  | n + 1, f, h => by show sumN f n + f n = 0; rw [sumN_0 (fun i hi => h i (by omega)), h n (by omega)]
theorem sumN_ge : ∀ {n : Nat} {f : Nat → Nat} {i : Nat}, i < n → f i ≤ sumN f n
  | 0, _, _, h => absurd h (Nat.not_lt_zero _)
  | n + 1, f, i, h => by
    show f i ≤ sumN f n + f n
    rcases (show i < n ∨ i = n by omega) with q | q
    · have := sumN_ge (f := f) q; omega
    · subst q; omega
theorem sumN_le {f : Nat → Nat} {c : Nat} : ∀ {n : Nat}, (∀ i, i < n → f i ≤ c) → sumN f n ≤ n * c
  | 0, _ => by show (0 : Nat) ≤ _; omega
  | n + 1, h => by
    show sumN f n + f n ≤ (n + 1) * c
    have := sumN_le (f := f) (c := c) (n := n) (fun i hi => h i (by omega))
    have := h n (by omega)
    rw [Nat.add_mul, Nat.one_mul]; omega
theorem wF_le (hn : n ≤ 12) : ∀ d s, wF n o d s ≤ 12 ^ d
  | 0, _ => Nat.le_refl _
  | d + 1, s => by
    show sumN _ n ≤ 12 ^ (d + 1)
    have := sumN_le (n := n) (f := fun u => if rd n o s u then wF n o d (s ||| 2 ^ u) else 0) (c := 12 ^ d) (fun i _ => by
      try dsimp only
      split
      · exact wF_le hn d _
      · exact Nat.zero_le _)
    rw [Nat.pow_succ]
    have h2 : n * 12 ^ d ≤ 12 * 12 ^ d := Nat.mul_le_mul_right _ hn
    rw [Nat.mul_comm 12] at h2
    omega
theorem wN_lt (hn : n ≤ 12) (s : Nat) : wN n o s ≤ 8916100448256 := by
  unfold wN
  have h1 := wF_le (n := n) (o := o) hn (n - cnt s.testBit n) s
  have h2 : 12 ^ (n - cnt s.testBit n) ≤ 12 ^ 12 := Nat.pow_le_pow_right (by decide) (by omega)
  have h3 : 12 ^ 12 = 8916100448256 := by decide
  omega
/-- one that can come next: of all that miss, the one that stands first -/
theorem ex_rd (h : Good n o pl od) {s : Nat} (hs : s < 2 ^ n) (hne : s ≠ 2 ^ n - 1) : ∃ u, u < n ∧ rd n o s u = true := by
  obtain ⟨i, hi, hb⟩ := ex_miss hs hne
  have hpi := h.2.2.1 i hi
  obtain ⟨_, b, c, d⟩ := fnd_spec (fun p => !s.testBit (od p)) n 0 (pl i) (by omega) (by omega) (by rw [hpi.2, hb]; rfl)
  have hp : fnd (fun p => !s.testBit (od p)) n 0 < n := by omega
  have ho := h.2.2.2.1 _ hp
  refine ⟨od (fnd (fun p => !s.testBit (od p)) n 0), ho.1, (rd_iff ho.1).mpr ⟨?_, fun x hx => ?_⟩⟩
  · intro q
    rw [q] at c; cases c
  · have hlt := h.2.2.2.2 x _ hx
    rw [ho.2] at hlt
    have := d (pl x) (by omega) hlt
    rw [(h.2.2.1 x hx.1).2] at this
    cases hq : s.testBit x with
    | true => rfl
    | false => rw [hq] at this; cases this
theorem wN_pos (h : Good n o pl od) : ∀ d s, s < 2 ^ n → n - cnt s.testBit n = d → 1 ≤ wN n o s
  | 0, s, hs, hd => by unfold wN; rw [hd]; exact Nat.le_refl _
  | d + 1, s, hs, hd => by
    have hne : s ≠ 2 ^ n - 1 := fun e => by
      rw [e, cnt_full (fun i hi => ev_bit.mpr hi)] at hd; omega
    obtain ⟨u, hu, hr⟩ := ex_rd h hs hne
    rw [wN_s hs hne]
    have h1 := wN_pos h d (s ||| 2 ^ u) (or_p2 hs hu) (by rw [cnt_add hu (rd_nb hr)]; omega)
    have h2 := sumN_ge (f := wU n o s) hu
    have h3 : wU n o s u = wN n o (s ||| 2 ^ u) := by unfold wU; rw [hr, if_pos rfl]
    omega
theorem canNext_eq (h : Good n o pl od) (hS : RefR S n o pl) (m8 : M 8 = nI n) {s u : Nat} (hs : s < 4096) (hu : u < n) : f_X9_canNext M S (nI s) (nI u) = some (nI (rd n o s u).toNat) := by
  have hn := h.1.2
  have h3 := lt_4096 (ndf_lt (b := s) (tr_lt n o u)) hn
  unfold f_X9_canNext rd
  rw [h9_eq (by omega) (by omega), Option.bind_some, into_eq h hS m8 (by omega), Option.bind_some]
  simp only [lit]
  rw [q_b0, q_ndf, q_eq_n (by omega) (by omega)]
  cases s.testBit u with
  | true => rfl
  | false =>
    rw [if_neg (by decide)]
    by_cases c : ndf (tr n o u) s = 0
    · rw [if_pos c, decide_eq_true c]; rfl
    · rw [if_neg c, decide_eq_false c]; rfl
theorem isReady_rd (hN : NetR N n o pl od) (h : Good n o pl od) {u s : Nat} (hu : u < n) (hs : s < 4096) : f_X3_isReady N (nI u) (nI s) = some (nI (rd n o s u).toNat) := isReady_eq hN h hu hs
def WayR (W : Nat → Int64) (n : Nat) (o : Nat → Nat) : Prop := ∀ s, s < 2 ^ n → W s = iL (wN n o s)
theorem or_gt {s u : Nat} (h : s.testBit u = false) : s < s ||| 2 ^ u := by
  have h1 : s ≤ s ||| 2 ^ u := Nat.left_le_or
  rcases Nat.lt_or_ge s (s ||| 2 ^ u) with c | c
  · exact c
  · have e : s ||| 2 ^ u = s := by omega
    have : (s ||| 2 ^ u).testBit u = true := or_bit.mpr (Or.inr (p2_bit.mpr rfl))
    rw [e, h] at this; cases this
theorem waysOn_eq (hN : NetR N n o pl od) (h : Good n o pl od) {s : Nat} (hs : s < 2 ^ n) (hne : s ≠ 2 ^ n - 1) {W : TalS} (hW : ∀ t, s < t → t < 2 ^ n → W.2 t = iL (wN n o t)) : f_X6_waysOn W N (nI s) = some (iL (wN n o s)) := by
  have hn := h.1.2
  have ls := lt_4096 hs hn
  unfold f_X6_waysOn
  simp only [lit, lit6]
  rw [wN_s hs hne]
  refine loop_v (fun m i => k_X6_waysOn_5 (nI s) W N (fun x => some x) m (iL (sumN (wU n o s) i)) (nI i)) _ n (by omega) ?_ ?_
  · intro m
    rw [k_X6_waysOn_5.eq_2, hN.1, q_le_t (by omega) (by omega)]
  · intro m i hi
    have ho := or_p2 (u := i) hs hi
    have lo := lt_4096 ho hn
    rw [k_X6_waysOn_5.eq_2, hN.1, q_le_f (by omega) (by omega), isReady_rd hN h hi ls]
    simp only [lit, Option.bind_some, nI_add]
    rw [q_b0, q_sh (k := i) (by omega), q_or, q_in (by omega) (by omega), q_cl (by omega)]
    show _ = k_X6_waysOn_5 _ _ _ _ m (iL (sumN (wU n o s) i + wU n o s i)) _
    cases hr : rd n o s i with
    | false =>
      have : wU n o s i = 0 := by unfold wU; rw [hr]; rfl
      rw [this]; rfl
    | true =>
      have : wU n o s i = wN n o (s ||| 2 ^ i) := by unfold wU; rw [hr]; rfl
      rw [if_pos rfl, hW _ (or_gt (rd_nb hr)) ho, iL_add, this]
/-- what the tally keeps -/
def TalR (W : TalS) (D : NetS) : Prop := W.1 = nI 0 ∨ ∃ n o, (1 ≤ n ∧ n ≤ 12) ∧ D.1 = nI n ∧ (∀ u, u < n → o u < 4096 ∧ D.2.2.1 u = nI (o u)) ∧ WayR W.2 n o
theorem wF_c {o2 : Nat → Nat} (he : ∀ u, u < n → o u = o2 u) : ∀ d s, wF n o d s = wF n o2 d s
  | 0, _ => rfl
  | d + 1, s => by
    have ht : ∀ u, tr n o u = tr n o2 u := fun u => by
      refine eq_msk (tr_lt n o u) (fun i hi => ?_)
      unfold tr
      rw [msk_bit, decide_eq_true hi, Bool.true_and, he i hi]
    refine sumN_c (fun u hu => ?_)
    have : rd n o s u = rd n o2 s u := by unfold rd; rw [ht]
    try dsimp only
    rw [this, wF_c he d]
theorem tally_all (hN : NetR N n o pl od) (h : Good n o pl od) (W : TalS) (D : NetS) : ∃ W' D', (∀ r1, f_X3_everyItem N = some r1 → inR r1 4096 ((k_X6_prepare_35 D N (fun Ww_3 => ((f_X3_copyOf D N).bind fun r4 => (some (((1 : Int32), Ww_3.2), r4)))) fu (r1 - (1 : Int32)) (W.1, (vp_updL W.2 (r1).toNatClampNeg (1 : Int64))))) = some (W', D')) ∧ WayR W'.2 n o ∧ TalR W' D' := by
  have hn := h.1.2
  have hp := p2_12 hn
  have hpp := p2_pos n
  obtain ⟨D', eD, hD⟩ := copyOf_eq hn hN D
  have := loop_dn (fun m i (T : Nat → Int64) => k_X6_prepare_35 D N (fun Ww_3 => ((f_X3_copyOf D N).bind fun r4 => (some (((1 : Int32), Ww_3.2), r4)))) m (dI i) (W.1, T)) (fun i T => i ≤ 2 ^ n - 1 ∧ ∀ t, i ≤ t → t < 2 ^ n → T t = iL (wN n o t)) (fun b => ∃ T, b = some (((1 : Int32), T), D') ∧ WayR T n o) 0 ?_ ?_ (2 ^ n - 1) fu (vp_updL W.2 (2 ^ n - 1) (iL 1)) (by rw [fu_eq]; omega) ⟨by omega, fun t h1 h2 => ?_⟩
  · rw [Nat.zero_add] at this
    obtain ⟨T, e, hT⟩ := this
    refine ⟨((1 : Int32), T), D', fun r1 hr => ?_, hT, Or.inr ⟨n, o, h.1, hD.1, fun u hu => ⟨h.olt hu, hD.2.2.1 u hu⟩, hT⟩⟩
    rw [every_eq hN h] at hr
    cases hr
    rw [q_in (by omega) (by omega), q_cl (by omega)]
    exact e
  · intro m T ⟨_, hT⟩
    rw [k_X6_prepare_35.eq_2]
    simp only [lit]
    rw [dI_lt_t (by omega) (by omega), eD, Option.bind_some]
    exact ⟨T, rfl, fun s hs => hT s (by omega) hs⟩
  · intro m i T _ ⟨a, hT⟩
    left
    rw [k_X6_prepare_35.eq_2]
    simp only [lit]
    rw [dI_lt_f (by omega) (by omega), dI_s, waysOn_eq hN h (s := i) (by omega) (by omega) (W := (W.1, T)) (fun t h1 h2 => hT t (by omega) h2), Option.bind_some, q_in (by omega) (by omega), q_cl (by omega), dI_m]
    refine ⟨vp_updL T i (iL (wN n o i)), ⟨by omega, fun t h1 h2 => ?_⟩, rfl⟩
    by_cases q : t = i
    · subst q; rw [uL_s]
    · rw [uL_n q]; exact hT t (by omega) h2
  · have : t = 2 ^ n - 1 := by omega
    subst this
    rw [uL_s, wN_ev]
theorem hasArcs_eq (hN : NetR N n o pl od) (h : Good n o pl od) {D : NetS} {n2 : Nat} {o2 : Nat → Nat} (hn2 : n2 ≤ 12) (h1 : D.1 = nI n2) (h2 : ∀ u, u < n2 → o2 u < 4096 ∧ D.2.2.1 u = nI (o2 u)) : ∃ b : Bool, f_X3_hasArcsOf D N = some (nI b.toNat) ∧ (b = true → n2 = n ∧ ∀ u, u < n → o u = o2 u) := by
  have hn := h.1.2
  unfold f_X3_hasArcsOf
  rw [h1, hN.1, q_eq_n (by omega) (by omega)]
  by_cases c : n2 = n
  · subst c
    rw [if_pos rfl]
    simp only [lit]
    refine loop_up (fun m i (_ : Unit) => k_X3_hasArcsOf_15 D N (some (nI 1)) m (nI i)) (fun i _ => ∀ u, u < i → o u = o2 u) (fun b => ∃ c : Bool, b = some (nI c.toNat) ∧ (c = true → True ∧ ∀ u, u < n2 → o u = o2 u)) n2 ?_ ?_ n2 0 fu () (by omega) (by rw [fu_eq]; omega) (fun _ q => absurd q (Nat.not_lt_zero _))
    · intro m _ hI
      rw [k_X3_hasArcsOf_15.eq_2, h1, q_le_t (by omega) (by omega)]
      exact ⟨true, rfl, fun _ => ⟨trivial, hI⟩⟩
    · intro m i _ hi hI
      have l1 := (h2 i hi).1
      have l2 := h.olt hi
      rw [k_X3_hasArcsOf_15.eq_2, h1, q_le_f (by omega) (by omega)]
      simp only [q_in (show i < 12 by omega) (show 12 < 2147483648 by omega), q_cl (show i < 2147483648 by omega)]
      rw [(h2 i hi).2, hN.2.2.1 i hi, q_eq_n (by omega) (by omega)]
      by_cases q : o2 i = o i
      · left
        rw [if_pos q]
        simp only [lit, nI_add]
        refine ⟨(), fun u hu => ?_, trivial⟩
        rcases (show u < i ∨ u = i by omega) with r | r
        · exact hI u r
        · subst r; exact q.symm
      · right
        rw [if_neg q]
        exact ⟨false, rfl, fun e => by cases e⟩
  · rw [if_neg c]
    exact ⟨false, rfl, fun e => by cases e⟩
theorem prepare_eq (hN : NetR N n o pl od) (h : Good n o pl od) {W : TalS} {D : NetS} (hT : TalR W D) : ∃ W' D', f_X6_prepare W D N = some (W', D') ∧ WayR W'.2 n o ∧ TalR W' D' := by
  have hn := h.1.2
  obtain ⟨W', D', e, r1, r2⟩ := tally_all hN h W D
  have e' := e _ (every_eq hN h)
  unfold f_X6_prepare
  rw [every_eq hN h]
  simp only [Option.bind_some]
  rw [e']
  by_cases c : W.1 = 0
  · rw [if_pos c]; exact ⟨W', D', rfl, r1, r2⟩
  · rw [if_neg c]
    rcases hT with q | ⟨n2, o2, hn2, d1, d2, d3⟩
    · exact absurd q c
    · obtain ⟨b, eb, hb⟩ := hasArcs_eq hN h hn2.2 d1 d2
      rw [eb]
      simp only [Option.bind_some, lit]
      rw [q_b0]
      cases b with
      | false => exact ⟨W', D', rfl, r1, r2⟩
      | true =>
        obtain ⟨e1, e2⟩ := hb rfl
        subst e1
        refine ⟨W, D, rfl, fun s hs => ?_, Or.inr ⟨n2, o2, hn2, d1, d2, d3⟩⟩
        rw [d3 s hs]
        unfold wN
        rw [wF_c e2]
theorem all_eq (hN : NetR N n o pl od) (h : Good n o pl od) {W : TalS} {D : NetS} (hT : TalR W D) : ∃ W' D', f_X6_all W D N = some (iL (wN n o 0), W', D') ∧ WayR W'.2 n o ∧ TalR W' D' := by
  obtain ⟨W', D', e, r1, r2⟩ := prepare_eq hN h hT
  unfold f_X6_all
  rw [e, Option.bind_some]
  simp only [lit]
  rw [q_in (by omega) (by omega), q_cl (by omega), r1 0 (p2_pos n)]
  exact ⟨W', D', rfl, r1, r2⟩
theorem counts_eq (h : Good n o pl od) (hS : RefR S n o pl) (m8 : M 8 = nI n) (W : Nat → Int64) : ∃ W', f_X9_counts M S W = some W' ∧ WayR W' n o := by
  have hn := h.1.2
  have hp := p2_12 hn
  have hpp := p2_pos n
  have inner : ∀ (s c : Nat) (x1 : Int32) (ke : (Nat → Int64) → Option (Nat → Int64)) (W : Nat → Int64), s < 2 ^ n → W s = iL c → (∀ t, s < t → t < 2 ^ n → W t = iL (wN n o t)) → ∃ W', k_X9_counts_33 x1 (nI s) M S ke fu (nI 0) W = ke W' ∧ (∀ t, t ≠ s → W' t = W t) ∧ W' s = iL (c + sumN (wU n o s) n) := by
    intro s c x1 ke W hs hc hW
    have ls := lt_4096 hs hn
    obtain ⟨W', ⟨a, b⟩, e⟩ := loop_e (fun m i (T : Nat → Int64) => k_X9_counts_33 x1 (nI s) M S ke m (nI i) T) (fun T => ke T) (fun i T => (∀ t, t ≠ s → T t = W t) ∧ T s = iL (c + sumN (wU n o s) i)) n W (by omega) ⟨fun _ _ => rfl, hc⟩
      (by intro m T _; rw [k_X9_counts_33.eq_2, m8, q_le_t (by omega) (by omega)])
      (by
        intro m i T hi ⟨a, b⟩
        have ho := or_p2 (u := i) hs hi
        have lo := lt_4096 ho hn
        rw [k_X9_counts_33.eq_2, m8, q_le_f (by omega) (by omega), canNext_eq h hS m8 ls hi]
        simp only [lit, lit6, Option.bind_some, nI_add]
        rw [q_b0, q_sh (k := i) (by omega), q_or]
        simp only [q_in (show s < 4096 by omega) (show 4096 < 2147483648 by omega), q_in (show s ||| 2 ^ i < 4096 by omega) (show 4096 < 2147483648 by omega), q_cl (show s < 2147483648 by omega), q_cl (show s ||| 2 ^ i < 2147483648 by omega)]
        refine ⟨vp_updL T s (iL (c + (sumN (wU n o s) i + wU n o s i))), ⟨fun t ht => by rw [uL_n ht]; exact a t ht, uL_s⟩, ?_⟩
        cases hr : rd n o s i with
        | false =>
          have : wU n o s i = 0 := by unfold wU; rw [hr]; rfl
          rw [if_neg (by decide), b, iL_add, this]; rfl
        | true =>
          have : wU n o s i = wN n o (s ||| 2 ^ i) := by unfold wU; rw [hr]; rfl
          have hg := or_gt (rd_nb hr)
          rw [if_pos rfl, b, a _ (by omega), hW _ hg ho, iL_add, this, Nat.add_assoc])
    exact ⟨W', e, a, b⟩
  unfold f_X9_counts
  rw [m8]
  simp only [lit]
  rw [q_sh (k := n) (by omega), q_sub (by omega)]
  have := loop_dn (fun m i (T : Nat → Int64) => k_X9_counts_11 (nI (2 ^ n - 1)) M S (fun m_ways_5 => some m_ways_5) m (dI i) T) (fun i T => i ≤ 2 ^ n ∧ ∀ t, i ≤ t → t < 2 ^ n → T t = iL (wN n o t)) (fun b => ∃ W', b = some W' ∧ WayR W' n o) 0 ?_ ?_ (2 ^ n) fu W (by rw [fu_eq]; omega) ⟨by omega, fun t h1 h2 => by omega⟩
  · rw [Nat.zero_add] at this
    have e : dI (2 ^ n) = nI (2 ^ n - 1) := by unfold dI; rw [q_sub (by omega)]
    rw [e] at this
    exact this
  · intro m T ⟨_, hT⟩
    rw [k_X9_counts_11.eq_2]
    simp only [lit]
    rw [dI_lt_t (by omega) (by omega)]
    exact ⟨T, rfl, fun s hs => hT s (by omega) hs⟩
  · intro m i T _ ⟨a, hT⟩
    left
    rw [k_X9_counts_11.eq_2]
    simp only [lit, lit6]
    rw [dI_lt_f (by omega) (by omega), dI_s, q_eq_n (by omega) (by omega), dI_m]
    simp only [q_in (show i < 4096 by omega) (show 4096 < 2147483648 by omega), q_cl (show i < 2147483648 by omega)]
    obtain ⟨W', e, b1, b2⟩ := inner i (if i = 2 ^ n - 1 then 1 else 0) (nI (2 ^ n - 1)) (fun m_ways_4 => k_X9_counts_11 (nI (2 ^ n - 1)) M S (fun m_ways_5 => some m_ways_5) m (dI i) m_ways_4) (vp_updL T i (iL (if i = 2 ^ n - 1 then 1 else 0))) (by omega) uL_s (fun t h1 h2 => by rw [uL_n (by omega)]; exact hT t (by omega) h2)
    refine ⟨W', ⟨by omega, fun t h1 h2 => ?_⟩, ?_⟩
    · by_cases q : t = i
      · subst q
        rw [b2]
        congr 1
        by_cases c : t = 2 ^ n - 1
        · rw [if_pos c, c, wN_ev, sumN_0 (fun u hu => wU_ev hu)]
        · rw [if_neg c, Nat.zero_add, ← wN_s h2 c]
      · rw [b1 t q, uL_n q]; exact hT t (by omega) h2
    · rw [← e]
      by_cases c : i = 2 ^ n - 1
      · rw [if_pos c, if_pos c]
      · rw [if_neg c, if_neg c]
/-! the number of the order that stands -/
def mdp (od : Nat → Nat) : Nat → Nat
  | 0 => 0
  | p + 1 => mdp od p ||| 2 ^ od p
theorem mdp_lt (h : Good n o pl od) : ∀ p, p ≤ n → mdp od p < 2 ^ n
  | 0, _ => p2_pos n
  | p + 1, hp => or_p2 (mdp_lt h p (by omega)) (h.2.2.2.1 p (by omega)).1
def rkS (n : Nat) (o od : Nat → Nat) : Nat → Nat
  | 0 => 0
  | p + 1 => rkS n o od p + sumN (wU n o (mdp od p)) (od p)
theorem rank_eq (hN : NetR N n o pl od) (h : Good n o pl od) {W : TalS} {D : NetS} (hT : TalR W D) : ∃ W' D', f_X6_rank W D N = some (iL (rkS n o od n), W', D') ∧ TalR W' D' := by
  have hn := h.1.2
  obtain ⟨W', D', e, r1, r2⟩ := prepare_eq hN h hT
  unfold f_X6_rank
  rw [e, Option.bind_some]
  refine ⟨W', D', ?_, r2⟩
  simp only [lit, lit6]
  have inner : ∀ (s c t : Nat) (x5 : Int32) (ke : Int64 → Option (Int64 × TalS × NetS)), s < 2 ^ n → t < n → k_X6_rank_34 (nI s) x5 (nI t) W' D' N ke fu (iL c) (nI 0) = ke (iL (c + sumN (wU n o s) t)) := by
    intro s c t x5 ke hs ht
    have ls := lt_4096 hs hn
    refine loop_v (fun m i => k_X6_rank_34 (nI s) x5 (nI t) W' D' N ke m (iL (c + sumN (wU n o s) i)) (nI i)) _ t (by omega) ?_ ?_
    · intro m
      rw [k_X6_rank_34.eq_2, q_le_t (by omega) (by omega)]
    · intro m i hi
      have ho := or_p2 (u := i) hs (by omega)
      have lo := lt_4096 ho hn
      rw [k_X6_rank_34.eq_2, q_le_f (by omega) (by omega), isReady_rd hN h (by omega) ls]
      simp only [lit, Option.bind_some, nI_add]
      rw [q_b0, q_sh (k := i) (by omega), q_or, q_in (by omega) (by omega), q_cl (by omega), r1 _ ho, iL_add]
      show _ = k_X6_rank_34 _ _ _ _ _ _ _ m (iL (c + (sumN (wU n o s) i + wU n o s i))) _
      cases hr : rd n o s i with
      | false =>
        have : wU n o s i = 0 := by unfold wU; rw [hr]; rfl
        rw [this]; rfl
      | true =>
        have : wU n o s i = wN n o (s ||| 2 ^ i) := by unfold wU; rw [hr]; rfl
        rw [if_pos rfl, this, Nat.add_assoc]
  refine loop_v (fun m i => k_X6_rank_13 W' D' N (fun x2_4 => (some (x2_4, W', D'))) m (iL (rkS n o od i)) (nI (mdp od i)) (nI i)) _ n (by omega) ?_ ?_
  · intro m
    rw [k_X6_rank_13.eq_2, hN.1, q_le_t (by omega) (by omega)]
  · intro m i hi
    have ho := (h.2.2.2.1 i hi).1
    rw [k_X6_rank_13.eq_2, hN.1, q_le_f (by omega) (by omega), q_in (by omega) (by omega), q_cl (by omega), hN.2.2.2.2.1 i hi]
    simp only [lit, nI_add]
    rw [inner _ _ _ _ _ (mdp_lt h i (by omega)) ho, q_sh (k := od i) (by omega), q_or]
    rfl
theorem number_eq (h : Good n o pl od) (hS : RefR S n o pl) (m8 : M 8 = nI n) (W : Nat → Int64) : ∃ W', f_X9_number M S W = some (iL (rkS n o od n), upd M 0 (nI 0), W') := by
  have hn := h.1.2
  have m8' : (upd M 0 (nI 0)) 8 = nI n := by rw [u0_8]; exact m8
  obtain ⟨W', e, r1⟩ := counts_eq h hS m8' W
  unfold f_X9_number
  simp only [lit, lit6]
  rw [e, Option.bind_some]
  refine ⟨W', ?_⟩
  have inner : ∀ (s c t : Nat) (x5 : Int32) (ke : Int64 → Option (Int64 × ModS × (Nat → Int64))), s < 2 ^ n → t < n → k_X9_number_43 (nI s) x5 (nI t) (upd M 0 (nI 0)) S W' ke fu (iL c) (nI 0) = ke (iL (c + sumN (wU n o s) t)) := by
    intro s c t x5 ke hs ht
    have ls := lt_4096 hs hn
    refine loop_v (fun m i => k_X9_number_43 (nI s) x5 (nI t) (upd M 0 (nI 0)) S W' ke m (iL (c + sumN (wU n o s) i)) (nI i)) _ t (by omega) ?_ ?_
    · intro m
      rw [k_X9_number_43.eq_2, q_le_t (by omega) (by omega)]
    · intro m i hi
      have ho := or_p2 (u := i) hs (by omega)
      have lo := lt_4096 ho hn
      rw [k_X9_number_43.eq_2, q_le_f (by omega) (by omega), canNext_eq h hS m8' ls (by omega)]
      simp only [lit, lit6, Option.bind_some, nI_add]
      rw [q_b0, q_sh (k := i) (by omega), q_or, q_in (by omega) (by omega), q_cl (by omega), r1 _ ho, iL_add, iL_add]
      show _ = k_X9_number_43 _ _ _ _ _ _ _ m (iL (c + (sumN (wU n o s) i + wU n o s i))) _
      cases hr : rd n o s i with
      | false =>
        have : wU n o s i = 0 := by unfold wU; rw [hr]; rfl
        rw [this]; rfl
      | true =>
        have : wU n o s i = wN n o (s ||| 2 ^ i) := by unfold wU; rw [hr]; rfl
        rw [if_pos rfl, this, Nat.add_assoc]
  refine loop_v (fun m i => k_X9_number_16 (upd M 0 (nI 0)) S W' (fun x1_5 => (some (x1_5, upd M 0 (nI 0), W'))) m (iL (rkS n o od i)) (nI (mdp od i)) (nI i)) _ n (by omega) ?_ ?_
  · intro m
    rw [k_X9_number_16.eq_2, m8', q_le_t (by omega) (by omega)]
  · intro m i hi
    have ho := (h.2.2.2.1 i hi).1
    rw [k_X9_number_16.eq_2, m8', q_le_f (by omega) (by omega), itemAt_eq h hS hi, Option.bind_some]
    simp only [lit, nI_add]
    rw [inner _ _ _ _ _ (mdp_lt h i (by omega)) ho, q_sh (k := od i) (by omega), q_or]
    rfl
end WAY
