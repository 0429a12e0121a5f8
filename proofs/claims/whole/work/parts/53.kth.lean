/-! ===== the order of a number; the first of all ===== -/
section KTH
variable {n : Nat} {o pl od : Nat → Nat} {N : NetS} {M : ModS} {S : Nat → Int32}
def pick (n : Nat) (o : Nat → Nat) (s : Nat) : Nat → Nat → Nat → Nat × Nat
  | 0, i, l => (i, l)
  | d + 1, i, l => if rd n o s i then (if l < wN n o (s ||| 2 ^ i) then (i, l) else pick n o s d (i + 1) (l - wN n o (s ||| 2 ^ i))) else pick n o s d (i + 1) l
theorem sum_s (f : Nat → Nat) (i : Nat) : sumN f (i + 1) = sumN f i + f i := rfl
theorem pick_ok {s : Nat} : ∀ d i l, i + d = n → l + sumN (wU n o s) i < sumN (wU n o s) n → i ≤ (pick n o s d i l).1 ∧ (pick n o s d i l).1 < n ∧ rd n o s (pick n o s d i l).1 = true ∧ (pick n o s d i l).2 < wN n o (s ||| 2 ^ (pick n o s d i l).1)
  | 0, i, l, hi, hl => by
    have : i = n := by omega
    subst this; omega
  | d + 1, i, l, hi, hl => by
    have hs := sum_s (wU n o s) i
    unfold pick
    cases hr : rd n o s i with
    | false =>
      have h0 : wU n o s i = 0 := by unfold wU; rw [hr]; rfl
      rw [if_neg (by decide)]
      obtain ⟨a, b⟩ := pick_ok (s := s) d (i + 1) l (by omega) (by omega)
      exact ⟨by omega, b⟩
    | true =>
      have h0 : wU n o s i = wN n o (s ||| 2 ^ i) := by unfold wU; rw [hr]; rfl
      rw [if_pos rfl]
      by_cases c : l < wN n o (s ||| 2 ^ i)
      · rw [if_pos c]
        exact ⟨Nat.le_refl _, by show i < n; omega, hr, c⟩
      · rw [if_neg c]
        obtain ⟨a, b⟩ := pick_ok (s := s) d (i + 1) (l - wN n o (s ||| 2 ^ i)) (by omega) (by omega)
        exact ⟨by omega, b⟩
/-- made, left, after p places -/
def kq (n : Nat) (o : Nat → Nat) (k : Nat) : Nat → Nat × Nat
  | 0 => (0, k)
  | p + 1 => ((kq n o k p).1 ||| 2 ^ (pick n o (kq n o k p).1 n 0 (kq n o k p).2).1, (pick n o (kq n o k p).1 n 0 (kq n o k p).2).2)
def kI (n : Nat) (o : Nat → Nat) (k p : Nat) : Nat := (pick n o (kq n o k p).1 n 0 (kq n o k p).2).1
theorem kq_ok {k : Nat} (hk : k < wN n o 0) : ∀ p, p ≤ n → (kq n o k p).1 < 2 ^ n ∧ cnt (kq n o k p).1.testBit n = p ∧ (kq n o k p).2 < wN n o (kq n o k p).1
  | 0, _ => ⟨p2_pos n, cnt_zero (fun i _ => Nat.zero_testBit i), hk⟩
  | p + 1, hp => by
    obtain ⟨a, b, c⟩ := kq_ok hk p (by omega)
    have hne : (kq n o k p).1 ≠ 2 ^ n - 1 := fun e => by
      rw [e, cnt_full (fun i hi => ev_bit.mpr hi)] at b; omega
    rw [wN_s a hne] at c
    obtain ⟨_, d, e, f⟩ := pick_ok (n := n) (o := o) (s := (kq n o k p).1) n 0 (kq n o k p).2 (by omega) (by show _ + 0 < _; omega)
    refine ⟨or_p2 a d, ?_, f⟩
    show cnt ((kq n o k p).1 ||| 2 ^ _).testBit n = p + 1
    rw [cnt_add d (rd_nb e), b]
theorem kI_ok {k : Nat} (hk : k < wN n o 0) {p : Nat} (hp : p < n) : kI n o k p < n ∧ rd n o (kq n o k p).1 (kI n o k p) = true ∧ (kq n o k (p + 1)).1 = (kq n o k p).1 ||| 2 ^ kI n o k p := by
  obtain ⟨a, b, c⟩ := kq_ok hk p (by omega)
  have hne : (kq n o k p).1 ≠ 2 ^ n - 1 := fun e => by
    rw [e, cnt_full (fun i hi => ev_bit.mpr hi)] at b; omega
  rw [wN_s a hne] at c
  obtain ⟨_, d, e, f⟩ := pick_ok (n := n) (o := o) (s := (kq n o k p).1) n 0 (kq n o k p).2 (by omega) (by show _ + 0 < _; omega)
  exact ⟨d, e, rfl⟩
theorem kq_sum {k : Nat} (hk : k < wN n o 0) {p : Nat} (hp : p < n) : (kq n o k p).2 < sumN (wU n o (kq n o k p).1) n := by
  obtain ⟨a, b, c⟩ := kq_ok hk p (by omega)
  have hne : (kq n o k p).1 ≠ 2 ^ n - 1 := fun e => by
    rw [e, cnt_full (fun i hi => ev_bit.mpr hi)] at b; omega
  rwa [wN_s a hne] at c
theorem pick8 (hN : NetR N n o pl od) (h : Good n o pl od) {W : TalS} {D : NetS} (hW : WayR W.2 n o) {s : Nat} (hs : s < 2 ^ n) (x4 x8 x9 : Int32) (ke : Int64 → Int32 → Int32 → Option (Int32 × TalS × NetS)) : ∀ d i l m, i + d = n → d < m → l + sumN (wU n o s) i < sumN (wU n o s) n → l < 9223372036854775808 → k_X6_itemOf_36 x4 x9 W D N ke m (iL l) (nI s) x8 (nI i) = ke (iL (pick n o s d i l).2) (nI (s ||| 2 ^ (pick n o s d i l).1)) (nI (pick n o s d i l).1)
  | 0, i, l, m, hi, hm, hl, _ => by
    have : i = n := by omega
    subst this; omega
  | d + 1, i, l, m, hi, hm, hl, hL => by
    have hn := h.1.2
    have hsum := sum_s (wU n o s) i
    have ls := lt_4096 hs hn
    obtain ⟨m, rfl⟩ : ∃ q, m = q + 1 := ⟨m - 1, by omega⟩
    have ho := or_p2 (u := i) hs (by omega)
    have lo := lt_4096 ho hn
    have hb := wN_lt (n := n) (o := o) hn (s ||| 2 ^ i)
    rw [k_X6_itemOf_36.eq_2, hN.1, q_le_f (by omega) (by omega), isReady_rd hN h (by omega) ls]
    simp only [lit, Option.bind_some, nI_add]
    rw [q_b0, q_sh (k := i) (by omega), q_or]
    simp only [q_in (show s ||| 2 ^ i < 4096 by omega) (show 4096 < 2147483648 by omega), q_cl (show s ||| 2 ^ i < 2147483648 by omega)]
    rw [hW _ ho, q_cge (by omega) (by omega)]
    unfold pick
    cases hr : rd n o s i with
    | false =>
      have h0 : wU n o s i = 0 := by unfold wU; rw [hr]; rfl
      rw [if_neg (by decide), if_neg (by decide)]
      exact pick8 hN h hW hs x4 x8 x9 ke d (i + 1) l m (by omega) (by omega) (by omega) hL
    | true =>
      have h0 : wU n o s i = wN n o (s ||| 2 ^ i) := by unfold wU; rw [hr]; rfl
      rw [if_pos rfl, if_pos rfl]
      by_cases c : l < wN n o (s ||| 2 ^ i)
      · rw [if_pos c, if_neg (by omega)]
      · rw [if_neg c, if_pos (by omega), iL_sub (by omega)]
        exact pick8 hN h hW hs x4 x8 x9 ke d (i + 1) _ m (by omega) (by omega) (by omega) (by omega)
theorem pick9 (h : Good n o pl od) (hS : RefR S n o pl) (m8 : M 8 = nI n) {W : Nat → Int64} (hW : WayR W n o) {s : Nat} (hs : s < 2 ^ n) (x6 : Int32) (ord : Nat → Int32) (ke : Int64 → Int32 → Option (Nat → Int32)) : ∀ d i l m, i + d = n → d < m → l + sumN (wU n o s) i < sumN (wU n o s) n → l < 9223372036854775808 → k_X9_orderOf_20 (nI s) x6 M S W ord ke m (iL l) (nI i) = ke (iL (pick n o s d i l).2) (nI (pick n o s d i l).1)
  | 0, i, l, m, hi, hm, hl, _ => by
    have : i = n := by omega
    subst this; omega
  | d + 1, i, l, m, hi, hm, hl, hL => by
    have hn := h.1.2
    have hsum := sum_s (wU n o s) i
    have ls := lt_4096 hs hn
    obtain ⟨m, rfl⟩ : ∃ q, m = q + 1 := ⟨m - 1, by omega⟩
    have ho := or_p2 (u := i) hs (by omega)
    have lo := lt_4096 ho hn
    have hb := wN_lt (n := n) (o := o) hn (s ||| 2 ^ i)
    rw [k_X9_orderOf_20.eq_2, canNext_eq h hS m8 ls (by omega)]
    simp only [lit, lit6, Option.bind_some, nI_add]
    rw [q_sh (k := i) (by omega), q_or]
    simp only [q_b0, q_in (show s ||| 2 ^ i < 4096 by omega) (show 4096 < 2147483648 by omega), q_cl (show s ||| 2 ^ i < 2147483648 by omega)]
    rw [hW _ ho, q_clt (by omega) (by omega)]
    unfold pick
    cases hr : rd n o s i with
    | false =>
      have h0 : wU n o s i = 0 := by unfold wU; rw [hr]; rfl
      simp only [Bool.false_eq_true, if_false]
      rw [iL_sub (Nat.zero_le l)]
      exact pick9 h hS m8 hW hs x6 ord ke d (i + 1) l m (by omega) (by omega) (by omega) hL
    | true =>
      have h0 : wU n o s i = wN n o (s ||| 2 ^ i) := by unfold wU; rw [hr]; rfl
      simp only [if_true]
      by_cases c : l < wN n o (s ||| 2 ^ i)
      · rw [if_pos c, if_pos c]
      · rw [if_neg c, if_neg c, iL_sub (by omega)]
        exact pick9 h hS m8 hW hs x6 ord ke d (i + 1) _ m (by omega) (by omega) (by omega) (by omega)
theorem orderOf_eq (h : Good n o pl od) (hS : RefR S n o pl) (m8 : M 8 = nI n) {W : Nat → Int64} (hW : WayR W n o) {k : Nat} (hk : k < wN n o 0) (ord : Nat → Int32) : ∃ ord', f_X9_orderOf M S W ord (iL k) = some ord' ∧ ∀ p, p < n → ord' p = nI (kI n o k p) := by
  have hn := h.1.2
  unfold f_X9_orderOf
  simp only [lit]
  obtain ⟨T, hT, e⟩ := loop_e (fun m i (T : Nat → Int32) => k_X9_orderOf_8 M S W (fun m_order_5 => some m_order_5) m (iL (kq n o k i).2) (nI (kq n o k i).1) (nI i) T) (fun T => some T) (fun i T => ∀ p, p < i → T p = nI (kI n o k p)) n ord (by omega) (fun _ q => absurd q (Nat.not_lt_zero _))
    (by intro m T _; rw [k_X9_orderOf_8.eq_2, m8, q_le_t (by omega) (by omega)])
    (by
      intro m i T hi hT
      obtain ⟨a, b, c⟩ := kq_ok hk i (by omega)
      obtain ⟨d, f, g⟩ := kI_ok hk hi
      have hb := wN_lt (n := n) (o := o) hn (kq n o k i).1
      rw [k_X9_orderOf_8.eq_2, m8, q_le_f (by omega) (by omega)]
      simp only [lit]
      rw [pick9 h hS m8 hW a (nI i) T _ n 0 (kq n o k i).2 fu (by omega) (by rw [fu_eq]; omega) (by show _ + 0 < _; exact kq_sum hk hi) (by omega)]
      simp only [nI_add]
      rw [q_in (by omega) (by omega), q_cl (by omega), show (pick n o (kq n o k i).1 n 0 (kq n o k i).2).1 = kI n o k i from rfl, q_sh (k := kI n o k i) (by omega), q_or]
      refine ⟨upd T i (nI (kI n o k i)), fun p hp => ?_, rfl⟩
      rcases (show p < i ∨ p = i by omega) with q | q
      · rw [pk_un (by omega)]; exact hT p q
      · subst q; rw [pk_us])
  exact ⟨T, e, hT⟩
theorem itemOf_eq (hN : NetR N n o pl od) (h : Good n o pl od) {W : TalS} {D : NetS} (hT : TalR W D) {k p : Nat} (hk : k < 9223372036854775808) (hp : p < n) : ∃ W' D', f_X6_itemOf W D N (iL k) (nI p) = some (if k < wN n o 0 then nI (kI n o k p) else -nI 9, W', D') ∧ TalR W' D' := by
  have hn := h.1.2
  obtain ⟨W', D', e, r1, r2⟩ := all_eq hN h hT
  have hb := wN_lt (n := n) (o := o) hn 0
  unfold f_X6_itemOf
  rw [e, Option.bind_some]
  simp only [lit]
  refine ⟨W', D', ?_, r2⟩
  rw [q_clt (by omega) (by omega)]
  by_cases c : k < wN n o 0
  · rw [if_pos c, if_pos c]
    refine loop_v (fun m i => k_X6_itemOf_26 (nI p) W' D' N (fun x8_4 => (some (x8_4, W', D'))) m (iL (kq n o k i).2) (nI (kq n o k i).1) (if i = 0 then -nI 9 else nI (kI n o k (i - 1))) (nI i)) _ (p + 1) (by omega) ?_ ?_
    · intro m
      rw [k_X6_itemOf_26.eq_2, q_lt_t (by omega) (by omega), if_neg (by omega)]; rfl
    · intro m i hi
      obtain ⟨a, b, d⟩ := kq_ok c i (by omega)
      have hb := wN_lt (n := n) (o := o) hn (kq n o k i).1
      rw [k_X6_itemOf_26.eq_2, q_lt_f (by omega) (by omega)]
      simp only [lit]
      rw [pick8 hN h r1 a (nI p) _ (nI i) _ n 0 (kq n o k i).2 fu (by omega) (by rw [fu_eq]; omega) (by show _ + 0 < _; exact kq_sum c (by omega)) (by omega)]
      simp only [nI_add]
      rw [if_neg (by omega)]; rfl
  · rw [if_neg c, if_neg c]
theorem kth_eq (hN : NetR N n o pl od) (h : Good n o pl od) (hS : RefR S n o pl) (m8 : M 8 = nI n) {W : TalS} {D : NetS} (hT : TalR W D) (V : Nat → Int64) (ord : Nat → Int32) (k : Int64) (x : Int32) : ∃ r W' D' V' ord', f_X8_kth N W D k x = some (r, W', D') ∧ TalR W' D' ∧ f_X9_kth M S V ord k x = some (r, upd M 0 (nI 0), V', ord') := by
  have hn := h.1.2
  have m8' : (upd M 0 (nI 0)) 8 = nI n := by rw [u0_8]; exact m8
  unfold f_X8_kth f_X9_kth
  simp only [lit, lit6]
  rw [isItem_eq hN.1, isItem9_eq m8' h.1.1 hn]
  simp only [Option.bind_some, q_b0]
  by_cases c : iL 0 ≤ k
  · have hneg : ¬ lg_cmp k (iL 0) < nI 0 := fun q => by
      have q2 := cm1.mp q
      rw [Int64.lt_iff_toInt_lt] at q2
      rw [Int64.le_iff_toInt_le] at c
      omega
    rw [if_neg hneg]
    cases hi : isI n x with
    | false => exact ⟨_, _, _, _, _, rfl, hT, rfl⟩
    | true =>
      obtain ⟨p, hp, rfl⟩ := isI_t hi hn
      obtain ⟨k, hk, rfl⟩ := iL_of c
      simp only [if_true]
      obtain ⟨W', D', e, r2⟩ := itemOf_eq hN h hT hk hp
      obtain ⟨V', e2, r3⟩ := counts_eq h hS m8' V
      have hb := wN_lt (n := n) (o := o) hn 0
      rw [if_pos (cm0.mpr c), e, e2]
      simp only [Option.bind_some]
      rw [q_in (by omega) (by omega), q_cl (by omega), r3 0 (p2_pos n), q_clt (by omega) (by omega)]
      by_cases c2 : k < wN n o 0
      · rw [if_pos c2, if_pos c2]
        obtain ⟨ord', e3, r4⟩ := orderOf_eq h hS m8' r3 c2 ord
        rw [e3, Option.bind_some, q_in (by omega) (by omega), q_cl (by omega), r4 p hp]
        exact ⟨_, _, _, _, _, rfl, r2, rfl⟩
      · rw [if_neg c2, if_neg c2]
        exact ⟨_, _, _, _, _, rfl, r2, rfl⟩
  · have hpos : lg_cmp k (iL 0) < nI 0 := cm1.mpr (by
      rw [Int64.lt_iff_toInt_lt]
      rw [Int64.le_iff_toInt_le] at c
      omega)
    have hneg : ¬ nI 0 ≤ lg_cmp k (iL 0) := fun q => c (cm0.mp q)
    rw [if_pos hpos, if_neg hneg]
    cases hi : isI n x with
    | false => exact ⟨_, _, _, _, _, rfl, hT, rfl⟩
    | true => exact ⟨_, _, _, _, _, rfl, hT, rfl⟩
end KTH
