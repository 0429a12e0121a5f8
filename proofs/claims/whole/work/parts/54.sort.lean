/-! ===== sorts; what is kept of nets that were ===== -/
section SRT
variable {n : Nat} {o pl od : Nat → Nat} {N : NetS} {M : ModS} {S : Nat → Int32}
theorem w0_pos (h : Good n o pl od) : 0 < wN n o 0 := wN_pos h (n - cnt (Nat.testBit 0) n) 0 (p2_pos n) rfl
theorem wN_p (h : Good n o pl od) {s : Nat} (hs : s < 2 ^ n) : 0 < wN n o s := wN_pos h _ s hs rfl
def sdO (n : Nat) (o : Nat → Nat) (p : Nat) : Nat := kI n o 0 p
def sdP (n : Nat) (o : Nat → Nat) (u : Nat) : Nat := fnd (fun p => decide (sdO n o p = u)) n 0
theorem kq_bit (h : Good n o pl od) : ∀ p, p ≤ n → ∀ x, (kq n o 0 p).1.testBit x = true ↔ ∃ q, q < p ∧ sdO n o q = x
  | 0, _, x => by
    show Nat.testBit 0 x = true ↔ _
    rw [Nat.zero_testBit]
    constructor
    · intro q; cases q
    · intro ⟨q, hq, _⟩; omega
  | p + 1, hp, x => by
    obtain ⟨_, _, e0⟩ := kI_ok (w0_pos h) (p := p) (by omega)
    rw [e0, or_bit, p2_bit, kq_bit h p (by omega) x]
    constructor
    · intro q
      rcases q with ⟨q, hq, e⟩ | e
      · exact ⟨q, by omega, e⟩
      · exact ⟨p, by omega, e.symm⟩
    · intro ⟨q, hq, e⟩
      rcases (show q < p ∨ q = p by omega) with c | c
      · exact Or.inl ⟨q, c, e⟩
      · subst c; exact Or.inr e.symm
theorem sd_inj (h : Good n o pl od) {p q : Nat} (hp : p < n) (hq : q < n) (e : sdO n o p = sdO n o q) : p = q := by
  have key : ∀ p q, q < n → p < q → sdO n o p = sdO n o q → False := by
    intro p q hq hpq e
    obtain ⟨_, r, _⟩ := kI_ok (w0_pos h) hq
    have t0 : (kq n o 0 q).1.testBit (sdO n o q) = false := rd_nb r
    rw [(kq_bit h q (by omega) _).mpr ⟨p, hpq, e⟩] at t0
    cases t0
  rcases Nat.lt_trichotomy p q with c | c | c
  · exact (key p q hq c e).elim
  · exact c
  · exact (key q p hp c e.symm).elim
theorem sd_sur (h : Good n o pl od) {x : Nat} (hx : x < n) : ∃ p, p < n ∧ sdO n o p = x := by
  obtain ⟨a, b, _⟩ := kq_ok (w0_pos h) n (Nat.le_refl n)
  apply (kq_bit h n (Nat.le_refl n) x).mp
  cases hb : (kq n o 0 n).1.testBit x with
  | true => rfl
  | false => have := cnt_nfull hx hb; omega
theorem sdP_of (h : Good n o pl od) {p : Nat} (hp : p < n) : sdP n o (sdO n o p) = p :=
  fnd_uni hp (decide_eq_true rfl) (fun j hj hf => sd_inj h hj hp (of_decide_eq_true hf))
theorem sd_good (h : Good n o pl od) : Good n o (sdP n o) (sdO n o) := by
  refine ⟨h.1, h.2.1, fun u hu => ?_, fun p hp => ⟨(kI_ok (w0_pos h) hp).1, sdP_of h hp⟩, fun x y a => ?_⟩
  · obtain ⟨p, hp, e⟩ := sd_sur h hu
    rw [← e, sdP_of h hp]
    exact ⟨hp, rfl⟩
  · obtain ⟨p, hp, e⟩ := sd_sur h a.2.1
    obtain ⟨l, r, _⟩ := kI_ok (w0_pos h) hp
    have r2 := ((rd_iff l).mp r).2 x (by rw [show kI n o 0 p = y from e]; exact a)
    obtain ⟨q, hq, e2⟩ := (kq_bit h p (by omega) x).mp r2
    rw [← e, ← e2, sdP_of h hp, sdP_of h (by omega)]
    exact hq
theorem sort14 (hN : NetR N n o pl od) (h : Good n o pl od) {s p : Nat} (hs : s < 2 ^ n) (hp : p < n) (ke : Int32 → NetS → Option NetS) (A B : Nat → Int32) : ∀ d i m, i + d = n → d < m → sumN (wU n o s) i < sumN (wU n o s) n → (pick n o s d i 0).2 = 0 ∧ k_X3_sort_14 (nI p) ke m (nI s) (nI i) (N.1, N.2.1, N.2.2.1, N.2.2.2.1, A, B, N.2.2.2.2.2.2) = ke (nI (s ||| 2 ^ (pick n o s d i 0).1)) (N.1, N.2.1, N.2.2.1, N.2.2.2.1, upd A p (nI (pick n o s d i 0).1), upd B (pick n o s d i 0).1 (nI p), N.2.2.2.2.2.2)
  | 0, i, m, hi, hm, hl => by
    have : i = n := by omega
    subst this; omega
  | d + 1, i, m, hi, hm, hl => by
    have hn := h.1.2
    have hsum := sum_s (wU n o s) i
    have ls := lt_4096 hs hn
    obtain ⟨m, rfl⟩ : ∃ q, m = q + 1 := ⟨m - 1, by omega⟩
    have hpos := wN_p h (or_p2 (u := i) hs (by omega))
    have er : f_X3_isReady (N.1, N.2.1, N.2.2.1, N.2.2.2.1, A, B, N.2.2.2.2.2.2) (nI i) (nI s) = some (nI (rd n o s i).toNat) := isReady_rd hN h (by omega) ls
    rw [k_X3_sort_14.eq_2, er, hN.1, q_le_f (by omega) (by omega)]
    simp only [lit, Option.bind_some, nI_add]
    rw [q_b0]
    unfold pick
    cases hr : rd n o s i with
    | false =>
      have h0 : wU n o s i = 0 := by unfold wU; rw [hr]; rfl
      rw [if_neg (by decide), if_neg (by decide), ← hN.1]
      exact sort14 hN h hs hp ke A B d (i + 1) m (by omega) (by omega) (by omega)
    | true =>
      rw [if_pos rfl, if_pos rfl, if_pos hpos]
      refine ⟨rfl, ?_⟩
      unfold f_X3_stand
      rw [q_in (by omega) (by omega), q_in (by omega) (by omega), Option.bind_some, q_cl (by omega), q_cl (by omega), q_sh (k := i) (by omega), q_or]
theorem sort_eq (hN : NetR N n o pl od) (h : Good n o pl od) : ∃ N', f_X3_sort N = some N' ∧ NetR N' n o (sdP n o) (sdO n o) := by
  have hn := h.1.2
  unfold f_X3_sort
  simp only [lit]
  have hk := w0_pos h
  obtain ⟨⟨A, B⟩, hI, e⟩ := loop_e (fun m i (z : (Nat → Int32) × (Nat → Int32)) => k_X3_sort_4 (fun Nn_4 => some Nn_4) m (nI (kq n o 0 i).1) (nI i) (N.1, N.2.1, N.2.2.1, N.2.2.2.1, z.1, z.2, N.2.2.2.2.2.2)) (fun z => some (N.1, N.2.1, N.2.2.1, N.2.2.2.1, z.1, z.2, N.2.2.2.2.2.2)) (fun i z => (kq n o 0 i).2 = 0 ∧ ∀ q, q < i → z.1 q = nI (sdO n o q) ∧ z.2 (sdO n o q) = nI q) n (N.2.2.2.2.1, N.2.2.2.2.2.1) (by omega) ⟨rfl, fun _ q => absurd q (Nat.not_lt_zero _)⟩
    (by
      intro m ⟨A, B⟩ _
      rw [k_X3_sort_4.eq_2]
      dsimp only
      rw [hN.1, q_le_t (by omega) (by omega)])
    (by
      intro m i ⟨A, B⟩ hi ⟨h0, hI⟩
      have hs := kq_sum hk hi
      obtain ⟨a, b, c⟩ := kq_ok hk i (by omega)
      rw [h0] at hs
      obtain ⟨e0, e1⟩ := sort14 hN h (s := (kq n o 0 i).1) (p := i) a hi (fun x1_3 Nn_3 => k_X3_sort_4 (fun Nn_4 => some Nn_4) m x1_3 (nI (i + 1)) Nn_3) A B n 0 fu (by omega) (by rw [fu_eq]; omega) hs
      have ek : kI n o 0 i = (pick n o (kq n o 0 i).1 n 0 0).1 := by unfold kI; rw [h0]
      rw [k_X3_sort_4.eq_2]
      dsimp only
      rw [show (if N.1 ≤ nI i then (some (N.1, N.2.1, N.2.2.1, N.2.2.2.1, A, B, N.2.2.2.2.2.2) : Option NetS) else k_X3_sort_14 (nI i) (fun x1_3 Nn_3 => k_X3_sort_4 (fun Nn_4 => some Nn_4) m x1_3 (nI i + 1) Nn_3) fu (nI (kq n o 0 i).1) 0 (N.1, N.2.1, N.2.2.1, N.2.2.2.1, A, B, N.2.2.2.2.2.2)) = k_X3_sort_14 (nI i) (fun x1_3 Nn_3 => k_X3_sort_4 (fun Nn_4 => some Nn_4) m x1_3 (nI i + 1) Nn_3) fu (nI (kq n o 0 i).1) 0 (N.1, N.2.1, N.2.2.1, N.2.2.2.1, A, B, N.2.2.2.2.2.2) from if_neg (fun q => by rw [hN.1] at q; have := (q_le (by omega) (by omega)).mp q; omega)]
      simp only [lit, nI_add]
      rw [e1, ← ek]
      refine ⟨(upd A i (nI (kI n o 0 i)), upd B (kI n o 0 i) (nI i)), ⟨?_, fun q hq => ?_⟩, ?_⟩
      · show (pick n o (kq n o 0 i).1 n 0 (kq n o 0 i).2).2 = 0
        rw [h0]; exact e0
      · show upd A i (nI (kI n o 0 i)) q = _ ∧ upd B (kI n o 0 i) (nI i) _ = _
        rcases (show q < i ∨ q = i by omega) with c2 | c2
        · rw [pk_un (by omega), pk_un (fun e => by have := sd_inj h (show q < n by omega) hi e; omega)]
          exact hI q c2
        · subst c2
          exact ⟨pk_us, pk_us⟩
      · dsimp only
        rw [(kI_ok hk hi).2.2])
  refine ⟨_, e, hN.1, hN.2.1, hN.2.2.1, hN.2.2.2.1, fun p hp => (hI.2 p hp).1, fun u hu => ?_⟩
  obtain ⟨p, hp, e2⟩ := sd_sur h hu
  rw [← e2, sdP_of h hp]
  exact (hI.2 p hp).2
theorem unlike_eq {N2 : NetS} {o2 p2 d2 : Nat → Nat} (hN : NetR N n o pl od) (h : Good n o pl od) (hN2 : NetR N2 n o2 p2 d2) (h2 : Good n o2 p2 d2) : f_X3_placesUnlike N N2 = some (nI (cnt (fun u => decide (¬ pl u = p2 u)) n)) := by
  have hn := h.1.2
  unfold f_X3_placesUnlike
  simp only [lit]
  refine loop_v (fun m i => k_X3_placesUnlike_4 N N2 (fun x => some x) m (nI (cnt (fun u => decide (¬ pl u = p2 u)) i)) (nI i)) _ n (by omega) ?_ ?_
  · intro m
    rw [k_X3_placesUnlike_4.eq_2, hN.1, q_le_t (by omega) (by omega)]
  · intro m i hi
    have l1 := (h.2.2.1 i hi).1
    have l2 := (h2.2.2.1 i hi).1
    rw [k_X3_placesUnlike_4.eq_2, hN.1, q_le_f (by omega) (by omega)]
    simp only [q_in (show i < 12 by omega) (show 12 < 2147483648 by omega), q_cl (show i < 2147483648 by omega)]
    rw [hN.2.2.2.2.2 i hi, hN2.2.2.2.2.2 i hi, q_eq_n (by omega) (by omega), cnt_s]
    simp only [lit, nI_add]
    by_cases c : pl i = p2 i
    · rw [if_pos c, decide_eq_false (fun q => q c)]; rfl
    · rw [if_neg c, decide_eq_true c]; rfl
theorem pc_msk {f : Nat → Bool} (hn : n ≤ 12) : pc (msk f n) = cnt f n := by
  rw [pc_n (msk_lt f n) hn]
  exact cnt_congr (fun i hi => by rw [msk_bit, decide_eq_true hi, Bool.true_and])
theorem cnt_sym {p q : Nat → Nat} : cnt (fun u => decide (¬ p u = q u)) n = cnt (fun u => decide (¬ q u = p u)) n := cnt_congr (fun i _ => by
  by_cases c : p i = q i
  · rw [decide_eq_false (fun r => r c), decide_eq_false (fun r => r c.symm)]
  · have c2 : ¬ q i = p i := fun e => c e.symm
    rw [decide_eq_true c, decide_eq_true c2])
/-! nets that were -/
def KepR (K : NetS) (U : Nat → Int32) (i n : Nat) : Prop := ∃ o pl od, Good n o pl od ∧ NetR K n o pl od ∧ ∀ u, u < n → U (24 * i + u) = nI (o u) ∧ U (24 * i + (12 + u)) = nI (pl u)
def PastR (P : PstS) (U : Nat → Int32) (m17 : Int32) (n : Nat) : Prop := ∃ k, k ≤ 10 ∧ P.1 = nI k ∧ m17 = nI k ∧ (∀ i, i < 10 → P.2.1 i < 10) ∧ (∀ i j, i < 10 → j < 10 → P.2.1 i = P.2.1 j → i = j) ∧ ∀ i, i < k → KepR (P.2.2 (P.2.1 i)) U i n
theorem shn_eq : ∀ (n i : Nat) (ix : Nat → Nat) (j : Nat), shn n (i + 1) ix j = if i ≤ j ∧ j < i + n then ix (j + 1) else ix j
  | 0, i, ix, j => by rw [if_neg (by omega)]; rfl
  | n + 1, i, ix, j => by
    show shn n (i + 1 + 1) (va_up ix (i + 1 - 1) (ix (i + 1))) j = _
    rw [shn_eq n (i + 1)]
    unfold va_up
    by_cases c : i + 1 ≤ j ∧ j < i + 1 + n
    · rw [if_pos c, if_neg (by omega), if_pos (by omega)]
    · rw [if_neg c]
      by_cases c2 : j = i
      · rw [if_pos (by omega), if_pos (by omega), c2]
      · rw [if_neg (by omega), if_neg (by omega)]
theorem lo_eq (ix : Nat → Nat) {i : Nat} (hi : i < 10) : lo_ix ix i = if i = 9 then ix 0 else ix (i + 1) := by
  unfold lo_ix
  show (if i = 9 then ix 0 else shn 9 (0 + 1) ix i) = _
  by_cases c : i = 9
  · rw [if_pos c, if_pos c]
  · rw [if_neg c, if_neg c, shn_eq, if_pos (by omega)]
theorem put1_eq {P : PstS} {k : Nat} (hk : k < 10) (h1 : P.1 = nI k) (hix : P.2.1 k < 10) (hn : n ≤ 12) (hN : NetR N n o pl od) : ∃ K, f_X4_put1 P N = some (nI (k + 1), P.2.1, updN P.2.2 (P.2.1 k) K) ∧ NetR K n o pl od := by
  unfold f_X4_put1
  rw [h1, q_in (by omega) (by omega), q_cl (by omega), if_pos hix]
  obtain ⟨K, e, hK⟩ := copyOf_eq hn hN (P.2.2 (P.2.1 k))
  rw [e, Option.bind_some]
  simp only [lit, nI_add]
  exact ⟨K, rfl, hK⟩
theorem q_m24 (a b : Nat) : nI 24 * nI a + nI b = nI (24 * a + b) := by rw [q_mul, nI_add]
theorem n47 {M : ModS} {S : Nat → Int32} {k : Nat} (hk : k < 10) (m17 : M 17 = nI k) (ke : (Nat → Int32) → Option (ModS × (Nat → Int32))) (U : Nat → Int32) : ∃ U', k_X9_notes_47 M S ke fu (nI 0) U = ke U' ∧ (∀ j, j < 24 → U' (24 * k + j) = S j) ∧ ∀ j, j < 24 * k → U' j = U j := by
  obtain ⟨U', ⟨a, b⟩, e⟩ := loop_e (fun m i (T : Nat → Int32) => k_X9_notes_47 M S ke m (nI i) T) (fun T => ke T) (fun i T => (∀ j, j < i → T (24 * k + j) = S j) ∧ ∀ j, j < 24 * k → T j = U j) 24 U (by omega) ⟨fun _ q => absurd q (Nat.not_lt_zero _), fun _ _ => rfl⟩
    (by intro m T _; rw [k_X9_notes_47.eq_2]; simp only [lit]; rw [q_le_t (by omega) (by omega)])
    (by
      intro m i T hi ⟨a, b⟩
      rw [k_X9_notes_47.eq_2, m17]
      simp only [lit]
      rw [q_le_f (by omega) (by omega), q_m24, q_in (by omega) (by omega), q_in (by omega) (by omega), q_cl (by omega), q_cl (by omega), nI_add]
      refine ⟨upd T (24 * k + i) (S i), ⟨fun j hj => ?_, fun j hj => by rw [pk_un (by omega)]; exact b j hj⟩, rfl⟩
      rcases (show j < i ∨ j = i by omega) with q | q
      · rw [pk_un (by omega)]; exact a j q
      · subst q; rw [pk_us])
  exact ⟨U', e, a, b⟩
theorem n11 {M : ModS} {S : Nat → Int32} (ke : (Nat → Int32) → Option (ModS × (Nat → Int32))) (U : Nat → Int32) : ∃ U', k_X9_notes_11 M S ke fu (nI 0) U = ke U' ∧ ∀ j, j < 216 → U' j = U (j + 24) := by
  obtain ⟨U', ⟨a, _⟩, e⟩ := loop_e (fun m i (T : Nat → Int32) => k_X9_notes_11 M S ke m (nI i) T) (fun T => ke T) (fun i T => (∀ j, j < i → T j = U (j + 24)) ∧ ∀ j, i ≤ j → T j = U j) 216 U (by omega) ⟨fun _ q => absurd q (Nat.not_lt_zero _), fun _ _ => rfl⟩
    (by intro m T _; rw [k_X9_notes_11.eq_2]; simp only [lit]; rw [q_le_t (by omega) (by omega)])
    (by
      intro m i T hi ⟨a, b⟩
      rw [k_X9_notes_11.eq_2]
      simp only [lit, nI_add]
      rw [q_le_f (by omega) (by omega), q_in (by omega) (by omega), q_in (by omega) (by omega), q_cl (by omega), q_cl (by omega), b (i + 24) (by omega)]
      refine ⟨upd T i (U (i + 24)), ⟨fun j hj => ?_, fun j hj => by rw [pk_un (by omega)]; exact b j (by omega)⟩, rfl⟩
      rcases (show j < i ∨ j = i by omega) with q | q
      · rw [pk_un (by omega)]; exact a j q
      · subst q; rw [pk_us])
  exact ⟨U', e, a⟩
theorem KepR.mv {K : NetS} {U U' : Nat → Int32} {i j n : Nat} (hn : n ≤ 12) (h : KepR K U i n) (he : ∀ q, q < 24 → U' (24 * j + q) = U (24 * i + q)) : KepR K U' j n := by
  obtain ⟨o, pl, od, a, b, c⟩ := h
  exact ⟨o, pl, od, a, b, fun u hu => ⟨by rw [he u (by omega)]; exact (c u hu).1, by rw [he (12 + u) (by omega)]; exact (c u hu).2⟩⟩
theorem push_eq {P : PstS} {U : Nat → Int32} (hP : PastR P U (M 17) n) (hN : NetR N n o pl od) (h : Good n o pl od) (hS : RefR S n o pl) : ∃ P' M' U', f_X4_push P N = some P' ∧ f_X9_notes M S U = some (M', U') ∧ PastR P' U' (M' 17) n ∧ ∀ k, k ≠ 17 → M' k = M k := by
  have hn := h.1.2
  obtain ⟨k, hk, p1, m17, hix, hinj, hkep⟩ := hP
  unfold f_X4_push f_X9_notes
  rw [p1, m17]
  simp only [lit]
  rw [q_lt_n (by omega) (by omega), q_eq_n (by omega) (by omega)]
  by_cases c : k < 10
  · rw [if_pos c, if_neg (by omega)]
    obtain ⟨K, e, hK⟩ := put1_eq c p1 (hix k (by omega)) hn hN
    obtain ⟨U', e2, u1, u2⟩ := n47 (M := M) (S := S) c m17 (fun m_undos_1 => some (upd M 17 (nI k + nI 1), m_undos_1)) U
    refine ⟨_, _, _, e, e2, ⟨k + 1, by omega, rfl, by rw [pk_us, nI_add], hix, hinj, fun i hi => ?_⟩, fun j hj => pk_un hj⟩
    show KepR (updN P.2.2 (P.2.1 k) K (P.2.1 i)) U' i n
    unfold updN
    rcases (show i < k ∨ i = k by omega) with q | q
    · rw [if_neg (fun e => by have := hinj i k (by omega) (by omega) e; omega)]
      exact (hkep i q).mv hn (fun j hj => u2 _ (by omega))
    · subst q
      rw [if_pos rfl]
      exact ⟨o, pl, od, h, hK, fun u hu => ⟨by rw [u1 u (by omega)]; exact (hS u hu).1, by rw [u1 (12 + u) (by omega)]; exact (hS u hu).2⟩⟩
  · have hk10 : k = 10 := by omega
    subst hk10
    rw [if_neg (by omega), if_pos rfl]
    have hall : (List.range 10).all (fun i => decide (P.2.1 i < 10)) = true := by
      rw [List.all_eq_true]
      intro i hi
      exact decide_eq_true (hix i (List.mem_range.mp hi))
    unfold f_X4_loseOldest
    rw [if_pos hall, Option.bind_some]
    have hl : ∀ i, i < 10 → lo_ix P.2.1 i < 10 := fun i hi => by
      rw [lo_eq _ hi]
      split
      · exact hix 0 (by omega)
      · exact hix _ (by omega)
    have hlinj : ∀ i j, i < 10 → j < 10 → lo_ix P.2.1 i = lo_ix P.2.1 j → i = j := fun i j hi hj e => by
      rw [lo_eq _ hi, lo_eq _ hj] at e
      by_cases c1 : i = 9
      · by_cases c2 : j = 9
        · omega
        · rw [if_pos c1, if_neg c2] at e
          have := hinj _ _ (by omega) (by omega) e
          omega
      · by_cases c2 : j = 9
        · rw [if_neg c1, if_pos c2] at e
          have := hinj _ _ (by omega) (by omega) e
          omega
        · rw [if_neg c1, if_neg c2] at e
          have := hinj _ _ (by omega) (by omega) e
          omega
    obtain ⟨K, e, hK⟩ := put1_eq (P := (nI 9, lo_ix P.2.1, P.2.2)) (k := 9) (by omega) rfl (hl 9 (by omega)) hn hN
    obtain ⟨U1, e1, v1⟩ := n11 (M := M) (S := S) (fun m_undos_2 => (k_X9_notes_47 (upd M 17 (nI 9)) S (fun m_undos_3 => (some ((upd M 17 (nI 9 + nI 1)), m_undos_3))) fu (nI 0) m_undos_2)) U
    obtain ⟨U', e2, u1, u2⟩ := n47 (M := upd M 17 (nI 9)) (S := S) (k := 9) (by omega) pk_us (fun m_undos_3 => some (upd M 17 (nI 9 + nI 1), m_undos_3)) U1
    refine ⟨_, _, _, e, e1.trans e2, ⟨10, by omega, rfl, by rw [pk_us, nI_add], hl, hlinj, fun i hi => ?_⟩, fun j hj => pk_un hj⟩
    show KepR (updN P.2.2 (lo_ix P.2.1 9) K (lo_ix P.2.1 i)) U' i n
    unfold updN
    rcases (show i < 9 ∨ i = 9 by omega) with q | q
    · rw [if_neg (fun e => by have := hlinj i 9 (by omega) (by omega) e; omega), lo_eq _ (by omega), if_neg (by omega)]
      exact (hkep (i + 1) (by omega)).mv hn (fun j hj => by rw [u2 _ (by omega), v1 _ (by omega), show 24 * i + j + 24 = 24 * (i + 1) + j by omega])
    · subst q
      rw [if_pos rfl]
      exact ⟨o, pl, od, h, hK, fun u hu => ⟨by rw [u1 u (by omega)]; exact (hS u hu).1, by rw [u1 (12 + u) (by omega)]; exact (hS u hu).2⟩⟩
/-- a step back, of both -/
theorem undo_eq {P : PstS} {U : Nat → Int32} (hn1 : 1 ≤ n) (hn : n ≤ 12) (hP : PastR P U (M 17) n) (hN : NetR N n o pl od) (h : Good n o pl od) (hS : RefR S n o pl) : ∃ r N' P' M' S', f_X8_undo N P = some (r, N', P') ∧ f_X9_undo M S U = some (r, M', S') ∧ PastR P' U (M' 17) n ∧ (∃ o pl od, Good n o pl od ∧ NetR N' n o pl od ∧ RefR S' n o pl) ∧ ∀ k, k ≠ 17 → k ≠ 0 → M' k = M k := by
  obtain ⟨k, hk, p1, m17, hix, hinj, hkep⟩ := hP
  unfold f_X8_undo f_X4_pop f_X9_undo
  rw [p1, m17]
  simp only [lit]
  rw [q_eq_n (by omega) (by omega)]
  by_cases c : k = 0
  · rw [if_pos c, q_eq_t c, Option.bind_some]
    exact ⟨_, _, _, _, _, rfl, rfl, ⟨k, hk, p1, by rw [pk_un (by decide)]; exact m17, hix, hinj, hkep⟩, ⟨o, pl, od, h, hN, hS⟩, fun j _ hj => pk_un hj⟩
  · rw [if_neg c, q_eq_f (by omega) (by omega) (by omega), q_sub (by omega), q_in (by omega) (by omega), q_cl (by omega), if_pos (hix _ (by omega))]
    obtain ⟨o2, pl2, od2, g2, r2, u2⟩ := hkep (k - 1) (by omega)
    obtain ⟨K, e, hK⟩ := copyOf_eq hn r2 N
    rw [e, Option.bind_some, Option.bind_some, if_neg (show ¬ nI 1 = nI 0 by decide)]
    have m17' : (upd (upd M 0 (nI 0)) 17 (nI (k - 1))) 17 = nI (k - 1) := pk_us
    obtain ⟨S', hS', e2⟩ := loop_e (fun m i (T : Nat → Int32) => k_X9_undo_27 (upd (upd M 0 (nI 0)) 17 (nI (k - 1))) U (fun m_s_1 => (some (nI (k - 1), upd (upd M 0 (nI 0)) 17 (nI (k - 1)), m_s_1))) m (nI i) T) (fun T => some (nI (k - 1), upd (upd M 0 (nI 0)) 17 (nI (k - 1)), T)) (fun i T => ∀ j, j < i → T j = U (24 * (k - 1) + j)) 24 S (by omega) (fun _ q => absurd q (Nat.not_lt_zero _))
      (by intro m T _; rw [k_X9_undo_27.eq_2]; simp only [lit]; rw [q_le_t (by omega) (by omega)])
      (by
        intro m i T hi hT
        rw [k_X9_undo_27.eq_2, m17']
        simp only [lit]
        rw [q_le_f (by omega) (by omega), q_m24, q_in (by omega) (by omega), q_in (by omega) (by omega), q_cl (by omega), q_cl (by omega), nI_add]
        refine ⟨upd T i (U (24 * (k - 1) + i)), fun j hj => ?_, rfl⟩
        rcases (show j < i ∨ j = i by omega) with q | q
        · rw [pk_un (by omega)]; exact hT j q
        · subst q; rw [pk_us])
    refine ⟨_, _, _, _, _, rfl, e2, ⟨k - 1, by omega, rfl, m17', hix, hinj, fun i hi => hkep i (by omega)⟩, ⟨o2, pl2, od2, g2, hK, fun u hu => ⟨by rw [hS' u (by omega)]; exact (u2 u hu).1, by rw [hS' (12 + u) (by omega)]; exact (u2 u hu).2⟩⟩, fun j h1 h2 => by rw [pk_un h1, pk_un h2]⟩
end SRT
