/-! ===== the reference: what an arc would do ===== -/
theorem in_eq {a b c : Nat} (ha : a < 2147483648) (hb : b < 2147483648) (hc : c < 2147483648) : f_X9_in (nI a) (nI b) (nI c) = some (nI (decide (b ≤ a ∧ a ≤ c)).toNat) := by
  unfold f_X9_in
  rw [q_lt_n ha hb, q_lt_n hc ha]
  by_cases c1 : a < b
  · rw [if_pos c1, decide_eq_false (by omega)]; rfl
  · rw [if_neg c1]
    by_cases c2 : c < a
    · rw [if_pos c2, decide_eq_false (by omega)]; rfl
    · rw [if_neg c2, decide_eq_true (by omega)]; rfl
theorem isItem9_eq {M : ModS} {n : Nat} (h : M 8 = nI n) (h1 : 1 ≤ n) (hn : n ≤ 12) (x : Int32) : f_X9_isItem M x = some (nI (isI n x).toNat) := by
  unfold f_X9_isItem f_X9_in isI
  rw [h]
  simp only [lit, Option.bind_some]
  rw [q_sub (by omega)]
  by_cases c1 : x < nI 0
  · rw [if_pos c1, decide_eq_false (fun q => q.1 c1)]; rfl
  · rw [if_neg c1]
    obtain ⟨j, hj, rfl⟩ := nI_of c1
    by_cases c2 : j < n
    · rw [q_lt_f (by omega) (by omega), decide_eq_true ⟨c1, (q_lt (by omega) (by omega)).mpr c2⟩]; rfl
    · rw [q_lt_t (by omega) (by omega), decide_eq_false (fun q => c2 ((q_lt (by omega) (by omega)).mp q.2))]; rfl
theorem isTwo_eq {M : ModS} {n : Nat} (h : M 8 = nI n) (h1 : 1 ≤ n) (hn : n ≤ 12) (x y : Int32) : f_X9_isTwo M x y = some (nI (isP n x y).toNat) := by
  unfold f_X9_isTwo isP
  rw [isItem9_eq h h1 hn, isItem9_eq h h1 hn]
  simp only [lit, Option.bind_some]
  rw [q_b0]
  cases isI n x with
  | false => rfl
  | true =>
    rw [if_pos rfl, q_b0]
    cases isI n y with
    | false => rfl
    | true =>
      rw [if_pos rfl]
      by_cases c : x = y
      · rw [if_pos c, decide_eq_false (fun q => q c)]; rfl
      · rw [if_neg c, decide_eq_true c]; rfl
def mid (f : Nat → Bool) (n : Nat) : Nat := msk f n
theorem sub_bit {a b : Nat} (h : ∀ i, a.testBit i = true → b.testBit i = true) {n : Nat} (hb : b < 2 ^ n) : a < 2 ^ n := lt_of_bits fun i hi => by
  cases ha : a.testBit i with
  | false => rfl
  | true => have := h i ha; rw [bits_of_lt hb hi] at this; cases this
theorem and_b {a b i : Nat} : (a &&& b).testBit i = true ↔ a.testBit i = true ∧ b.testBit i = true := by rw [Nat.testBit_and, Bool.and_eq_true]
section LOOKS
variable {n : Nat} {o pl od : Nat → Nat}
/-- one inner round: what was in it at its beginning has been gone on from, up to item k -/
def lkI (n : Nat) (o : Nat → Nat) (sp TA TB A0 B0 k A B : Nat) : Prop := (∀ x, A0.testBit x = true → A.testBit x = true) ∧ (∀ x, A.testBit x = true → TA.testBit x = true) ∧ (∀ y x, y < k → A0.testBit y = true → (o y).testBit x = true → sp.testBit x = true → A.testBit x = true) ∧ (∀ x, B0.testBit x = true → B.testBit x = true) ∧ (∀ x, B.testBit x = true → TB.testBit x = true) ∧ (∀ y z, y < k → B0.testBit z = true → (o y).testBit z = true → sp.testBit y = true → B.testBit y = true)
def spn (n : Nat) (pl : Nat → Nat) (u v : Nat) : Nat := msk (fun k => decide (pl v ≤ pl k ∧ pl k ≤ pl u)) n
theorem spn_bit {u v x : Nat} : (spn n pl u v).testBit x = true ↔ x < n ∧ pl v ≤ pl x ∧ pl x ≤ pl u := by
  unfold spn
  rw [msk_bit, Bool.and_eq_true, decide_eq_true_iff, decide_eq_true_iff]
theorem lk_step (h : Good n o pl od) {u v : Nat} (hu : u < n) (hv : v < n) {A0 B0 k A B : Nat} (hk : k < n) (hI : lkI n o (spn n pl u v) (fw n o pl v (pl u + 1)) (bw n o pl u (pl v)) A0 B0 k A B) :
    lkI n o (spn n pl u v) (fw n o pl v (pl u + 1)) (bw n o pl u (pl v)) A0 B0 (k + 1) (A ||| (if A.testBit k then o k &&& spn n pl u v else 0)) (B ||| (if o k &&& B = 0 then 0 else if (spn n pl u v).testBit k then 2 ^ k else 0)) := by
  obtain ⟨i1, i2, i3, i4, i5, i6⟩ := hI
  refine ⟨fun x hx => or_bit.mpr (Or.inl (i1 x hx)), fun x hx => ?_, fun y x hy ha hx hs => ?_, fun x hx => or_bit.mpr (Or.inl (i4 x hx)), fun x hx => ?_, fun y z hy hb hz hs => ?_⟩
  · rcases or_bit.mp hx with q | q
    · exact i2 x q
    · cases hA : A.testBit k with
      | false => rw [hA] at q; simp at q
      | true =>
        rw [hA, if_pos rfl, and_b] at q
        have hf := fw_bit.mp (i2 k hA)
        have hs := spn_bit.mp q.2
        exact fw_bit.mpr ⟨hs.1, hf.2.1.tr (Rch.of ⟨hk, hs.1, q.1⟩), by omega⟩
  · rcases (show y < k ∨ y = k by omega) with q | q
    · exact or_bit.mpr (Or.inl (i3 y x q ha hx hs))
    · subst q
      rw [i1 y ha, if_pos rfl]
      exact or_bit.mpr (Or.inr (and_b.mpr ⟨hx, hs⟩))
  · rcases or_bit.mp hx with q | q
    · exact i5 x q
    · by_cases c : o k &&& B = 0
      · rw [if_pos c] at q; simp at q
      · rw [if_neg c] at q
        cases hs : (spn n pl u v).testBit k with
        | false => rw [hs] at q; simp at q
        | true =>
          rw [hs, if_pos rfl, p2_bit] at q
          subst q
          have h1 : ∃ z, (o x).testBit z = true ∧ B.testBit z = true := by
            apply Classical.byContradiction
            intro hn
            exact c (and_0.mpr fun i hi => hn ⟨i, hi⟩)
          obtain ⟨z, h1, h2⟩ := h1
          have hb := bw_bit.mp (i5 z h2)
          have hs := spn_bit.mp hs
          exact bw_bit.mpr ⟨hk, (Rch.of ⟨hk, hb.1, h1⟩).tr hb.2.1, hs.2.1⟩
  · rcases (show y < k ∨ y = k by omega) with q | q
    · exact or_bit.mpr (Or.inl (i6 y z q hb hz hs))
    · subst q
      refine or_bit.mpr (Or.inr ?_)
      rw [if_neg (fun q => and_0.mp q z ⟨hz, i4 z hb⟩), hs, if_pos rfl]
      exact p2_bit.mpr rfl
/-- r rounds are through -/
def lkO (n : Nat) (o pl : Nat → Nat) (u v r A B : Nat) : Prop := (∀ x, A.testBit x = true → (fw n o pl v (pl u + 1)).testBit x = true) ∧ (∀ x, (fw n o pl v (pl u + 1)).testBit x = true → pl x ≤ pl v + r → A.testBit x = true) ∧ (∀ x, B.testBit x = true → (bw n o pl u (pl v)).testBit x = true) ∧ (∀ x, (bw n o pl u (pl v)).testBit x = true → pl u ≤ pl x + r → B.testBit x = true)
theorem lk_round (h : Good n o pl od) {u v : Nat} (hu : u < n) (hv : v < n) (hp : pl v ≤ pl u) {r A0 B0 A B : Nat} (h0 : lkO n o pl u v r A0 B0) (hI : lkI n o (spn n pl u v) (fw n o pl v (pl u + 1)) (bw n o pl u (pl v)) A0 B0 n A B) : lkO n o pl u v (r + 1) A B := by
  obtain ⟨i1, i2, i3, i4, i5, i6⟩ := hI
  obtain ⟨a1, a2, b1, b2⟩ := h0
  refine ⟨i2, fun x hx hr => ?_, i5, fun x hx hr => ?_⟩
  · rcases Nat.lt_or_ge (pl v + r) (pl x) with q | q
    · have hf := fw_bit.mp hx
      rcases hf.2.1.last with e | ⟨z, rz, az⟩
      · subst e; omega
      · have hlt := h.2.2.2.2 z x az
        have hzv := h.2.2.2.2.le' rz
        have hxv := h.2.2.2.2.le' hf.2.1
        have hz : (fw n o pl v (pl u + 1)).testBit z = true := fw_bit.mpr ⟨az.1, rz, by omega⟩
        exact i3 z x az.1 (a2 z hz (by omega)) az.2.2 (spn_bit.mpr ⟨hf.1, hxv, by omega⟩)
    · exact i1 x (a2 x hx q)
  · rcases Nat.lt_or_ge (pl x + r) (pl u) with q | q
    · have hf := bw_bit.mp hx
      rcases hf.2.1.head with e | ⟨z, az, rz⟩
      · subst e; omega
      · have hlt := h.2.2.2.2 x z az
        have hzu := h.2.2.2.2.le' rz
        have hxu := h.2.2.2.2.le' hf.2.1
        have hz : (bw n o pl u (pl v)).testBit z = true := bw_bit.mpr ⟨az.2.1, rz, by omega⟩
        exact i6 x z az.1 (b2 z hz (by omega)) az.2.2 (spn_bit.mpr ⟨hf.1, by omega, hxu⟩)
    · exact i4 x (b2 x hx q)
theorem lk_start (h : Good n o pl od) {u v : Nat} (hu : u < n) (hv : v < n) (hp : pl v ≤ pl u) : lkO n o pl u v 0 (2 ^ v) (2 ^ u) := by
  refine ⟨fun x hx => ?_, fun x hx hr => ?_, fun x hx => ?_, fun x hx hr => ?_⟩
  · rw [p2_bit] at hx; subst hx; exact fw_bit.mpr ⟨hv, Rch.rf, by omega⟩
  · have hf := fw_bit.mp hx
    rcases h.2.2.2.2.le hf.2.1 with e | e
    · rw [p2_bit, e]
    · omega
  · rw [p2_bit] at hx; subst hx; exact bw_bit.mpr ⟨hu, Rch.rf, by omega⟩
  · have hf := bw_bit.mp hx
    rcases h.2.2.2.2.le hf.2.1 with e | e
    · rw [p2_bit, e]
    · omega
theorem lk_end (h : Good n o pl od) {u v : Nat} (hu : u < n) (hv : v < n) {A B : Nat} (hI : lkO n o pl u v n A B) : A = fw n o pl v (pl u + 1) ∧ B = bw n o pl u (pl v) := by
  obtain ⟨a1, a2, b1, b2⟩ := hI
  have hpu := (h.2.2.1 u hu).1
  refine ⟨eq_bits2 fun x => ⟨a1 x, fun hx => a2 x hx ?_⟩, eq_bits2 fun x => ⟨b1 x, fun hx => b2 x hx (by omega)⟩⟩
  have := (h.2.2.1 x (fw_bit.mp hx).1).1
  omega
/-- what looks leaves: before, after, closes; nothing else -/
def LkR (n : Nat) (o pl : Nat → Nat) (u v : Nat) (M M' : ModS) : Prop := M' 26 = nI (befM n o pl u v) ∧ M' 27 = nI (aftM n o pl u v) ∧ M' 28 = nI (clo n o u v).toNat ∧ ∀ k, k ≠ 26 → k ≠ 27 → k ≠ 28 → M' k = M k
set_option maxHeartbeats 4000000 in
theorem looks_eq (h : Good n o pl od) {A : Nat → Int32} (hA : RefR A n o pl) {u v : Nat} (hu : u < n) (hv : v < n) (hne : u ≠ v) (M : ModS) : ∃ M', f_X9_looks M A (nI n) (nI u) (nI v) = some M' ∧ LkR n o pl u v M M' := by
  have hn := h.1.2
  have hpu := (h.2.2.1 u hu).1
  have hpv := (h.2.2.1 v hv).1
  unfold f_X9_looks
  simp only [lit]
  rw [nI_add, nI_add, q_in (by omega) (by omega), q_in (by omega) (by omega), q_cl (by omega), q_cl (by omega), (hA u hu).2, (hA v hv).2, q_le_n (by omega) (by omega)]
  by_cases c : pl v ≤ pl u
  case neg =>
    rw [if_neg c]
    refine ⟨_, rfl, ?_, ?_, ?_, ?_⟩
    · unfold befM; rw [if_pos (by omega)]; simp [upd]
    · unfold aftM; rw [if_pos (by omega)]; simp [upd]
    · have : clo n o u v = false := by
        cases hc : clo n o u v with
        | false => rfl
        | true => have := clo_pl h (Ne.symm hne) hc; omega
      rw [this]; simp [upd]
    · intro k k1 k2 k3; simp [upd, k1, k2, k3]
  case pos =>
    rw [if_pos c]
    -- the span
    obtain ⟨s, hs, e⟩ := loop_e (fun m i (s : Nat) => k_X9_looks_38 (nI n) (nI u) (nI v) (upd (upd (upd M 26 (nI 0)) 27 (nI 0)) 28 (nI 0)) A (fun x5_2 => k_X9_looks_107 (nI n) (nI u) x5_2 A (fun Mm_7 => (f_X9_has (Mm_7 27) (nI u)).bind fun r8 => if isZ r8 then some (upd Mm_7 28 r8) else none) fu (nI 0) (upd (upd (upd M 28 (nI 0)) 27 (nI 1 <<< (nI v &&& nI 31))) 26 (nI 1 <<< (nI u &&& nI 31)))) m (nI s) (nI i))
      (fun s => k_X9_looks_107 (nI n) (nI u) (nI s) A (fun Mm_7 => (f_X9_has (Mm_7 27) (nI u)).bind fun r8 => if isZ r8 then some (upd Mm_7 28 r8) else none) fu (nI 0) (upd (upd (upd M 28 (nI 0)) 27 (nI 1 <<< (nI v &&& nI 31))) 26 (nI 1 <<< (nI u &&& nI 31))))
      (fun i s => s = msk (fun k => decide (pl v ≤ pl k ∧ pl k ≤ pl u)) i) n 0 (by omega) rfl
      (by intro m s _; rw [k_X9_looks_38.eq_2, q_le_t (by omega) (by omega)])
      (by
        intro m i s hi hs
        refine ⟨_, rfl, ?_⟩
        have hpi := (h.2.2.1 i hi).1
        rw [k_X9_looks_38.eq_2, q_le_f (by omega) (by omega)]
        simp only [lit]
        rw [nI_add, nI_add, nI_add, q_in (by omega) (by omega), q_in (by omega) (by omega), q_in (by omega) (by omega), q_cl (by omega), q_cl (by omega), q_cl (by omega), (hA i hi).2, (hA u hu).2, (hA v hv).2, in_eq (by omega) (by omega) (by omega), Option.bind_some, q_b0, q_sh (k := i) (by omega), q_or, q_or, hs, nI_add]
        show _ = k_X9_looks_38 _ _ _ _ _ _ m (nI (msk _ i ||| _)) _
        by_cases hd : pl v ≤ pl i ∧ pl i ≤ pl u <;> simp [hd])
    refine (show ∃ M', _ = some M' ∧ LkR n o pl u v M M' from ?_)
    rw [e]
    have hs' : s = spn n pl u v := hs
    subst hs'
    clear e hs
    -- the rounds
    obtain ⟨M1, ⟨A1, B1, e27, e26, eo, hO⟩, e⟩ := loop_e (fun m i (s : ModS) => k_X9_looks_107 (nI n) (nI u) (nI (spn n pl u v)) A (fun Mm_7 => (f_X9_has (Mm_7 27) (nI u)).bind fun r8 => if isZ r8 then some (upd Mm_7 28 r8) else none) m (nI i) s)
      (fun s => (f_X9_has (s 27) (nI u)).bind fun r8 => if isZ r8 then some (upd s 28 r8) else none)
      (fun i s => ∃ A1 B1, s 27 = nI A1 ∧ s 26 = nI B1 ∧ (∀ k, k ≠ 26 → k ≠ 27 → k ≠ 28 → s k = M k) ∧ lkO n o pl u v i A1 B1) n (upd (upd (upd M 28 (nI 0)) 27 (nI 1 <<< (nI v &&& nI 31))) 26 (nI 1 <<< (nI u &&& nI 31))) (by omega)
      ⟨2 ^ v, 2 ^ u, by rw [q_sh (k := v) (by omega)]; simp [upd], by rw [q_sh (k := u) (by omega)]; simp [upd], fun k k1 k2 k3 => by simp [upd, k1, k2, k3], lk_start h hu hv c⟩
      (by intro m s _; rw [k_X9_looks_107.eq_2, q_le_t (by omega) (by omega)])
      (by
        intro m i s hi ⟨A0, B0, e27, e26, eo, hO⟩
        rw [k_X9_looks_107.eq_2, q_le_f (by omega) (by omega)]
        simp only [lit]
        obtain ⟨s1, ⟨A1, B1, f27, f26, fo, hI⟩, e⟩ := loop_e (fun q j (s : ModS) => k_X9_looks_116 (nI n) (nI u) (nI (spn n pl u v)) (nI i) A (fun Mm_6 => k_X9_looks_107 (nI n) (nI u) (nI (spn n pl u v)) A (fun Mm_7 => (f_X9_has (Mm_7 27) (nI u)).bind fun r8 => if isZ r8 then some (upd Mm_7 28 r8) else none) m (nI i + nI 1) Mm_6) q (nI j) s)
          (fun s => k_X9_looks_107 (nI n) (nI u) (nI (spn n pl u v)) A (fun Mm_7 => (f_X9_has (Mm_7 27) (nI u)).bind fun r8 => if isZ r8 then some (upd Mm_7 28 r8) else none) m (nI i + nI 1) s)
          (fun j s => ∃ A1 B1, s 27 = nI A1 ∧ s 26 = nI B1 ∧ (∀ k, k ≠ 26 → k ≠ 27 → k ≠ 28 → s k = M k) ∧ lkI n o (spn n pl u v) (fw n o pl v (pl u + 1)) (bw n o pl u (pl v)) A0 B0 j A1 B1) n s (by omega)
          ⟨A0, B0, e27, e26, eo, fun _ q => q, hO.1, fun _ _ q => absurd q (Nat.not_lt_zero _), fun _ q => q, hO.2.2.1, fun _ _ q => absurd q (Nat.not_lt_zero _)⟩
          (by intro q s _; rw [k_X9_looks_116.eq_2, q_le_t (by omega) (by omega)])
          (by
            intro q j s hj ⟨A1, B1, f27, f26, fo, hI⟩
            have lA := lt_4096 (sub_bit hI.2.1 (fw_lt n o pl v (pl u + 1))) hn
            have lB := lt_4096 (sub_bit hI.2.2.2.2.1 (bw_lt n o pl u (pl v))) hn
            have lS := lt_4096 (show spn n pl u v < 2 ^ n from msk_lt _ _) hn
            have lo := h.olt hj
            rw [k_X9_looks_116.eq_2, q_le_f (by omega) (by omega), f27, f26, h9_eq (by omega) (by omega), h9_eq (by omega) (by omega)]
            simp only [lit, Option.bind_some]
            rw [nI_add, Nat.zero_add]
            simp only [q_in (show j < 24 by omega) (show 24 < 2147483648 by omega)]
            rw [q_cl (by omega), (hA j hj).1]
            simp only [q_b0, q_sh (show j < 31 by omega)]
            simp only [q_and, q_eq_n (and_lt lo) (show 0 < 2147483648 by omega), q_or, nI_add]
            refine ⟨upd (upd s 27 (nI (A1 ||| (if A1.testBit j then o j &&& spn n pl u v else 0)))) 26 (nI (B1 ||| (if o j &&& B1 = 0 then 0 else if (spn n pl u v).testBit j then 2 ^ j else 0))), ⟨_, _, by simp [upd], by simp [upd], fun k k1 k2 k3 => by simp [upd, k1, k2]; exact fo k k1 k2 k3, lk_step h hu hv hj hI⟩, ?_⟩
            cases A1.testBit j <;> by_cases c1 : o j &&& B1 = 0 <;> cases (spn n pl u v).testBit j <;> simp [c1])
        refine ⟨s1, ⟨A1, B1, f27, f26, fo, lk_round h hu hv c hO hI⟩, ?_⟩
        rw [e, nI_add])
    rw [e]
    obtain ⟨eA, eB⟩ := lk_end h hu hv hO
    subst eA; subst eB
    have hlt := lt_4096 (fw_lt n o pl v (pl u + 1)) hn
    rw [e27, h9_eq (by omega) (by omega), Option.bind_some, q_bz]
    refine ⟨_, rfl, ?_, ?_, ?_, ?_⟩
    · unfold befM; rw [if_neg (by omega)]; simp [upd, e26]
    · unfold aftM; rw [if_neg (by omega)]; simp [upd, e27]
    · have : (fw n o pl v (pl u + 1)).testBit u = clo n o u v := by
        cases hc : clo n o u v with
        | true => exact fw_bit.mpr ⟨hu, dc_iff.mp hc, by omega⟩
        | false =>
          cases hb : (fw n o pl v (pl u + 1)).testBit u with
          | false => rfl
          | true =>
            have := dc_t (fw_bit.mp hb).2.1
            unfold clo at hc
            rw [this] at hc; cases hc
      rw [this]; simp [upd]
    · intro k k1 k2 k3; simp [upd, k3]; exact eo k k1 k2 k3
end LOOKS
