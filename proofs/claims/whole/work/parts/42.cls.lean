/-! ===== the class's net: what its questions answer ===== -/
def isI (n : Nat) (x : Int32) : Bool := decide (¬ x < 0 ∧ x < nI n)
theorem isI_t {n : Nat} {x : Int32} (h : isI n x = true) (hn : n ≤ 12) : ∃ j, j < n ∧ x = nI j := by
  have h1 := of_decide_eq_true h
  obtain ⟨j, hj, rfl⟩ := nI_of h1.1
  exact ⟨j, (q_lt hj (by omega)).mp h1.2, rfl⟩
theorem isI_nI {n j : Nat} (hj : j < n) (hn : n ≤ 12) : isI n (nI j) = true := decide_eq_true ⟨nI_pos (by omega), (q_lt (by omega) (by omega)).mpr hj⟩
theorem isItem_eq {N : NetS} {n : Nat} (h1 : N.1 = nI n) (x : Int32) : f_X3_isItem N x = some (nI (isI n x).toNat) := by
  unfold f_X3_isItem isI
  rw [h1]
  simp only [lit]
  by_cases c1 : x < nI 0
  · rw [if_pos c1, decide_eq_false (fun q => q.1 c1)]; rfl
  · rw [if_neg c1]
    by_cases c2 : nI n ≤ x
    · rw [if_pos c2, decide_eq_false (fun q => absurd c2 (Int32.not_le.mpr q.2))]; rfl
    · rw [if_neg c2, decide_eq_true ⟨c1, Int32.not_le.mp c2⟩]; rfl
def isP (n : Nat) (x y : Int32) : Bool := isI n x && (isI n y && decide (¬ x = y))
theorem isP_t {n : Nat} {x y : Int32} (h : isP n x y = true) (hn : n ≤ 12) : ∃ u v, u < n ∧ v < n ∧ u ≠ v ∧ x = nI u ∧ y = nI v := by
  unfold isP at h
  rw [Bool.and_eq_true, Bool.and_eq_true, decide_eq_true_iff] at h
  obtain ⟨u, hu, rfl⟩ := isI_t h.1 hn
  obtain ⟨v, hv, rfl⟩ := isI_t h.2.1 hn
  exact ⟨u, v, hu, hv, fun e => h.2.2 (by rw [e]), rfl, rfl⟩
theorem isP_nI {n u v : Nat} (hu : u < n) (hv : v < n) (hn : n ≤ 12) : isP n (nI u) (nI v) = decide (¬ u = v) := by
  unfold isP
  rw [isI_nI hu hn, isI_nI hv hn, Bool.true_and, Bool.true_and]
  by_cases h : u = v
  · subst h; simp
  · rw [decide_eq_true h]
    exact decide_eq_true (fun q => h ((q_eq (by omega) (by omega)).mp q))
theorem isPair_eq {N : NetS} {n : Nat} (h1 : N.1 = nI n) (x y : Int32) : f_X3_isPair N x y = some (nI (isP n x y).toNat) := by
  unfold f_X3_isPair isP
  rw [isItem_eq h1, isItem_eq h1]
  simp only [lit, Option.bind_some]
  rw [q_b0]
  cases isI n x with
  | false => rfl
  | true =>
    rw [if_pos rfl, q_b0]
    cases isI n y with
    | false => rfl
    | true =>
      rw [if_pos rfl]
      by_cases c : x = y
      · rw [if_pos c, decide_eq_false (fun q => q c)]; rfl
      · rw [if_neg c, decide_eq_true c]; rfl
section CLS
variable {N : NetS} {n : Nat} {o pl od : Nat → Nat}
theorem has_eq (hN : NetR N n o pl od) (h : Good n o pl od) {u v : Nat} (hu : u < n) (hv : v < n) : f_X3_has N (nI u) (nI v) = some (nI ((o u).testBit v).toNat) := by
  have hn := h.1.2
  have := h.olt hu
  unfold f_X3_has
  rw [q_in (by omega) (by omega), q_cl (by omega), hN.2.2.1 u hu, hb_eq (by omega) (by omega), Option.bind_some, q_bz]
theorem every_eq (hN : NetR N n o pl od) (h : Good n o pl od) : f_X3_everyItem N = some (nI (2 ^ n - 1)) := by
  have hn := h.1.2
  unfold f_X3_everyItem
  rw [hN.1]
  simp only [lit]
  rw [q_sh (by omega), q_sub (p2_pos n)]
/-- all behind an item, all ahead of it -/
noncomputable def beh (n : Nat) (o : Nat → Nat) (u : Nat) : Nat := msk (fun x => dc (Rch n o u x ∧ x ≠ u)) n
noncomputable def ahd (n : Nat) (o : Nat → Nat) (u : Nat) : Nat := msk (fun x => dc (Rch n o x u ∧ x ≠ u)) n
theorem beh_bit {u x : Nat} : (beh n o u).testBit x = true ↔ x < n ∧ Rch n o u x ∧ x ≠ u := by
  unfold beh
  rw [msk_bit, Bool.and_eq_true, decide_eq_true_iff, dc_iff]
theorem ahd_bit {u x : Nat} : (ahd n o u).testBit x = true ↔ x < n ∧ Rch n o x u ∧ x ≠ u := by
  unfold ahd
  rw [msk_bit, Bool.and_eq_true, decide_eq_true_iff, dc_iff]
theorem beh_lt (u : Nat) : beh n o u < 2 ^ n := msk_lt _ _
theorem ahd_lt (u : Nat) : ahd n o u < 2 ^ n := msk_lt _ _
theorem ndf_b {a b i : Nat} : (ndf a b).testBit i = true ↔ a.testBit i = true ∧ ¬ b.testBit i = true := by
  rw [ndf_bit, Bool.and_eq_true, Bool.not_eq_true', Bool.not_eq_true]
theorem allBehind_eq (hN : NetR N n o pl od) (h : Good n o pl od) {u : Nat} (hu : u < n) : f_X3_allBehind N (nI u) = some (nI (beh n o u)) := by
  have hn := h.1.2
  have hpu := (h.2.2.1 u hu).1
  unfold f_X3_allBehind
  rw [hN.1]
  simp only [lit]
  rw [q_sub (by omega), sweepOn_eq hN h hu (by omega) (by omega), Option.bind_some, q_sh (by omega), q_ndf]
  congr 2
  apply eq_bits2
  intro x
  rw [ndf_b, fw_bit, beh_bit, p2_bit]
  constructor
  · intro ⟨⟨a, b, _⟩, d⟩
    exact ⟨a, b, d⟩
  · intro ⟨a, b, d⟩
    have := (h.2.2.1 x a).1
    exact ⟨⟨a, b, by omega⟩, d⟩
theorem allAheadOf_eq (hN : NetR N n o pl od) (h : Good n o pl od) {u : Nat} (hu : u < n) : f_X3_allAheadOf N (nI u) = some (nI (ahd n o u)) := by
  have hn := h.1.2
  unfold f_X3_allAheadOf
  simp only [lit]
  rw [sweepBack_eq hN h hu (by omega), Option.bind_some, q_sh (by omega), q_ndf]
  congr 2
  apply eq_bits2
  intro x
  rw [ndf_b, bw_bit, ahd_bit, p2_bit]
  constructor
  · intro ⟨⟨a, b, _⟩, d⟩
    exact ⟨a, b, d⟩
  · intro ⟨a, b, d⟩
    exact ⟨⟨a, b, by omega⟩, d⟩
noncomputable def aftM (n : Nat) (o pl : Nat → Nat) (u v : Nat) : Nat := if pl u < pl v then 0 else fw n o pl v (pl u + 1)
noncomputable def befM (n : Nat) (o pl : Nat → Nat) (u v : Nat) : Nat := if pl u < pl v then 0 else bw n o pl u (pl v)
noncomputable def clo (n : Nat) (o : Nat → Nat) (u v : Nat) : Bool := dc (Rch n o v u)
noncomputable def mvd (n : Nat) (o pl : Nat → Nat) (u v : Nat) : Nat := if clo n o u v then 0 else befM n o pl u v ||| aftM n o pl u v
theorem aftM_lt (u v : Nat) : aftM n o pl u v < 2 ^ n := by unfold aftM; split; exact p2_pos n; exact fw_lt _ _ _ _ _
theorem befM_lt (u v : Nat) : befM n o pl u v < 2 ^ n := by unfold befM; split; exact p2_pos n; exact bw_lt _ _ _ _ _
theorem mvd_lt (u v : Nat) : mvd n o pl u v < 2 ^ n := by unfold mvd; split; exact p2_pos n; exact or_lt2 (befM_lt u v) (aftM_lt u v)
theorem after_eq (hN : NetR N n o pl od) (h : Good n o pl od) {u v : Nat} (hu : u < n) (hv : v < n) : f_X3_after N (nI u) (nI v) = some (nI (aftM n o pl u v)) := by
  have hn := h.1.2
  have hpu := (h.2.2.1 u hu).1
  have hpv := (h.2.2.1 v hv).1
  unfold f_X3_after aftM
  rw [q_in (by omega) (by omega), q_in (by omega) (by omega), q_cl (by omega), q_cl (by omega), hN.2.2.2.2.2 u hu, hN.2.2.2.2.2 v hv, q_le_n (by omega) (by omega)]
  by_cases c : pl u < pl v
  · rw [if_neg (by omega), if_pos c]; rfl
  · rw [if_pos (by omega), if_neg c, q_in (by omega) (by omega), sweepOn_eq hN h hv hpu (by omega)]; rfl
theorem before_eq (hN : NetR N n o pl od) (h : Good n o pl od) {u v : Nat} (hu : u < n) (hv : v < n) : f_X3_before N (nI u) (nI v) = some (nI (befM n o pl u v)) := by
  have hn := h.1.2
  have hpu := (h.2.2.1 u hu).1
  have hpv := (h.2.2.1 v hv).1
  unfold f_X3_before befM
  rw [q_in (by omega) (by omega), q_in (by omega) (by omega), q_cl (by omega), q_cl (by omega), hN.2.2.2.2.2 u hu, hN.2.2.2.2.2 v hv, q_le_n (by omega) (by omega)]
  by_cases c : pl u < pl v
  · rw [if_neg (by omega), if_pos c]; rfl
  · rw [if_pos (by omega), if_neg c, q_in (by omega) (by omega), sweepBack_eq hN h hu (by omega)]; rfl
theorem clo_pl (h : Good n o pl od) {u v : Nat} (hv : v ≠ u) (hc : clo n o u v = true) : pl v < pl u := by
  rcases h.2.2.2.2.le (dc_iff.mp hc) with e | e
  · exact absurd e hv
  · exact e
theorem closes_eq (hN : NetR N n o pl od) (h : Good n o pl od) {u v : Nat} (hu : u < n) (hv : v < n) (hne : u ≠ v) : f_X3_closesRing N (nI u) (nI v) = some (nI (clo n o u v).toNat) := by
  have hn := h.1.2
  have hpu := (h.2.2.1 u hu).1
  have hpv := (h.2.2.1 v hv).1
  have hlt := lt_4096 (fw_lt n o pl v (pl u + 1)) hn
  unfold f_X3_closesRing
  rw [q_in (by omega) (by omega), q_in (by omega) (by omega), q_cl (by omega), q_cl (by omega), hN.2.2.2.2.2 u hu, hN.2.2.2.2.2 v hv, q_le_n (by omega) (by omega)]
  by_cases c : pl u ≤ pl v
  · rw [if_pos c]
    have : clo n o u v = false := by
      cases hc : clo n o u v with
      | false => rfl
      | true => have := clo_pl h (Ne.symm hne) hc; omega
    rw [this]; rfl
  · rw [if_neg c, q_in (by omega) (by omega), sweepOn_eq hN h hv hpu (by omega), Option.bind_some, hb_eq (by omega) (by omega), Option.bind_some]
    simp only [lit]
    have : (fw n o pl v (pl u + 1)).testBit u = clo n o u v := by
      cases hc : clo n o u v with
      | true => exact fw_bit.mpr ⟨hu, dc_iff.mp hc, by omega⟩
      | false =>
        cases hb : (fw n o pl v (pl u + 1)).testBit u with
        | false => rfl
        | true =>
          have := dc_t (fw_bit.mp hb).2.1
          unfold clo at hc
          rw [this] at hc; cases hc
    rw [this, q_b0]
    cases clo n o u v <;> rfl
theorem movedBy_eq (hN : NetR N n o pl od) (h : Good n o pl od) {u v : Nat} (hu : u < n) (hv : v < n) (hne : u ≠ v) : f_X3_movedBy N (nI u) (nI v) = some (nI (mvd n o pl u v)) := by
  unfold f_X3_movedBy mvd
  rw [closes_eq hN h hu hv hne, before_eq hN h hu hv, after_eq hN h hu hv]
  simp only [Option.bind_some, lit]
  rw [q_b0, q_or]
  cases clo n o u v <;> rfl
/-- two unlike items, no arc there, and none that would close a ring -/
noncomputable def tak (n : Nat) (o : Nat → Nat) (u v : Nat) : Bool := decide (¬ u = v) && (!(o u).testBit v && !clo n o u v)
theorem canTake_eq (hN : NetR N n o pl od) (h : Good n o pl od) {u v : Nat} (hu : u < n) (hv : v < n) : f_X3_canTake N (nI u) (nI v) = some (nI (tak n o u v).toNat) := by
  have hn := h.1.2
  unfold f_X3_canTake tak
  rw [isPair_eq hN.1, isP_nI hu hv hn, has_eq hN h hu hv]
  simp only [Option.bind_some, lit]
  rw [q_b0]
  by_cases c : u = v
  · rw [decide_eq_false (fun q => q c)]; rfl
  · rw [decide_eq_true c, if_pos rfl, q_b0, closes_eq hN h hu hv c]
    simp only [Option.bind_some]
    rw [q_b0]
    cases (o u).testBit v <;> cases clo n o u v <;> rfl
theorem isReady_eq (hN : NetR N n o pl od) (h : Good n o pl od) {u s : Nat} (hu : u < n) (hs : s < 4096) : f_X3_isReady N (nI u) (nI s) = some (nI (!s.testBit u && decide (ndf (tr n o u) s = 0)).toNat) := by
  have hn := h.1.2
  unfold f_X3_isReady
  have h3 : ndf (tr n o u) s < 2147483648 := by
    have : ndf (tr n o u) s < 2 ^ n := lt_of_bits fun i hi => by rw [ndf_bit, bits_of_lt (tr_lt n o u) hi, Bool.false_and]
    have := lt_4096 this hn
    omega
  rw [hb_eq (by omega) (by omega)]
  simp only [Option.bind_some, lit]
  rw [q_b0, q_in (by omega) (by omega), q_cl (by omega), hN.2.2.2.1 u hu, q_ndf, q_eq_n h3 (by omega)]
  cases s.testBit u with
  | true => rfl
  | false =>
    rw [if_neg (by decide)]
    by_cases c : ndf (tr n o u) s = 0
    · rw [if_pos c, decide_eq_true c]; rfl
    · rw [if_neg c, decide_eq_false c]; rfl
end CLS
