/-! ===== counting, ways along arcs, the net's picture ===== -/
theorem on_all : ∀ q, q < 64 → ∀ r, r < 64 → f_X9_ones (nI (64 * q + r)) = some (nI (pc (64 * q + r))) := by decide +kernel
theorem on_eq {a : Nat} (h : a < 4096) : f_X9_ones (nI a) = some (nI (pc a)) := by
  have := on_all (a / 64) (by omega) (a % 64) (by omega)
  rwa [show 64 * (a / 64) + a % 64 = a by omega] at this
theorem cnt_le (f : Nat → Bool) (n : Nat) : cnt f n ≤ n := by
  induction n with
  | zero => exact Nat.le_refl _
  | succ n ih => unfold cnt; cases f n <;> simp <;> omega
theorem cnt_s (f : Nat → Bool) (n : Nat) : cnt f (n + 1) = cnt f n + (f n).toNat := rfl
theorem cnt_mono (f : Nat → Bool) {a b : Nat} (h : a ≤ b) : cnt f a ≤ cnt f b := by
  induction b with
  | zero => have : a = 0 := by omega
            subst this; exact Nat.le_refl _
  | succ b ih =>
    rcases Nat.lt_or_ge a (b + 1) with h1 | h1
    · exact Nat.le_trans (ih (by omega)) (by rw [cnt_s]; omega)
    · have : a = b + 1 := by omega
      subst this; exact Nat.le_refl _
theorem cnt_lt (f : Nat → Bool) {a b : Nat} (h : a < b) (hf : f a = true) : cnt f a < cnt f b := by
  have h1 : cnt f (a + 1) ≤ cnt f b := cnt_mono f h
  rw [cnt_s, hf] at h1
  have h2 : cnt f a + 1 ≤ cnt f b := h1
  omega
theorem cnt_congr {f g : Nat → Bool} {n : Nat} (h : ∀ i, i < n → f i = g i) : cnt f n = cnt g n := by
  induction n with
  | zero => rfl
  | succ n ih => rw [cnt_s, cnt_s, ih (fun i hi => h i (by omega)), h n (by omega)]
theorem cnt_or {f g : Nat → Bool} {n : Nat} (h : ∀ i, i < n → (f i && g i) = false) : cnt (fun i => f i || g i) n = cnt f n + cnt g n := by
  induction n with
  | zero => rfl
  | succ n ih =>
    rw [cnt_s, cnt_s, cnt_s, ih (fun i hi => h i (by omega))]
    have := h n (by omega)
    cases hf : f n <;> cases hg : g n <;> simp_all <;> omega
theorem cnt_sel (f : Nat → Bool) (n : Nat) {r : Nat} (h : r < cnt f n) : ∃ q, q < n ∧ f q = true ∧ cnt f q = r := by
  induction n with
  | zero => exact absurd h (Nat.not_lt_zero _)
  | succ n ih =>
    rw [cnt_s] at h
    cases hf : f n with
    | false =>
      rw [hf] at h
      obtain ⟨q, h1, h2, h3⟩ := ih (by simpa using h)
      exact ⟨q, by omega, h2, h3⟩
    | true =>
      rw [hf] at h
      rcases Nat.lt_or_ge r (cnt f n) with h1 | h1
      · obtain ⟨q, h1, h2, h3⟩ := ih h1
        exact ⟨q, by omega, h2, h3⟩
      · exact ⟨n, by omega, hf, by simp at h; omega⟩
theorem cnt_inj {f : Nat → Bool} {p q : Nat} (hp : f p = true) (hq : f q = true) (h : cnt f p = cnt f q) : p = q := by
  rcases Nat.lt_trichotomy p q with h1 | h1 | h1
  · have := cnt_lt f h1 hp; omega
  · exact h1
  · have := cnt_lt f h1 hq; omega
theorem cnt_zero {f : Nat → Bool} {n : Nat} (h : ∀ i, i < n → f i = false) : cnt f n = 0 := by
  induction n with
  | zero => rfl
  | succ n ih => rw [cnt_s, ih (fun i hi => h i (by omega)), h n (by omega)]; rfl
theorem cnt_ext {f : Nat → Bool} {n m : Nat} (hm : n ≤ m) (h : ∀ i, n ≤ i → i < m → f i = false) : cnt f m = cnt f n := by
  induction m with
  | zero => have : n = 0 := by omega
            subst this; rfl
  | succ m ih =>
    rcases Nat.lt_or_ge n (m + 1) with h1 | h1
    · rw [cnt_s, h m (by omega) (by omega), ih (by omega) (fun i h2 h3 => h i h2 (by omega))]; rfl
    · have : n = m + 1 := by omega
      subst this; rfl
theorem pc_n {a n : Nat} (h : a < 2 ^ n) (hn : n ≤ 12) : pc a = cnt a.testBit n := cnt_ext hn (fun i h1 _ => bits_of_lt h h1)
theorem pc_le {a : Nat} : pc a ≤ 12 := cnt_le _ _
theorem and_0 {a b : Nat} : a &&& b = 0 ↔ ∀ i, ¬ (a.testBit i = true ∧ b.testBit i = true) := by
  constructor
  · intro h i hi
    have : (a &&& b).testBit i = true := by rw [Nat.testBit_and, hi.1, hi.2]; rfl
    rw [h, Nat.zero_testBit] at this
    cases this
  · intro h
    apply eq_of_bits
    intro i
    rw [Nat.testBit_and, Nat.zero_testBit]
    have := h i
    cases ha : a.testBit i <;> cases hb : b.testBit i <;> simp_all
noncomputable def dc (p : Prop) : Bool := @decide p (Classical.propDecidable p)
theorem dc_t {p : Prop} (h : p) : dc p = true := @decide_eq_true p (Classical.propDecidable p) h
theorem dc_f {p : Prop} (h : ¬ p) : dc p = false := @decide_eq_false p (Classical.propDecidable p) h
theorem dc_iff {p : Prop} : dc p = true ↔ p := ⟨fun h => @of_decide_eq_true p (Classical.propDecidable p) h, dc_t⟩
theorem dc_c {p q : Prop} (h : p ↔ q) : dc p = dc q := by rw [propext h]
/-! arcs -/
def arc (n : Nat) (o : Nat → Nat) (x y : Nat) : Prop := x < n ∧ y < n ∧ (o x).testBit y = true
def pth (n : Nat) (o : Nat → Nat) : Nat → Nat → Nat → Prop
  | 0, x, y => x = y
  | k + 1, x, y => ∃ z, arc n o x z ∧ pth n o k z y
def Rch (n : Nat) (o : Nat → Nat) (x y : Nat) : Prop := ∃ k, pth n o k x y
theorem pth_snoc {n : Nat} {o : Nat → Nat} : ∀ (k x y z : Nat), pth n o k x y → arc n o y z → pth n o (k + 1) x z
  | 0, x, y, z, h, h2 => by cases h; exact ⟨z, h2, rfl⟩
  | k + 1, x, y, z, ⟨w, h1, h⟩, h2 => ⟨w, h1, pth_snoc k w y z h h2⟩
theorem pth_app {n : Nat} {o : Nat → Nat} : ∀ (k j x y z : Nat), pth n o k x y → pth n o j y z → pth n o (k + j) x z
  | 0, j, x, y, z, h, h2 => by cases h; rw [Nat.zero_add]; exact h2
  | k + 1, j, x, y, z, ⟨w, h1, h⟩, h2 => by rw [show k + 1 + j = (k + j) + 1 by omega]; exact ⟨w, h1, pth_app k j w y z h h2⟩
theorem pth_last {n : Nat} {o : Nat → Nat} : ∀ (k x y : Nat), pth n o (k + 1) x y → ∃ z, pth n o k x z ∧ arc n o z y
  | 0, x, y, ⟨w, h1, h⟩ => by cases h; exact ⟨x, rfl, h1⟩
  | k + 1, x, y, ⟨w, h1, h⟩ => by
    obtain ⟨z, h2, h3⟩ := pth_last k w y h
    exact ⟨z, ⟨w, h1, h2⟩, h3⟩
theorem Rch.rf {n : Nat} {o : Nat → Nat} {x : Nat} : Rch n o x x := ⟨0, rfl⟩
theorem Rch.tr {n : Nat} {o : Nat → Nat} {x y z : Nat} (h : Rch n o x y) (h2 : Rch n o y z) : Rch n o x z := by
  obtain ⟨k, h⟩ := h
  obtain ⟨j, h2⟩ := h2
  exact ⟨k + j, pth_app k j x y z h h2⟩
theorem Rch.of {n : Nat} {o : Nat → Nat} {x y : Nat} (h : arc n o x y) : Rch n o x y := ⟨1, y, h, rfl⟩
theorem Rch.head {n : Nat} {o : Nat → Nat} {x y : Nat} (h : Rch n o x y) : x = y ∨ ∃ z, arc n o x z ∧ Rch n o z y := by
  obtain ⟨k, h⟩ := h
  cases k with
  | zero => exact Or.inl h
  | succ k => obtain ⟨z, h1, h2⟩ := h; exact Or.inr ⟨z, h1, k, h2⟩
theorem Rch.last {n : Nat} {o : Nat → Nat} {x y : Nat} (h : Rch n o x y) : x = y ∨ ∃ z, Rch n o x z ∧ arc n o z y := by
  obtain ⟨k, h⟩ := h
  cases k with
  | zero => exact Or.inl h
  | succ k => obtain ⟨z, h1, h2⟩ := pth_last k x y h; exact Or.inr ⟨z, ⟨k, h1⟩, h2⟩
def topo (n : Nat) (o pl : Nat → Nat) : Prop := ∀ x y, arc n o x y → pl x < pl y
theorem topo.pth {n : Nat} {o pl : Nat → Nat} (h : topo n o pl) : ∀ (k x y : Nat), pth n o k x y → pl x + k ≤ pl y
  | 0, x, y, e => by cases e; exact Nat.le_refl _
  | k + 1, x, y, ⟨z, h1, h2⟩ => by
    have := h x z h1
    have := topo.pth h k z y h2
    omega
theorem topo.le {n : Nat} {o pl : Nat → Nat} (h : topo n o pl) {x y : Nat} (r : Rch n o x y) : x = y ∨ pl x < pl y := by
  obtain ⟨k, r⟩ := r
  cases k with
  | zero => exact Or.inl r
  | succ k => have := h.pth (k + 1) x y r; exact Or.inr (by omega)
theorem topo.le' {n : Nat} {o pl : Nat → Nat} (h : topo n o pl) {x y : Nat} (r : Rch n o x y) : pl x ≤ pl y := by
  rcases h.le r with e | e
  · rw [e]; exact Nat.le_refl _
  · omega
theorem Rch.lt {n : Nat} {o : Nat → Nat} {x y : Nat} (h : Rch n o x y) (hx : x < n) : y < n := by
  rcases h.last with e | ⟨z, -, h1⟩
  · rw [← e]; exact hx
  · exact h1.2.1
theorem Rch.gt {n : Nat} {o : Nat → Nat} {x y : Nat} (h : Rch n o x y) (hy : y < n) : x < n := by
  rcases h.head with e | ⟨z, h1, -⟩
  · rw [e]; exact hy
  · exact h1.1
/-- the order, and arcs that go with it -/
def Good (n : Nat) (o pl od : Nat → Nat) : Prop := (1 ≤ n ∧ n ≤ 12) ∧ (∀ u, u < n → o u < 2 ^ n) ∧ (∀ u, u < n → pl u < n ∧ od (pl u) = u) ∧ (∀ p, p < n → od p < n ∧ pl (od p) = p) ∧ topo n o pl
def tr (n : Nat) (o : Nat → Nat) (v : Nat) : Nat := msk (fun u => (o u).testBit v) n
theorem tr_bit {n : Nat} {o : Nat → Nat} {v u : Nat} (hv : v < n) : (tr n o v).testBit u = true ↔ arc n o u v := by
  unfold tr arc
  rw [msk_bit, Bool.and_eq_true, decide_eq_true_iff]
  exact ⟨fun h => ⟨h.1, hv, h.2⟩, fun h => ⟨h.1, h.2.2⟩⟩
theorem tr_lt (n : Nat) (o : Nat → Nat) (v : Nat) : tr n o v < 2 ^ n := msk_lt _ _
def sumN (f : Nat → Nat) : Nat → Nat
  | 0 => 0
  | n + 1 => sumN f n + f n
def NetR (N : NetS) (n : Nat) (o pl od : Nat → Nat) : Prop := N.1 = nI n ∧ N.2.1 = nI (sumN (fun u => pc (o u)) n) ∧ (∀ u, u < n → N.2.2.1 u = nI (o u)) ∧ (∀ u, u < n → N.2.2.2.1 u = nI (tr n o u)) ∧ (∀ p, p < n → N.2.2.2.2.1 p = nI (od p)) ∧ (∀ u, u < n → N.2.2.2.2.2.1 u = nI (pl u))
def RefR (S : Nat → Int32) (n : Nat) (o pl : Nat → Nat) : Prop := ∀ u, u < n → S u = nI (o u) ∧ S (12 + u) = nI (pl u)
theorem Good.pinj {n : Nat} {o pl od : Nat → Nat} (h : Good n o pl od) {x y : Nat} (hx : x < n) (hy : y < n) (e : pl x = pl y) : x = y := by
  have h1 := (h.2.2.1 x hx).2
  have h2 := (h.2.2.1 y hy).2
  rw [← h1, ← h2, e]
theorem Good.olt {n : Nat} {o pl od : Nat → Nat} (h : Good n o pl od) {u : Nat} (hu : u < n) : o u < 4096 := Nat.lt_of_lt_of_le (h.2.1 u hu) (p2_12 h.1.2)
theorem lt_4096 {a n : Nat} (h : a < 2 ^ n) (hn : n ≤ 12) : a < 4096 := Nat.lt_of_lt_of_le h (p2_12 hn)
/-- all that v reaches ahead of a place; all that reaches u from a place on -/
noncomputable def fw (n : Nat) (o pl : Nat → Nat) (v p : Nat) : Nat := msk (fun x => dc (Rch n o v x ∧ pl x < p)) n
noncomputable def bw (n : Nat) (o pl : Nat → Nat) (u p : Nat) : Nat := msk (fun x => dc (Rch n o x u ∧ p ≤ pl x)) n
theorem fw_lt (n : Nat) (o pl : Nat → Nat) (v p : Nat) : fw n o pl v p < 2 ^ n := msk_lt _ _
theorem bw_lt (n : Nat) (o pl : Nat → Nat) (u p : Nat) : bw n o pl u p < 2 ^ n := msk_lt _ _
theorem fw_bit {n : Nat} {o pl : Nat → Nat} {v p x : Nat} : (fw n o pl v p).testBit x = true ↔ x < n ∧ Rch n o v x ∧ pl x < p := by
  unfold fw
  rw [msk_bit, Bool.and_eq_true, decide_eq_true_iff, dc_iff]
theorem bw_bit {n : Nat} {o pl : Nat → Nat} {u p x : Nat} : (bw n o pl u p).testBit x = true ↔ x < n ∧ Rch n o x u ∧ p ≤ pl x := by
  unfold bw
  rw [msk_bit, Bool.and_eq_true, decide_eq_true_iff, dc_iff]
theorem eq_bits2 {a b : Nat} (h : ∀ i, a.testBit i = true ↔ b.testBit i = true) : a = b := eq_of_bits fun i => by
  have := h i
  cases ha : a.testBit i <;> cases hb : b.testBit i <;> simp_all
theorem p2_bit {k i : Nat} : (2 ^ k).testBit i = true ↔ i = k := by
  rw [Nat.testBit_two_pow]
  simp [eq_comm]
theorem or_bit {a b i : Nat} : (a ||| b).testBit i = true ↔ a.testBit i = true ∨ b.testBit i = true := by
  rw [Nat.testBit_or, Bool.or_eq_true]
theorem fw_0 {n : Nat} {o pl od : Nat → Nat} (h : Good n o pl od) {v : Nat} (hv : v < n) : fw n o pl v (pl v + 1) = 2 ^ v := by
  apply eq_bits2
  intro x
  rw [fw_bit, p2_bit]
  constructor
  · intro ⟨h1, h2, h3⟩
    rcases h.2.2.2.2.le h2 with e | e
    · exact e.symm
    · omega
  · intro e
    subst e
    exact ⟨hv, Rch.rf, by omega⟩
theorem fw_s {n : Nat} {o pl od : Nat → Nat} (h : Good n o pl od) {v p : Nat} (hv : v < n) (hp : p < n) (hvp : pl v < p) : fw n o pl v (p + 1) = if tr n o (od p) &&& fw n o pl v p = 0 then fw n o pl v p else fw n o pl v p ||| 2 ^ od p := by
  have ho := h.2.2.2.1 p hp
  have key : ∀ x, x < n → pl x < p + 1 → pl x < p ∨ x = od p := by
    intro x hx h1
    rcases Nat.lt_or_ge (pl x) p with h2 | h2
    · exact Or.inl h2
    · right
      have e : pl x = p := by omega
      rw [← e, (h.2.2.1 x hx).2]
  split
  · rename_i h0
    rw [and_0] at h0
    apply eq_bits2
    intro x
    rw [fw_bit, fw_bit]
    constructor
    · intro ⟨h1, h2, h3⟩
      rcases key x h1 h3 with e | e
      · exact ⟨h1, h2, e⟩
      · exfalso
        rcases h2.last with e2 | ⟨z, r, a⟩
        · subst e2; rw [e, ho.2] at hvp; omega
        · subst e
          have hlt := h.2.2.2.2 z _ a
          rw [ho.2] at hlt
          exact h0 z ⟨(tr_bit ho.1).mpr a, fw_bit.mpr ⟨a.1, r, hlt⟩⟩
    · intro ⟨h1, h2, h3⟩
      exact ⟨h1, h2, by omega⟩
  · rename_i h0
    have h1 : ∃ z, (tr n o (od p)).testBit z = true ∧ (fw n o pl v p).testBit z = true := by
      apply Classical.byContradiction
      intro hn
      exact h0 (and_0.mpr fun i hi => hn ⟨i, hi⟩)
    obtain ⟨z, h2, h3⟩ := h1
    have a := (tr_bit ho.1).mp h2
    have r := (fw_bit.mp h3).2.1
    apply eq_bits2
    intro x
    rw [or_bit, fw_bit, fw_bit, p2_bit]
    constructor
    · intro ⟨h1, h2, h3⟩
      rcases key x h1 h3 with e | e
      · exact Or.inl ⟨h1, h2, e⟩
      · exact Or.inr e
    · intro q
      rcases q with ⟨h1, h2, h3⟩ | e
      · exact ⟨h1, h2, by omega⟩
      · subst e
        exact ⟨ho.1, r.tr (Rch.of a), by rw [ho.2]; omega⟩
theorem bw_0 {n : Nat} {o pl od : Nat → Nat} (h : Good n o pl od) {u : Nat} (hu : u < n) : bw n o pl u (pl u) = 2 ^ u := by
  apply eq_bits2
  intro x
  rw [bw_bit, p2_bit]
  constructor
  · intro ⟨h1, h2, h3⟩
    rcases h.2.2.2.2.le h2 with e | e
    · exact e
    · omega
  · intro e
    subst e
    exact ⟨hu, Rch.rf, by omega⟩
theorem bw_s {n : Nat} {o pl od : Nat → Nat} (h : Good n o pl od) {u p : Nat} (hu : u < n) (hpu : p < pl u) : bw n o pl u p = if o (od p) &&& bw n o pl u (p + 1) = 0 then bw n o pl u (p + 1) else bw n o pl u (p + 1) ||| 2 ^ od p := by
  have hp : p < n := by have := (h.2.2.1 u hu).1; omega
  have ho := h.2.2.2.1 p hp
  have key : ∀ x, x < n → p ≤ pl x → p + 1 ≤ pl x ∨ x = od p := by
    intro x hx h1
    rcases Nat.lt_or_ge p (pl x) with h2 | h2
    · exact Or.inl h2
    · right
      have e : pl x = p := by omega
      rw [← e, (h.2.2.1 x hx).2]
  split
  · rename_i h0
    rw [and_0] at h0
    apply eq_bits2
    intro x
    rw [bw_bit, bw_bit]
    constructor
    · intro ⟨h1, h2, h3⟩
      rcases key x h1 h3 with e | e
      · exact ⟨h1, h2, e⟩
      · exfalso
        rcases h2.head with e2 | ⟨z, a, r⟩
        · rw [← e2, e, ho.2] at hpu; omega
        · subst e
          have hlt := h.2.2.2.2 _ z a
          rw [ho.2] at hlt
          exact h0 z ⟨a.2.2, bw_bit.mpr ⟨a.2.1, r, hlt⟩⟩
    · intro ⟨h1, h2, h3⟩
      exact ⟨h1, h2, by omega⟩
  · rename_i h0
    have h1 : ∃ z, (o (od p)).testBit z = true ∧ (bw n o pl u (p + 1)).testBit z = true := by
      apply Classical.byContradiction
      intro hn
      exact h0 (and_0.mpr fun i hi => hn ⟨i, hi⟩)
    obtain ⟨z, h2, h3⟩ := h1
    have hz := bw_bit.mp h3
    apply eq_bits2
    intro x
    rw [or_bit, bw_bit, bw_bit, p2_bit]
    constructor
    · intro ⟨h1, h2, h3⟩
      rcases key x h1 h3 with e | e
      · exact Or.inl ⟨h1, h2, e⟩
      · exact Or.inr e
    · intro q
      rcases q with ⟨h1, h2, h3⟩ | e
      · exact ⟨h1, h2, by omega⟩
      · subst e
        exact ⟨ho.1, (Rch.of ⟨ho.1, hz.1, h2⟩).tr hz.2.1, by rw [ho.2]; omega⟩
theorem and_lt {a b : Nat} (h : a < 4096) : a &&& b < 2147483648 := by have := Nat.and_le_left (n := a) (m := b); omega
/-! the class's sweeps -/
theorem sweepOn_eq {N : NetS} {n : Nat} {o pl od : Nat → Nat} (hN : NetR N n o pl od) (h : Good n o pl od) {v last : Nat} (hv : v < n) (hl : last < n) (hvl : pl v ≤ last) : f_X3_sweepOn N (nI v) (nI last) = some (nI (fw n o pl v (last + 1))) := by
  obtain ⟨h1, h2, h3, h4, h5, h6⟩ := hN
  have hn := h.1.2
  unfold f_X3_sweepOn
  rw [q_in (by omega) (by omega), q_cl (by omega), h6 v hv]
  simp only [lit]
  rw [nI_add, q_sh (by omega)]
  refine loop_up (fun n i (s : Nat) => k_X3_sweepOn_14 (nI last) N (fun x => some x) n (nI s) (nI i)) (fun i s => pl v < i ∧ s = fw n o pl v i) (fun b => b = some (nI (fw n o pl v (last + 1)))) (last + 1) ?_ ?_ (last - pl v) (pl v + 1) fu (2 ^ v) (by omega) (by rw [fu_eq]; omega) ⟨by omega, (fw_0 h hv).symm⟩
  · intro m s ⟨_, hs⟩
    try dsimp only
    rw [k_X3_sweepOn_14.eq_2, q_lt_t (by omega) (by omega), hs]
  · intro m i s hi ⟨hvi, hs⟩
    refine Or.inl ⟨fw n o pl v (i + 1), ⟨by omega, rfl⟩, ?_⟩
    have ho := h.2.2.2.1 i (by omega)
    try dsimp only
    rw [k_X3_sweepOn_14.eq_2, q_lt_f (by omega) (by omega), q_in (by omega) (by omega), q_cl (by omega), h5 i (by omega), q_in (by omega) (by omega), q_cl (by omega), h4 _ ho.1]
    simp only [lit]
    rw [q_and, q_eq_n (and_lt (lt_4096 (tr_lt n o (od i)) hn)) (by omega), hs, fw_s h hv (p := i) (by omega) hvi, q_sh (by omega), q_or, nI_add]
    split <;> rfl
theorem loop_dn {σ β : Type} (K : Nat → Nat → σ → β) (Inv : Nat → σ → Prop) (Φ : β → Prop) (N : Nat) (hx : ∀ n s, Inv N s → Φ (K (n + 1) N s)) (hs : ∀ n i s, N ≤ i → Inv (i + 1) s → (∃ s', Inv i s' ∧ K (n + 1) (i + 1) s = K n i s') ∨ Φ (K (n + 1) (i + 1) s)) : ∀ (d n : Nat) (s : σ), d < n → Inv (N + d) s → Φ (K n (N + d) s) := by
  intro d
  induction d with
  | zero =>
    intro n s hd hI
    obtain ⟨n, rfl⟩ : ∃ m, n = m + 1 := ⟨n - 1, by omega⟩
    exact hx n s hI
  | succ d ih =>
    intro n s hd hI
    obtain ⟨n, rfl⟩ : ∃ m, n = m + 1 := ⟨n - 1, by omega⟩
    rcases hs n (N + d) s (by omega) hI with ⟨s', h1, h2⟩ | h
    · rw [show N + (d + 1) = N + d + 1 by omega, h2]
      exact ih n s' (by omega) h1
    · exact h
/-- one less, also of 0 -/
def dI (p : Nat) : Int32 := nI p - nI 1
theorem dI_s (p : Nat) : dI (p + 1) = nI p := by unfold dI; rw [q_sub (by omega)]; rfl
theorem dI_m (p : Nat) : nI p + -nI 1 = dI p := by unfold dI; rw [Int32.sub_eq_add_neg]
theorem dI_lt {p b : Nat} (hp : p < 2147483647) (hb : b < 2147483648) : dI p < nI b ↔ p ≤ b := by
  cases p with
  | zero =>
    constructor
    · intro _; omega
    · intro _
      rw [Int32.lt_iff_toInt_lt, nI_toInt hb]
      have : (dI 0).toInt = -1 := by decide
      omega
  | succ p => rw [dI_s, q_lt (by omega) hb]; omega
theorem dI_lt_t {α : Type} {p b : Nat} {X Y : α} (h : p ≤ b) (hb : b < 2147483647) : (if dI p < nI b then X else Y) = X := if_pos ((dI_lt (by omega) (by omega)).mpr h)
theorem dI_lt_f {α : Type} {p b : Nat} {X Y : α} (h : b < p) (hp : p < 2147483647) : (if dI p < nI b then X else Y) = Y := if_neg (fun q => by have := (dI_lt hp (by omega)).mp q; omega)
theorem sweepBack_eq {N : NetS} {n : Nat} {o pl od : Nat → Nat} (hN : NetR N n o pl od) (h : Good n o pl od) {u first : Nat} (hu : u < n) (hf : first ≤ pl u) : f_X3_sweepBack N (nI u) (nI first) = some (nI (bw n o pl u first)) := by
  obtain ⟨h1, h2, h3, h4, h5, h6⟩ := hN
  have hn := h.1.2
  have hpu := (h.2.2.1 u hu).1
  unfold f_X3_sweepBack
  rw [q_in (by omega) (by omega), q_cl (by omega), h6 u hu]
  simp only [lit]
  rw [q_sh (by omega)]
  have := loop_dn (fun n i (s : Nat) => k_X3_sweepBack_14 (nI first) N (fun x => some x) n (nI s) (dI i)) (fun i s => i ≤ pl u ∧ s = bw n o pl u i) (fun b => b = some (nI (bw n o pl u first))) first ?_ ?_ (pl u - first) fu (2 ^ u) (by rw [fu_eq]; omega) ⟨by omega, by rw [show first + (pl u - first) = pl u by omega]; exact (bw_0 h hu).symm⟩
  · try dsimp only at this
    rw [show first + (pl u - first) = pl u by omega] at this
    exact this
  · intro m s ⟨_, hs⟩
    try dsimp only
    rw [k_X3_sweepBack_14.eq_2, dI_lt_t (by omega) (by omega), hs]
  · intro m i s hi ⟨hiu, hs⟩
    refine Or.inl ⟨bw n o pl u i, ⟨by omega, rfl⟩, ?_⟩
    have ho := h.2.2.2.1 i (by omega)
    try dsimp only
    rw [k_X3_sweepBack_14.eq_2, dI_lt_f (by omega) (by omega), dI_s, q_in (by omega) (by omega), q_cl (by omega), h5 i (by omega), q_in (by omega) (by omega), q_cl (by omega), h3 _ ho.1]
    simp only [lit]
    rw [q_and, q_eq_n (and_lt (h.olt ho.1)) (by omega), hs, bw_s h hu (p := i) (by omega), q_sh (by omega), q_or, dI_m]
    split <;> rfl
