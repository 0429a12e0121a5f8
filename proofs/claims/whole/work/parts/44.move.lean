/-! ===== the move: items of two sets come to the places that they had ===== -/
def fnd (f : Nat → Bool) : Nat → Nat → Nat
  | 0, i => i
  | d + 1, i => if f i then i else fnd f d (i + 1)
theorem fnd_spec (f : Nat → Bool) : ∀ (d i q : Nat), i ≤ q → q < i + d → f q = true → i ≤ fnd f d i ∧ fnd f d i ≤ q ∧ f (fnd f d i) = true ∧ ∀ j, i ≤ j → j < fnd f d i → f j = false
  | 0, i, q, h1, h2, _ => by omega
  | d + 1, i, q, h1, h2, hf => by
    unfold fnd
    cases hi : f i with
    | true =>
      rw [if_pos rfl]
      exact ⟨Nat.le_refl _, h1, hi, fun j a b => by omega⟩
    | false =>
      rw [if_neg (by decide)]
      have hne : i ≠ q := fun e => by rw [e, hf] at hi; cases hi
      obtain ⟨a, b, c, e⟩ := fnd_spec f d (i + 1) q (by omega) (by omega) hf
      refine ⟨by omega, b, c, fun j j1 j2 => ?_⟩
      rcases (show j = i ∨ i + 1 ≤ j by omega) with q2 | q2
      · rw [q2]; exact hi
      · exact e j q2 j2
theorem fnd_uni {f : Nat → Bool} {n q : Nat} (hq : q < n) (hf : f q = true) (hu : ∀ j, j < n → f j = true → j = q) : fnd f n 0 = q := by
  obtain ⟨a, b, c, -⟩ := fnd_spec f n 0 q (by omega) (by omega) hf
  exact hu _ (by omega) c
def sel (f : Nat → Bool) (n r : Nat) : Nat := fnd (fun q => f q && decide (cnt f q = r)) n 0
theorem sel_eq {f : Nat → Bool} {n q : Nat} (hq : q < n) (hf : f q = true) : sel f n (cnt f q) = q := by
  refine fnd_uni hq (by rw [hf, decide_eq_true rfl]; rfl) (fun j hj h => ?_)
  rw [Bool.and_eq_true, decide_eq_true_iff] at h
  exact cnt_inj h.1 hf h.2
section MV
/-- where the item that comes to a place stood -/
def src (n : Nat) (fB fA : Nat → Bool) (p : Nat) : Nat := if fB p || fA p then (if cnt (fun q => fB q || fA q) p < cnt fB n then sel fB n (cnt (fun q => fB q || fA q) p) else sel fA n (cnt (fun q => fB q || fA q) p - cnt fB n)) else p
def dst (n : Nat) (fB fA : Nat → Bool) (p : Nat) : Nat := fnd (fun q => decide (src n fB fA q = p)) n 0
variable {n : Nat} {fB fA : Nat → Bool}
theorem cnt_M (hd : ∀ q, q < n → (fB q && fA q) = false) {p : Nat} (hp : p ≤ n) : cnt (fun q => fB q || fA q) p = cnt fB p + cnt fA p := cnt_or (fun i hi => hd i (by omega))
theorem src_M (hd : ∀ q, q < n → (fB q && fA q) = false) {p : Nat} (hp : p < n) (hm : (fB p || fA p) = true) : src n fB fA p < n ∧ ((fB (src n fB fA p) = true ∧ cnt fB (src n fB fA p) = cnt (fun q => fB q || fA q) p) ∨ (fA (src n fB fA p) = true ∧ cnt fB n + cnt fA (src n fB fA p) = cnt (fun q => fB q || fA q) p)) := by
  have h1 : cnt (fun q => fB q || fA q) p < cnt (fun q => fB q || fA q) n := cnt_lt _ hp hm
  rw [cnt_M hd (Nat.le_refl n)] at h1
  unfold src
  rw [if_pos hm]
  by_cases c : cnt (fun q => fB q || fA q) p < cnt fB n
  · rw [if_pos c]
    obtain ⟨q, a, b, e⟩ := cnt_sel fB n c
    rw [← e, sel_eq a b]
    exact ⟨a, Or.inl ⟨b, rfl⟩⟩
  · rw [if_neg c]
    obtain ⟨q, a, b, e⟩ := cnt_sel fA n (r := cnt (fun q => fB q || fA q) p - cnt fB n) (by omega)
    rw [← e, sel_eq a b]
    exact ⟨a, Or.inr ⟨b, by omega⟩⟩
theorem src_N {p : Nat} (hm : (fB p || fA p) = false) : src n fB fA p = p := by unfold src; rw [hm]; rfl
theorem src_m (hd : ∀ q, q < n → (fB q && fA q) = false) {p : Nat} (hp : p < n) : (fB (src n fB fA p) || fA (src n fB fA p)) = (fB p || fA p) := by
  cases hm : (fB p || fA p) with
  | false => rw [src_N hm, hm]
  | true =>
    rcases (src_M hd hp hm).2 with ⟨a, -⟩ | ⟨a, -⟩
    · rw [a]; rfl
    · rw [a, Bool.or_true]
theorem src_lt (hd : ∀ q, q < n → (fB q && fA q) = false) {p : Nat} (hp : p < n) : src n fB fA p < n := by
  cases hm : (fB p || fA p) with
  | false => rw [src_N hm]; exact hp
  | true => exact (src_M hd hp hm).1
theorem src_inj (hd : ∀ q, q < n → (fB q && fA q) = false) {p q : Nat} (hp : p < n) (hq : q < n) (e : src n fB fA p = src n fB fA q) : p = q := by
  have hmp := src_m hd hp
  have hmq := src_m hd hq
  cases hm : (fB p || fA p) with
  | false =>
    have hm2 : (fB q || fA q) = false := by rw [← hmq, ← e, hmp, hm]
    rw [src_N hm, src_N hm2] at e
    exact e
  | true =>
    have hm2 : (fB q || fA q) = true := by rw [← hmq, ← e, hmp, hm]
    obtain ⟨l1, h1⟩ := src_M hd hp hm
    obtain ⟨l2, h2⟩ := src_M hd hq hm2
    have hx := hd _ l1
    rw [← e] at h2
    rcases h1 with ⟨a1, b1⟩ | ⟨a1, b1⟩ <;> rcases h2 with ⟨a2, b2⟩ | ⟨a2, b2⟩
    · exact cnt_inj (f := fun q => fB q || fA q) hm hm2 (by omega)
    · rw [a1, a2] at hx; cases hx
    · rw [a1, a2] at hx; cases hx
    · exact cnt_inj (f := fun q => fB q || fA q) hm hm2 (by omega)
theorem src_sur (hd : ∀ q, q < n → (fB q && fA q) = false) {q : Nat} (hq : q < n) : ∃ p, p < n ∧ src n fB fA p = q := by
  cases hB : fB q with
  | true =>
    have h1 := cnt_lt fB hq hB
    obtain ⟨p, a, b, e⟩ := cnt_sel (fun q => fB q || fA q) n (r := cnt fB q) (by rw [cnt_M hd (Nat.le_refl n)]; omega)
    refine ⟨p, a, ?_⟩
    unfold src
    rw [if_pos b, e, if_pos h1, sel_eq hq hB]
  | false =>
    cases hA : fA q with
    | true =>
      have h1 := cnt_lt fA hq hA
      obtain ⟨p, a, b, e⟩ := cnt_sel (fun q => fB q || fA q) n (r := cnt fB n + cnt fA q) (by rw [cnt_M hd (Nat.le_refl n)]; omega)
      refine ⟨p, a, ?_⟩
      unfold src
      rw [if_pos b, e, if_neg (by omega), Nat.add_sub_cancel_left, sel_eq hq hA]
    | false => exact ⟨q, hq, src_N (by rw [hB, hA]; rfl)⟩
theorem dst_spec (hd : ∀ q, q < n → (fB q && fA q) = false) {q : Nat} (hq : q < n) : dst n fB fA q < n ∧ src n fB fA (dst n fB fA q) = q := by
  obtain ⟨p, hp, e⟩ := src_sur hd hq
  have : dst n fB fA q = p := fnd_uni hp (decide_eq_true e) (fun j hj h => src_inj hd hj hp (by rw [of_decide_eq_true h, e]))
  rw [this]
  exact ⟨hp, e⟩
theorem dst_src (hd : ∀ q, q < n → (fB q && fA q) = false) {p : Nat} (hp : p < n) : dst n fB fA (src n fB fA p) = p := by
  have := dst_spec hd (src_lt hd hp)
  exact src_inj hd this.1 hp this.2
theorem dst_B (hd : ∀ q, q < n → (fB q && fA q) = false) {q : Nat} (hq : q < n) (hB : fB q = true) : (fB (dst n fB fA q) || fA (dst n fB fA q)) = true ∧ cnt (fun q => fB q || fA q) (dst n fB fA q) = cnt fB q := by
  obtain ⟨l, e⟩ := dst_spec hd hq
  have hm := src_m hd l
  rw [e, hB, Bool.true_or] at hm
  refine ⟨hm.symm, ?_⟩
  obtain ⟨l1, h1⟩ := src_M hd l hm.symm
  rw [e] at h1
  rcases h1 with ⟨a, b⟩ | ⟨a, b⟩
  · exact b.symm
  · have := hd q hq; rw [hB, a] at this; cases this
theorem dst_A (hd : ∀ q, q < n → (fB q && fA q) = false) {q : Nat} (hq : q < n) (hA : fA q = true) : (fB (dst n fB fA q) || fA (dst n fB fA q)) = true ∧ cnt (fun q => fB q || fA q) (dst n fB fA q) = cnt fB n + cnt fA q := by
  obtain ⟨l, e⟩ := dst_spec hd hq
  have hm := src_m hd l
  rw [e, hA, Bool.or_true] at hm
  refine ⟨hm.symm, ?_⟩
  obtain ⟨l1, h1⟩ := src_M hd l hm.symm
  rw [e] at h1
  rcases h1 with ⟨a, b⟩ | ⟨a, b⟩
  · have := hd q hq; rw [hA, a] at this; cases this
  · exact b.symm
theorem dst_N (hd : ∀ q, q < n → (fB q && fA q) = false) {q : Nat} (hq : q < n) (hm : (fB q || fA q) = false) : dst n fB fA q = q := by
  have := dst_src hd hq
  rwa [src_N hm] at this
end MV
/-! by items -/
def fOf (od : Nat → Nat) (m : Nat) : Nat → Bool := fun q => m.testBit (od q)
def nod (n : Nat) (od : Nat → Nat) (B A : Nat) : Nat → Nat := fun p => od (src n (fOf od B) (fOf od A) p)
def npl (n : Nat) (pl od : Nat → Nat) (B A : Nat) : Nat → Nat := fun x => dst n (fOf od B) (fOf od A) (pl x)
section MI
variable {n : Nat} {o pl od : Nat → Nat} {B A : Nat}
theorem dis_f (h : Good n o pl od) (hd : B &&& A = 0) : ∀ q, q < n → (fOf od B q && fOf od A q) = false := by
  intro q _
  have := and_0.mp hd (od q)
  unfold fOf
  cases hb : B.testBit (od q) <;> cases ha : A.testBit (od q) <;> simp_all
theorem npl_ok (h : Good n o pl od) (hd : B &&& A = 0) {x : Nat} (hx : x < n) : npl n pl od B A x < n ∧ nod n od B A (npl n pl od B A x) = x := by
  have hp := h.2.2.1 x hx
  have := dst_spec (dis_f h hd) hp.1
  refine ⟨this.1, ?_⟩
  unfold nod npl
  rw [this.2, hp.2]
theorem nod_ok (h : Good n o pl od) (hd : B &&& A = 0) {p : Nat} (hp : p < n) : nod n od B A p < n ∧ npl n pl od B A (nod n od B A p) = p := by
  have hs := src_lt (dis_f h hd) hp
  have ho := h.2.2.2.1 _ hs
  refine ⟨ho.1, ?_⟩
  unfold nod npl
  rw [ho.2, dst_src (dis_f h hd) hp]
theorem npl_N (h : Good n o pl od) (hd : B &&& A = 0) {x : Nat} (hx : x < n) (hb : ¬ B.testBit x = true) (ha : ¬ A.testBit x = true) : npl n pl od B A x = pl x := by
  have hp := h.2.2.1 x hx
  refine dst_N (dis_f h hd) hp.1 ?_
  unfold fOf
  rw [hp.2]
  cases h1 : B.testBit x <;> cases h2 : A.testBit x <;> simp_all
end MI
/-! the class's row of movers, and its new order -/
def NetSame (N N' : NetS) : Prop := N'.1 = N.1 ∧ N'.2.1 = N.2.1 ∧ N'.2.2.1 = N.2.2.1 ∧ N'.2.2.2.1 = N.2.2.2.1
set_option maxHeartbeats 4000000 in
theorem gather_eq {N : NetS} {n : Nat} {od : Nat → Nat} (hn : n ≤ 12) (h1 : N.1 = nI n) (h5 : ∀ p, p < n → N.2.2.2.2.1 p = nI (od p)) (ho : ∀ p, p < n → od p < n) {m had : Nat} (hm : m < 4096) (hh : had + cnt (fOf od m) n ≤ 12) :
    ∃ N', f_X3_gather N (nI m) (nI had) = some (nI (had + cnt (fOf od m) n), N') ∧ NetSame N N' ∧ N'.2.2.2.2.1 = N.2.2.2.2.1 ∧ N'.2.2.2.2.2.1 = N.2.2.2.2.2.1 ∧ (∀ q, q < n → fOf od m q = true → N'.2.2.2.2.2.2 (had + cnt (fOf od m) q) = nI (od q)) ∧ ∀ r, r < had → N'.2.2.2.2.2.2 r = N.2.2.2.2.2.2 r := by
  unfold f_X3_gather
  simp only [lit]
  obtain ⟨⟨fi, N'⟩, ⟨e0, e1, e2, e3, e4, e5⟩, e⟩ := loop_e (fun k i (s : Nat × NetS) => k_X3_gather_5 (nI m) (fun x3_2 Nn_2 => some (x3_2, Nn_2)) k (nI s.1) (nI i) s.2) (fun s => some (nI s.1, s.2))
    (fun i s => s.1 = had + cnt (fOf od m) i ∧ NetSame N s.2 ∧ s.2.2.2.2.2.1 = N.2.2.2.2.1 ∧ s.2.2.2.2.2.2.1 = N.2.2.2.2.2.1 ∧ (∀ q, q < i → fOf od m q = true → s.2.2.2.2.2.2.2 (had + cnt (fOf od m) q) = nI (od q)) ∧ ∀ r, r < had → s.2.2.2.2.2.2.2 r = N.2.2.2.2.2.2 r) n (had, N) (by omega)
    ⟨rfl, ⟨rfl, rfl, rfl, rfl⟩, rfl, rfl, fun _ q => absurd q (Nat.not_lt_zero _), fun _ _ => rfl⟩
    (by
      intro k ⟨fi, N1⟩ ⟨_, hs, _⟩
      rw [k_X3_gather_5.eq_2]
      simp only at hs ⊢
      rw [hs.1, h1, q_le_t (by omega) (by omega)])
    (by
      intro k i ⟨fi, N1⟩ hi ⟨e0, e1, e2, e3, e4, e5⟩
      simp only at e0 e1 e2 e3 e4 e5 ⊢
      have hoi := ho i hi
      have hsi : N1.2.2.2.2.1 i = nI (od i) := by rw [e2]; exact h5 i hi
      rw [k_X3_gather_5.eq_2, e1.1, h1, q_le_f (by omega) (by omega), q_in (by omega) (by omega), q_cl (by omega), hsi, hb_eq (by omega) (by omega), Option.bind_some]
      simp only [lit]
      rw [q_b0, nI_add]
      cases hb : m.testBit (od i) with
      | false =>
        rw [if_neg (by decide)]
        refine ⟨(fi, N1), ⟨?_, e1, e2, e3, fun q hq hf => ?_, e5⟩, rfl⟩
        · show fi = had + (cnt (fOf od m) i + (m.testBit (od i)).toNat)
          rw [hb]; exact e0
        · rcases (show q < i ∨ q = i by omega) with c | c
          · exact e4 q c hf
          · subst c; unfold fOf at hf; rw [hb] at hf; cases hf
      | true =>
        have hlt : cnt (fOf od m) i < cnt (fOf od m) n := cnt_lt _ hi hb
        rw [if_pos rfl, q_le_f (by omega) (by omega), q_in (by omega) (by omega), q_in (by omega) (by omega), q_cl (by omega), nI_add]
        refine ⟨(fi + 1, (nI n, N1.2.1, N1.2.2.1, N1.2.2.2.1, N1.2.2.2.2.1, N1.2.2.2.2.2.1, upd N1.2.2.2.2.2.2 fi (nI (od i)))), ⟨?_, ⟨h1.symm, e1.2.1, e1.2.2.1, e1.2.2.2⟩, e2, e3, fun q hq hf => ?_, fun r hr => ?_⟩, rfl⟩
        · show fi + 1 = had + (cnt (fOf od m) i + (m.testBit (od i)).toNat)
          rw [hb, e0]; rfl
        · show upd N1.2.2.2.2.2.2 fi (nI (od i)) (had + cnt (fOf od m) q) = _
          rcases (show q < i ∨ q = i by omega) with c | c
          · have := cnt_lt (fOf od m) c hf
            rw [pk_un (by omega)]; exact e4 q c hf
          · subst c; rw [← e0, pk_us]
        · show upd N1.2.2.2.2.2.2 fi (nI (od i)) r = _
          rw [pk_un (by omega)]; exact e5 r hr)
  refine ⟨N', ?_, e1, e2, e3, e4, e5⟩
  simp only at e0
  rw [← e0]
  exact e
