/-! ===== put: the class's order behind it; the reference's places behind it ===== -/
set_option maxHeartbeats 4000000 in
theorem rearrange_eq {N : NetS} {n : Nat} {o pl od : Nat → Nat} (hN : NetR N n o pl od) (h : Good n o pl od) {B A : Nat} (hB : B < 2 ^ n) (hA : A < 2 ^ n) (hd : B &&& A = 0) :
    ∃ N', f_X3_rearrange N (nI B) (nI A) = some N' ∧ NetSame N N' ∧ (∀ p, p < n → N'.2.2.2.2.1 p = nI (nod n od B A p)) ∧ ∀ u, u < n → N'.2.2.2.2.2.1 u = nI (npl n pl od B A u) := by
  have hn := h.1.2
  have lB := lt_4096 hB hn
  have lA := lt_4096 hA hn
  have hdf := dis_f h hd
  have hM := cnt_M (n := n) (fB := fOf od B) (fA := fOf od A) hdf (Nat.le_refl n)
  have hMn := cnt_le (fun q => fOf od B q || fOf od A q) n
  have ho : ∀ p, p < n → od p < n := fun p hp => (h.2.2.2.1 p hp).1
  unfold f_X3_rearrange
  simp only [lit]
  obtain ⟨N1, e1, s1, a1, b1, c1, d1⟩ := gather_eq (N := N) hn hN.1 hN.2.2.2.2.1 ho (m := B) (had := 0) lB (by omega)
  rw [e1, Option.bind_some]
  obtain ⟨N2, e2, s2, a2, b2, c2, d2⟩ := gather_eq (N := N1) (n := n) (od := od) hn (by rw [s1.1]; exact hN.1) (fun p hp => by rw [a1]; exact hN.2.2.2.2.1 p hp) ho (m := A) (had := 0 + cnt (fOf od B) n) lA (by omega)
  rw [e2, Option.bind_some]
  have hmv : ∀ p, p < n → (fOf od B p || fOf od A p) = true → N2.2.2.2.2.2.2 (cnt (fun q => fOf od B q || fOf od A q) p) = nI (nod n od B A p) := by
    intro p hp hm
    obtain ⟨l, q⟩ := src_M hdf hp hm
    unfold nod
    rcases q with ⟨x, y⟩ | ⟨x, y⟩
    · rw [← y, d2 _ (by have := cnt_lt (fOf od B) l x; omega)]
      have := c1 _ l x
      rwa [Nat.zero_add] at this
    · rw [← y]
      have := c2 _ l x
      rwa [Nat.zero_add] at this
  have hord : ∀ p, p < n → N2.2.2.2.2.1 p = nI (od p) := fun p hp => by rw [a2, a1]; exact hN.2.2.2.2.1 p hp
  have hpla : ∀ u, u < n → N2.2.2.2.2.2.1 u = nI (pl u) := fun u hu => by rw [b2, b1]; exact hN.2.2.2.2.2 u hu
  have hN2 : N2.1 = nI n := by rw [s2.1, s1.1]; exact hN.1
  obtain ⟨⟨t, N3⟩, ⟨f0, f1, f2, f3, f4, f5⟩, e⟩ := loop_e (fun k i (s : Nat × NetS) => k_X3_rearrange_17 (nI B) (nI A) (fun Nn_5 => some Nn_5) k (nI s.1) (nI i) s.2) (fun s => some s.2)
    (fun i s => s.1 = cnt (fun q => fOf od B q || fOf od A q) i ∧ NetSame N2 s.2 ∧ s.2.2.2.2.2.2.2 = N2.2.2.2.2.2.2 ∧ (∀ p, p < i → s.2.2.2.2.2.1 p = nI (nod n od B A p)) ∧ (∀ p, i ≤ p → p < n → s.2.2.2.2.2.1 p = nI (od p)) ∧ ∀ u, u < n → s.2.2.2.2.2.2.1 u = nI (if npl n pl od B A u < i then npl n pl od B A u else pl u)) n (0, N2) (by omega)
    ⟨rfl, ⟨rfl, rfl, rfl, rfl⟩, rfl, fun _ q => absurd q (Nat.not_lt_zero _), fun p _ hp => hord p hp, fun u hu => by rw [if_neg (by omega)]; exact hpla u hu⟩
    (by
      intro k ⟨t, N3⟩ ⟨_, hs, _⟩
      rw [k_X3_rearrange_17.eq_2]
      simp only at hs ⊢
      rw [hs.1, hN2, q_le_t (by omega) (by omega)])
    (by
      intro k i ⟨t, N3⟩ hi ⟨f0, f1, f2, f3, f4, f5⟩
      simp only at f0 f1 f2 f3 f4 f5 ⊢
      have hoi := ho i hi
      have lBA := lt_4096 (or_lt2 hB hA) hn
      rw [k_X3_rearrange_17.eq_2, f1.1, hN2, q_le_f (by omega) (by omega), q_in (by omega) (by omega), q_cl (by omega), f4 i (by omega) hi, q_or, hb_eq (by omega) (by omega), Option.bind_some]
      simp only [lit]
      rw [q_b0]
      simp only [nI_add]
      have hbm : (B ||| A).testBit (od i) = (fOf od B i || fOf od A i) := by rw [Nat.testBit_or]; rfl
      rw [hbm]
      have hni := nod_ok h hd hi
      have huni : ∀ u, u < n → npl n pl od B A u = i → u = nod n od B A i := fun u hu e => by rw [← (npl_ok h hd hu).2, e]
      cases hb : (fOf od B i || fOf od A i) with
      | false =>
        rw [if_neg (by decide)]
        have hnd : nod n od B A i = od i := by unfold nod; rw [src_N hb]
        refine ⟨(t, N3), ⟨?_, f1, f2, fun p hp => ?_, fun p hp hp2 => f4 p (by omega) hp2, fun u hu => ?_⟩, rfl⟩
        · show t = cnt (fun q => fOf od B q || fOf od A q) i + (fOf od B i || fOf od A i).toNat
          rw [hb]; exact f0
        · rcases (show p < i ∨ p = i by omega) with c | c
          · exact f3 p c
          · subst c; rw [hnd]; exact f4 p (by omega) hi
        · rw [f5 u hu]
          by_cases c : npl n pl od B A u = i
          · have e1 := huni u hu c
            rw [hnd] at e1
            rw [if_neg (by omega), if_pos (by omega), c, e1, (h.2.2.2.1 i hi).2]
          · by_cases c2 : npl n pl od B A u < i
            · rw [if_pos c2, if_pos (by omega)]
            · rw [if_neg c2, if_neg (by omega)]
      | true =>
        have hlt := cnt_lt (fun q => fOf od B q || fOf od A q) hi hb
        rw [if_pos rfl, q_in (by omega) (by omega), q_cl (by omega), f2, f0, hmv i hi hb]
        unfold f_X3_stand
        rw [q_in (by omega) (by omega), q_in (by omega) (by omega), q_cl (by omega), q_cl (by omega), Option.bind_some]
        refine ⟨(cnt (fun q => fOf od B q || fOf od A q) i + 1, (N3.1, N3.2.1, N3.2.2.1, N3.2.2.2.1, upd N3.2.2.2.2.1 i (nI (nod n od B A i)), upd N3.2.2.2.2.2.1 (nod n od B A i) (nI i), N3.2.2.2.2.2.2)), ⟨?_, f1, f2, fun p hp => ?_, fun p hp hp2 => ?_, fun u hu => ?_⟩, rfl⟩
        · show _ = cnt (fun q => fOf od B q || fOf od A q) i + (fOf od B i || fOf od A i).toNat
          rw [hb]; rfl
        · show upd N3.2.2.2.2.1 i (nI (nod n od B A i)) p = _
          rcases (show p < i ∨ p = i by omega) with c | c
          · rw [pk_un (by omega)]; exact f3 p c
          · subst c; rw [pk_us]
        · show upd N3.2.2.2.2.1 i (nI (nod n od B A i)) p = _
          rw [pk_un (by omega)]; exact f4 p (by omega) hp2
        · show upd N3.2.2.2.2.2.1 (nod n od B A i) (nI i) u = _
          by_cases c : u = nod n od B A i
          · subst c
            rw [pk_us, hni.2, if_pos (by omega)]
          · rw [pk_un c, f5 u hu]
            have : npl n pl od B A u ≠ i := fun e => c (huni u hu e)
            by_cases c2 : npl n pl od B A u < i
            · rw [if_pos c2, if_pos (by omega)]
            · rw [if_neg c2, if_neg (by omega)])
  simp only at f0 f1 f2 f3 f4 f5
  have e' : k_X3_rearrange_17 (nI B) (nI A) (fun Nn_5 => some Nn_5) fu (nI 0) (nI 0) N2 = some N3 := e
  rw [e']
  refine ⟨N3, rfl, ⟨?_, ?_, ?_, ?_⟩, fun p hp => f3 p hp, fun u hu => by rw [f5 u hu, if_pos (npl_ok h hd hu).1]⟩
  · rw [f1.1, s2.1, s1.1]
  · rw [f1.2.1, s2.2.1, s1.2.1]
  · rw [f1.2.2.1, s2.2.2.1, s1.2.2.1]
  · rw [f1.2.2.2, s2.2.2.2, s1.2.2.2]
/-- the arcs with one more -/
def addA (o : Nat → Nat) (u v : Nat) : Nat → Nat := fun x => if x = u then o u ||| 2 ^ v else o x
section PUT
variable {n : Nat} {o pl od : Nat → Nat}
theorem addA_arc {u v : Nat} (hu : u < n) (hv : v < n) {x y : Nat} : arc n (addA o u v) x y ↔ arc n o x y ∨ (x = u ∧ y = v) := by
  unfold arc addA
  by_cases c : x = u
  · subst c
    rw [if_pos rfl, or_bit, p2_bit]
    constructor
    · intro ⟨a, b, d⟩
      rcases d with d | d
      · exact Or.inl ⟨a, b, d⟩
      · exact Or.inr ⟨rfl, d⟩
    · intro q
      rcases q with ⟨a, b, d⟩ | ⟨_, d⟩
      · exact ⟨a, b, Or.inl d⟩
      · exact ⟨hu, by rw [d]; exact hv, Or.inr d⟩
  · rw [if_neg c]
    constructor
    · intro q; exact Or.inl q
    · intro q
      rcases q with q | q
      · exact q
      · exact absurd q.1 c
theorem dis_BA (h : Good n o pl od) {u v : Nat} (hc : clo n o u v = false) : befM n o pl u v &&& aftM n o pl u v = 0 := by
  unfold befM aftM
  by_cases c : pl u < pl v
  · rw [if_pos c, if_pos c]; rfl
  · rw [if_neg c, if_neg c, and_0]
    intro i ⟨a, b⟩
    have ha := bw_bit.mp a
    have hb := fw_bit.mp b
    have := dc_t (hb.2.1.tr ha.2.1)
    unfold clo at hc
    rw [this] at hc; cases hc
noncomputable abbrev plP (n : Nat) (o pl od : Nat → Nat) (u v : Nat) : Nat → Nat := npl n pl od (befM n o pl u v) (aftM n o pl u v)
noncomputable abbrev odP (n : Nat) (o pl od : Nat → Nat) (u v : Nat) : Nat → Nat := nod n od (befM n o pl u v) (aftM n o pl u v)
/-- in B: to the left; in A: to the right; all within the span -/
theorem mv_B (h : Good n o pl od) {u v : Nat} (hu : u < n) (hv : v < n) (hc : clo n o u v = false) (hp : pl v < pl u) {x : Nat} (hx : (bw n o pl u (pl v)).testBit x = true) : plP n o pl od u v x < pl x ∧ pl v ≤ plP n o pl od u v x := by
  have hd := dis_BA h (u := u) (v := v) hc
  have hB : befM n o pl u v = bw n o pl u (pl v) := by unfold befM; rw [if_neg (by omega)]
  have hA : aftM n o pl u v = fw n o pl v (pl u + 1) := by unfold aftM; rw [if_neg (by omega)]
  rw [hB, hA] at hd
  have hb := bw_bit.mp hx
  have hpx := h.2.2.1 x hb.1
  have hdf := dis_f h hd
  have hfB : fOf od (bw n o pl u (pl v)) (pl x) = true := by unfold fOf; rw [hpx.2]; exact hx
  have hfA : fOf od (fw n o pl v (pl u + 1)) (pl v) = true := by unfold fOf; rw [(h.2.2.1 v hv).2]; exact fw_bit.mpr ⟨hv, Rch.rf, by omega⟩
  have hne : pl x ≠ pl v := by
    intro e
    have e2 := h.pinj hb.1 hv e
    subst e2
    have := hdf _ hpx.1
    rw [hfB, hfA] at this; cases this
  obtain ⟨hm, hcn⟩ := dst_B hdf hpx.1 hfB
  have h1 := cnt_M hdf (p := pl x) (by omega)
  have h2 := cnt_lt (fOf od (fw n o pl v (pl u + 1))) (show pl v < pl x by omega) hfA
  show npl n pl od (befM n o pl u v) (aftM n o pl u v) x < pl x ∧ pl v ≤ npl n pl od (befM n o pl u v) (aftM n o pl u v) x
  rw [hB, hA]
  unfold npl
  refine ⟨?_, ?_⟩
  · rcases Nat.lt_or_ge (dst n (fOf od (bw n o pl u (pl v))) (fOf od (fw n o pl v (pl u + 1))) (pl x)) (pl x) with q | q
    · exact q
    · have := cnt_mono (fun q => fOf od (bw n o pl u (pl v)) q || fOf od (fw n o pl v (pl u + 1)) q) q
      omega
  · have hlt := (dst_spec hdf hpx.1).1
    have ho := h.2.2.2.1 _ hlt
    rw [Bool.or_eq_true] at hm
    rcases hm with m | m
    · have := (bw_bit.mp m).2.2; rw [ho.2] at this; exact this
    · have := h.2.2.2.2.le' (fw_bit.mp m).2.1; rw [ho.2] at this; exact this
theorem mv_A (h : Good n o pl od) {u v : Nat} (hu : u < n) (hv : v < n) (hc : clo n o u v = false) (hp : pl v < pl u) {x : Nat} (hx : (fw n o pl v (pl u + 1)).testBit x = true) : pl x < plP n o pl od u v x ∧ plP n o pl od u v x ≤ pl u := by
  have hd := dis_BA h (u := u) (v := v) hc
  have hB : befM n o pl u v = bw n o pl u (pl v) := by unfold befM; rw [if_neg (by omega)]
  have hA : aftM n o pl u v = fw n o pl v (pl u + 1) := by unfold aftM; rw [if_neg (by omega)]
  rw [hB, hA] at hd
  have hb := fw_bit.mp hx
  have hpx := h.2.2.1 x hb.1
  have hdf := dis_f h hd
  have hfA : fOf od (fw n o pl v (pl u + 1)) (pl x) = true := by unfold fOf; rw [hpx.2]; exact hx
  have hfB : fOf od (bw n o pl u (pl v)) (pl u) = true := by unfold fOf; rw [(h.2.2.1 u hu).2]; exact bw_bit.mpr ⟨hu, Rch.rf, by omega⟩
  have hpu := (h.2.2.1 u hu).1
  have hne : pl x ≠ pl u := by
    intro e
    have e2 := h.pinj hb.1 hu e
    subst e2
    have := hdf _ hpx.1
    rw [hfB, hfA] at this; cases this
  obtain ⟨hm, hcn⟩ := dst_A hdf hpx.1 hfA
  have h1 := cnt_M hdf (p := pl x) (by omega)
  have h2 := cnt_mono (fOf od (bw n o pl u (pl v))) (show pl x ≤ pl u by omega)
  have h3 := cnt_lt (fOf od (bw n o pl u (pl v))) hpu hfB
  show pl x < npl n pl od (befM n o pl u v) (aftM n o pl u v) x ∧ npl n pl od (befM n o pl u v) (aftM n o pl u v) x ≤ pl u
  rw [hB, hA]
  unfold npl
  refine ⟨?_, ?_⟩
  · rcases Nat.lt_or_ge (pl x) (dst n (fOf od (bw n o pl u (pl v))) (fOf od (fw n o pl v (pl u + 1))) (pl x)) with q | q
    · exact q
    · have := cnt_mono (fun q => fOf od (bw n o pl u (pl v)) q || fOf od (fw n o pl v (pl u + 1)) q) q
      omega
  · have hlt := (dst_spec hdf hpx.1).1
    have ho := h.2.2.2.1 _ hlt
    rw [Bool.or_eq_true] at hm
    rcases hm with m | m
    · have := h.2.2.2.2.le' (bw_bit.mp m).2.1; rw [ho.2] at this; exact this
    · have := (fw_bit.mp m).2.2; rw [ho.2] at this; omega
theorem plP_id (h : Good n o pl od) {u v : Nat} (hp : pl u < pl v) {x : Nat} (hx : x < n) : plP n o pl od u v x = pl x := by
  have hB : befM n o pl u v = 0 := by unfold befM; rw [if_pos hp]
  have hA : aftM n o pl u v = 0 := by unfold aftM; rw [if_pos hp]
  show npl n pl od (befM n o pl u v) (aftM n o pl u v) x = pl x
  rw [hB, hA]
  exact npl_N h rfl hx (by simp) (by simp)
/-- the order behind a put goes with the arcs and the new one -/
theorem put_topo (h : Good n o pl od) {u v : Nat} (hu : u < n) (hv : v < n) (hne : u ≠ v) (hc : clo n o u v = false) : topo n (addA o u v) (plP n o pl od u v) := by
  have ht := h.2.2.2.2
  intro x y ha
  rw [addA_arc hu hv] at ha
  by_cases hp : pl u < pl v
  · rcases ha with a | ⟨e1, e2⟩
    · rw [plP_id h hp a.1, plP_id h hp a.2.1]; exact ht x y a
    · subst e1; subst e2
      rw [plP_id h hp hu, plP_id h hp hv]; exact hp
  · have hp2 : pl v < pl u := by
      rcases (show pl v < pl u ∨ pl v = pl u by omega) with q | q
      · exact q
      · exact absurd (h.pinj hv hu q).symm hne
    have hd := dis_BA h (u := u) (v := v) hc
    have hB : befM n o pl u v = bw n o pl u (pl v) := by unfold befM; rw [if_neg hp]
    have hA : aftM n o pl u v = fw n o pl v (pl u + 1) := by unfold aftM; rw [if_neg hp]
    have hno : ¬ Rch n o v u := fun r => by unfold clo at hc; rw [dc_t r] at hc; cases hc
    have hdf := dis_f h hd
    rw [hB, hA] at hdf
    have hN : ∀ z, z < n → ¬ (bw n o pl u (pl v)).testBit z = true → ¬ (fw n o pl v (pl u + 1)).testBit z = true → plP n o pl od u v z = pl z := fun z hz q1 q2 => npl_N h hd hz (by rw [hB]; exact q1) (by rw [hA]; exact q2)
    -- between the two sets, and within one
    have BA : ∀ x y, (bw n o pl u (pl v)).testBit x = true → (fw n o pl v (pl u + 1)).testBit y = true → plP n o pl od u v x < plP n o pl od u v y := by
      intro x y hx hy
      have px := h.2.2.1 x (bw_bit.mp hx).1
      have py := h.2.2.1 y (fw_bit.mp hy).1
      obtain ⟨-, c1⟩ := dst_B hdf px.1 (by unfold fOf; rw [px.2]; exact hx)
      obtain ⟨-, c2⟩ := dst_A hdf py.1 (by unfold fOf; rw [py.2]; exact hy)
      have c3 := cnt_lt (fOf od (bw n o pl u (pl v))) px.1 (by unfold fOf; rw [px.2]; exact hx)
      show npl n pl od (befM n o pl u v) (aftM n o pl u v) x < npl n pl od (befM n o pl u v) (aftM n o pl u v) y
      rw [hB, hA]
      unfold npl
      apply Classical.byContradiction
      intro q
      have := cnt_mono (fun q => fOf od (bw n o pl u (pl v)) q || fOf od (fw n o pl v (pl u + 1)) q) (Nat.not_lt.mp q)
      omega
    have BB : ∀ x y, (bw n o pl u (pl v)).testBit x = true → (bw n o pl u (pl v)).testBit y = true → pl x < pl y → plP n o pl od u v x < plP n o pl od u v y := by
      intro x y hx hy hlt
      have px := h.2.2.1 x (bw_bit.mp hx).1
      have py := h.2.2.1 y (bw_bit.mp hy).1
      obtain ⟨-, c1⟩ := dst_B hdf px.1 (by unfold fOf; rw [px.2]; exact hx)
      obtain ⟨-, c2⟩ := dst_B hdf py.1 (by unfold fOf; rw [py.2]; exact hy)
      have c3 := cnt_lt (fOf od (bw n o pl u (pl v))) hlt (by unfold fOf; rw [px.2]; exact hx)
      show npl n pl od (befM n o pl u v) (aftM n o pl u v) x < npl n pl od (befM n o pl u v) (aftM n o pl u v) y
      rw [hB, hA]
      unfold npl
      apply Classical.byContradiction
      intro q
      have := cnt_mono (fun q => fOf od (bw n o pl u (pl v)) q || fOf od (fw n o pl v (pl u + 1)) q) (Nat.not_lt.mp q)
      omega
    have AA : ∀ x y, (fw n o pl v (pl u + 1)).testBit x = true → (fw n o pl v (pl u + 1)).testBit y = true → pl x < pl y → plP n o pl od u v x < plP n o pl od u v y := by
      intro x y hx hy hlt
      have px := h.2.2.1 x (fw_bit.mp hx).1
      have py := h.2.2.1 y (fw_bit.mp hy).1
      obtain ⟨-, c1⟩ := dst_A hdf px.1 (by unfold fOf; rw [px.2]; exact hx)
      obtain ⟨-, c2⟩ := dst_A hdf py.1 (by unfold fOf; rw [py.2]; exact hy)
      have c3 := cnt_lt (fOf od (fw n o pl v (pl u + 1))) hlt (by unfold fOf; rw [px.2]; exact hx)
      show npl n pl od (befM n o pl u v) (aftM n o pl u v) x < npl n pl od (befM n o pl u v) (aftM n o pl u v) y
      rw [hB, hA]
      unfold npl
      apply Classical.byContradiction
      intro q
      have := cnt_mono (fun q => fOf od (bw n o pl u (pl v)) q || fOf od (fw n o pl v (pl u + 1)) q) (Nat.not_lt.mp q)
      omega
    have uB : (bw n o pl u (pl v)).testBit u = true := bw_bit.mpr ⟨hu, Rch.rf, by omega⟩
    have vA : (fw n o pl v (pl u + 1)).testBit v = true := fw_bit.mpr ⟨hv, Rch.rf, by omega⟩
    rcases ha with a | ⟨e1, e2⟩
    · have hlt := ht x y a
      by_cases xB : (bw n o pl u (pl v)).testBit x = true
      · by_cases yB : (bw n o pl u (pl v)).testBit y = true
        · exact BB x y xB yB hlt
        · by_cases yA : (fw n o pl v (pl u + 1)).testBit y = true
          · exact BA x y xB yA
          · rw [hN y a.2.1 yB yA]
            have := (mv_B h hu hv hc hp2 xB).1
            omega
      · by_cases xA : (fw n o pl v (pl u + 1)).testBit x = true
        · have hxA := fw_bit.mp xA
          by_cases yA : (fw n o pl v (pl u + 1)).testBit y = true
          · exact AA x y xA yA hlt
          · by_cases yB : (bw n o pl u (pl v)).testBit y = true
            · exact absurd (hxA.2.1.tr ((Rch.of a).tr (bw_bit.mp yB).2.1)) hno
            · rw [hN y a.2.1 yB yA]
              have h1 := (mv_A h hu hv hc hp2 xA).2
              have h2 : ¬ pl y < pl u + 1 := fun q => yA (fw_bit.mpr ⟨a.2.1, hxA.2.1.tr (Rch.of a), q⟩)
              omega
        · rw [hN x a.1 xB xA]
          by_cases yB : (bw n o pl u (pl v)).testBit y = true
          · have hyB := bw_bit.mp yB
            have h1 := (mv_B h hu hv hc hp2 yB).2
            have h2 : ¬ pl v ≤ pl x := fun q => xB (bw_bit.mpr ⟨a.1, (Rch.of a).tr hyB.2.1, q⟩)
            omega
          · by_cases yA : (fw n o pl v (pl u + 1)).testBit y = true
            · have := (mv_A h hu hv hc hp2 yA).1
              omega
            · rw [hN y a.2.1 yB yA]; exact hlt
    · subst e1; subst e2
      exact BA x y uB vA
theorem addA_lt (h : Good n o pl od) {u v : Nat} (hu : u < n) (hv : v < n) {x : Nat} (hx : x < n) : addA o u v x < 2 ^ n := by
  unfold addA
  split
  · exact or_lt2 (h.2.1 u hu) (p2_lt hv)
  · exact h.2.1 x hx
theorem put_good (h : Good n o pl od) {u v : Nat} (hu : u < n) (hv : v < n) (hne : u ≠ v) (hc : clo n o u v = false) : Good n (addA o u v) (plP n o pl od u v) (odP n o pl od u v) :=
  ⟨h.1, fun x hx => addA_lt h hu hv hx, fun x hx => npl_ok h (dis_BA h hc) hx, fun p hp => nod_ok h (dis_BA h hc) hp, put_topo h hu hv hne hc⟩
end PUT
