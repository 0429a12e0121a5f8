/-! adds, the sight's calls, images, store -/
section RL3
variable {Nn : NetS} {Tt : TxtS} {Ll : LstS} {Pp : PstS} {Rr : LapS} {Ss : SgtS} {Ww : TalS} {Dd i0 i1 : NetS} {kp : Nat → Int32} {M : ModS} {X s U lf lt rg si sm kt ik : Nat → Int32}
theorem lst0 {L : LstS} {n : Nat} {x : Int32} (h : x = nI 0) : LstR (nI 0, L.2.1, L.2.2) lf lt x n := ⟨0, (fun _ => 0), (fun _ => 0), by omega, rfl, h, fun i hi => by omega, fun i j hi => by omega⟩
theorem c_adds (h : Rel Nn Tt Ll Pp Rr Ss Ww Dd i0 i1 kp M X s U lf lt rg si sm kt ik) (Bb : NetS) (w was far ord : Nat → Int32) : ∃ r N' B' L' P' R' M' s' w' was' U' rg' far' ord', f_X8_adds Nn Bb Ll Pp Rr = some (r, N', B', L', P', R') ∧ f_X9_adds M s w was U lf lt rg far ord = some (r, M', s', w', was', U', rg', far', ord') ∧ Rel N' Tt L' P' R' Ss Ww Dd i0 i1 kp M' X s' U' lf lt rg' si sm kt ik := by
  obtain ⟨n, o, pl, od, a1, a2, a3, a4, a5, ⟨k, a, b, hk, l1, m20, hl, hinj⟩, a7, a8, a9, a10, a11⟩ := id h
  have hn := a1.1.2
  have hs : SameM M (upd M 0 (nI 0)) := same0
  have m8' : (upd M 0 (nI 0)) 8 = nI n := by rw [u0_8]; exact a3
  have m20' : (upd M 0 (nI 0)) 20 = nI k := by rw [pk_un (by decide)]; exact m20
  have loop9 : ∀ (b0 : Bool) (w was U rg far ord : Nat → Int32) (ke : Int32 → Option (Int32 × ModS × (Nat → Int32) × (Nat → Int32) × (Nat → Int32) × (Nat → Int32) × (Nat → Int32) × (Nat → Int32) × (Nat → Int32))), k_X9_adds_20 (upd M 0 (nI 0)) s w was U lf lt rg far ord ke fu (nI b0.toNat) (nI 0) = ke (nI (b0 || anyB (fun i => (o (a i)).testBit (b i)) k).toNat) := by
    intro b0 w was U rg far ord ke
    have := loop_v (fun m i => k_X9_adds_20 (upd M 0 (nI 0)) s w was U lf lt rg far ord ke m (nI (b0 || anyB (fun i => (o (a i)).testBit (b i)) i).toNat) (nI i)) (ke (nI (b0 || anyB (fun i => (o (a i)).testBit (b i)) k).toNat)) k (by omega) (by
      intro m
      rw [k_X9_adds_20.eq_2, m20', q_le_t (by omega) (by omega)]) (by
      intro m i hi
      obtain ⟨h1, h2, _, _, h3, _, h4⟩ := hl i hi
      have lo := a1.olt h1
      rw [k_X9_adds_20.eq_2, m20', q_le_f (by omega) (by omega)]
      simp only [lit, q_in (show i < 8 by omega) (show 8 < 2147483648 by omega), q_cl (show i < 2147483648 by omega)]
      rw [h3, h4]
      simp only [nI_add, Nat.zero_add]
      rw [q_b0, q_in (by omega) (by omega), q_cl (by omega), (a4 _ h1).1, h9_eq (by omega) (by omega), Option.bind_some, q_b0, anyB_s, ← Bool.or_assoc]
      cases (b0 || anyB (fun i => (o (a i)).testBit (b i)) i) with
      | true => rfl
      | false =>
        rw [if_neg (by decide), Bool.false_or]
        cases (o (a i)).testBit (b i) <;> rfl)
    have e0 : (b0 || anyB (fun i => (o (a i)).testBit (b i)) 0) = b0 := by cases b0 <;> rfl
    try dsimp only at this
    rw [e0] at this
    exact this
  have loop9a : ∀ (w was U rg far ord : Nat → Int32) (ke : Int32 → Option (Int32 × ModS × (Nat → Int32) × (Nat → Int32) × (Nat → Int32) × (Nat → Int32) × (Nat → Int32) × (Nat → Int32) × (Nat → Int32))), k_X9_adds_20 (upd M 0 (nI 0)) s w was U lf lt rg far ord ke fu (nI 1) (nI 0) = ke (nI 1) := fun w was U rg far ord ke => loop9 true w was U rg far ord ke
  have loop9b : ∀ (w was U rg far ord : Nat → Int32) (ke : Int32 → Option (Int32 × ModS × (Nat → Int32) × (Nat → Int32) × (Nat → Int32) × (Nat → Int32) × (Nat → Int32) × (Nat → Int32) × (Nat → Int32))), k_X9_adds_20 (upd M 0 (nI 0)) s w was U lf lt rg far ord ke fu (nI 0) (nI 0) = ke (nI (anyB (fun i => (o (a i)).testBit (b i)) k).toNat) := fun w was U rg far ord ke => loop9 false w was U rg far ord ke
  unfold f_X8_adds f_X9_adds
  simp only [lit]
  rw [loop9a, loop9b, l1, m20, q_eq_n (by omega) (by omega)]
  by_cases c : k = 0
  · rw [if_pos c, q_eq_t c, if_neg ne10]
    exact ⟨_, _, _, _, _, _, _, _, _, _, _, _, _, _, rfl, rfl, h.mv same0⟩
  · rw [if_neg c, q_eq_f (by omega) (by omega) (by omega), isAny_eq a2 a1 hk l1 (fun i hi => ⟨(hl i hi).1, (hl i hi).2.1, (hl i hi).2.2.2.1, (hl i hi).2.2.2.2.2.1⟩), Option.bind_some, q_b0, q_b0]
    cases hany : anyB (fun i => (o (a i)).testBit (b i)) k with
    | true =>
      simp only [if_true]
      exact ⟨_, _, _, _, _, _, _, _, _, _, _, _, _, _, rfl, rfl, h.mv same0⟩
    | false =>
      simp only [Bool.false_eq_true, if_false]
      obtain ⟨B', eB, hB⟩ := copyOf_eq hn a2 Bb
      obtain ⟨was1, ew, hw⟩ := copies_eq s was
      have hwR := copies_R hn a4 hw
      rw [eB, ew, Option.bind_some, Option.bind_some]
      unfold f_X8_putListed
      simp only [lit]
      have hfr : ∀ j, 0 ≤ j → j < k → (o (a j)).testBit (b j) = false := fun j _ hj => by
        cases hb : (o (a j)).testBit (b j) with
        | false => rfl
        | true => rw [anyB_m (f := fun i => (o (a i)).testBit (b i)) hj hb] at hany; cases hany
      rcases puts_eq (S := s) (U := U) hk l1 hl hinj (fun Mm_7 m_w_7 m_was_7 m_ring_7 m_far_7 m_order_7 => ((f_X9_notes Mm_7 s U).bind fun r8 => ((f_X9_moved (upd r8.1 20 (nI 0)) m_was_7 s).bind fun r9 => ((f_X9_ones r9).bind fun r10 => ((f_X9_copies m_was_7 s).bind fun r11 => (some (r10, (upd r8.1 20 (nI 0)), r11, m_w_7, m_was_7, r8.2, m_ring_7, m_far_7, m_order_7))))))) (upd M 0 (nI 0)) m8' m20' k 0 fu fu o pl od Nn Rr (upd M 0 (nI 0)) w was1 rg far ord (by omega) (by rw [fu_eq]; omega) (by rw [fu_eq]; omega) a1 a2 hwR (fun _ _ _ _ => rfl) hfr with ⟨o', pl', od', N', M', w', was', ord', e1, e2, g1, g2, g3, g4⟩ | ⟨N', R', M', w', was', rg', far', ord', e1, e2, g1, g2⟩
      · rw [e1, e2, Option.bind_some]
        dsimp only
        have hsM : SameM M M' := hs.tr (sameL g4)
        obtain ⟨P', M2, U', e3, e4, hP, hM2⟩ := push_eq (M := M') (U := U) (by rw [hsM.2.2.1]; exact a7) hB a1 a4
        have f8 : (upd M2 20 (nI 0)) 8 = nI n := by rw [pk_un (by decide), hM2 8 (by decide)]; exact hsM.2.1.trans a3
        obtain ⟨s', es, hs'⟩ := copies_eq was' s
        have hsR := copies_R hn g3 hs'
        rw [if_neg ne10, e3, e4, Option.bind_some, Option.bind_some, unlike_eq g2 g1 hB a1, Option.bind_some]
        dsimp only
        rw [moved_eq hn f8 (p1 := pl') (p2 := pl) (fun x hx => ⟨(g3 x hx).2, (g1.2.2.1 x hx).1⟩) (fun x hx => ⟨(a4 x hx).2, (a1.2.2.1 x hx).1⟩), Option.bind_some, on_eq (lt_4096 (msk_lt _ n) hn), Option.bind_some, pc_msk hn, es, Option.bind_some]
        refine ⟨_, _, _, _, _, _, _, _, _, _, _, _, _, _, rfl, rfl, n, o', pl', od', g1, g2, f8, hsR, ?_, lst0 pk_us, ?_, ?_, ?_, a10, a11⟩
        · rw [pk_un (by decide), hM2 2 (by decide), hsM.1]; exact a5
        · rw [pk_un (by decide)]; exact hP
        · rw [pk_un (by decide), hM2 22 (by decide), hsM.2.2.2.2.1]; exact a8
        · rw [pk_un (by decide), hM2 25 (by decide), hsM.2.2.2.2.2]; exact a9
      · rw [e1, e2, Option.bind_some]
        dsimp only
        obtain ⟨N2, eN2, hN2⟩ := copyOf_eq hn hB N'
        rw [if_pos rfl, eN2, Option.bind_some]
        refine ⟨_, _, _, _, _, _, _, _, _, _, _, _, _, _, rfl, rfl, n, o, pl, od, a1, hN2, ?_, a4, ?_, lst0 pk_us, ?_, ?_, ?_, a10, a11⟩
        · rw [pk_un (by decide), g2 8 (by decide) (by decide) (by decide) (by decide)]; exact m8'
        · rw [pk_un (by decide), g2 2 (by decide) (by decide) (by decide) (by decide), hs.1]; exact a5
        · rw [pk_un (by decide), g2 17 (by decide) (by decide) (by decide) (by decide), hs.2.2.1]; exact a7
        · rw [pk_un (by decide)]; exact g1
        · rw [pk_un (by decide), g2 25 (by decide) (by decide) (by decide) (by decide), hs.2.2.2.2.2]; exact a9
/-! the sight -/
theorem mm_c {it it2 : Nat → Nat} {mv mv2 : Nat → Bool} : ∀ k, (∀ i, i < k → it i = it2 i ∧ mv i = mv2 i) → mmM it mv k = mmM it2 mv2 k ∧ msM it mv k = msM it2 mv2 k
  | 0, _ => ⟨rfl, rfl⟩
  | k + 1, h => by
    obtain ⟨a, b⟩ := mm_c k (fun i hi => h i (by omega))
    obtain ⟨c, d⟩ := h k (by omega)
    exact ⟨by show mmM it mv k ||| (if mv k then 2 ^ it k else 0) = mmM it2 mv2 k ||| (if mv2 k then 2 ^ it2 k else 0); rw [a, c, d], by show msM it mv k ||| (if mv k then 0 else 2 ^ it k) = msM it2 mv2 k ||| (if mv2 k then 0 else 2 ^ it2 k); rw [b, c, d]⟩
theorem mm_lt {it : Nat → Nat} {mv : Nat → Bool} : ∀ k, (∀ i, i < k → it i < 12) → mmM it mv k < 4096 ∧ msM it mv k < 4096
  | 0, _ => ⟨by show (0 : Nat) < 4096; omega, by show (0 : Nat) < 4096; omega⟩
  | k + 1, h => by
    obtain ⟨a, b⟩ := mm_lt (it := it) (mv := mv) k (fun i hi => h i (by omega))
    have hp := p2_lt (h k (by omega))
    refine ⟨or_lt2 (n := 12) a ?_, or_lt2 (n := 12) b ?_⟩
    · split
      · exact hp
      · exact p2_pos 12
    · split
      · exact p2_pos 12
      · exact hp
theorem c_sees (h : Rel Nn Tt Ll Pp Rr Ss Ww Dd i0 i1 kp M X s U lf lt rg si sm kt ik) (x y : Int32) : ∃ r S' M' si' sm', f_X8_sees Nn Ss x y = some (r, S') ∧ f_X9_sees M si sm x y = some (r, M', si', sm') ∧ Rel Nn Tt Ll Pp Rr S' Ww Dd i0 i1 kp M' X s U lf lt rg si' sm' kt ik := by
  obtain ⟨n, o, pl, od, a1, a2, a3, a4, a5, a6, a7, a8, ⟨k, it, mv, hk, s0, m25, hsi, s3, s4⟩, a10, a11⟩ := id h
  have hn := a1.1.2
  have m8' : (upd M 0 (nI 0)) 8 = nI n := by rw [u0_8]; exact a3
  unfold f_X8_sees f_X9_sees f_X9_in
  simp only [lit]
  rw [isItem_eq a2.1, isItem9_eq m8' a1.1.1 hn]
  simp only [Option.bind_some, q_b0]
  cases hi : isI n x with
  | false => exact ⟨_, _, _, _, _, rfl, rfl, h.mv same0⟩
  | true =>
    obtain ⟨u, hu, rfl⟩ := isI_t hi hn
    simp only [if_true]
    by_cases c : y < nI 0
    · rw [if_pos c, if_pos c, Option.bind_some, if_pos rfl]
      exact ⟨_, _, _, _, _, rfl, rfl, h.mv same0⟩
    · obtain ⟨j, hj, rfl⟩ := nneg c
      rw [if_neg c, if_neg c, q_le_n (by omega) (by omega), q_lt_n (by omega) (by omega)]
      by_cases c2 : j ≤ 1
      · rw [if_pos c2, if_neg (show ¬ 1 < j by omega), Option.bind_some, if_neg ne10]
        unfold f_X5_append
        simp only [lit]
        rw [s0, m25, s3, s4, q_lt_n (by omega) (by omega), q_eq_n (a := k) (b := 6) (by omega) (by omega), q_eq_n (a := j) (b := 1) (by omega) (by omega)]
        by_cases c3 : k < 6
        · rw [if_pos c3, if_neg (show ¬ k = 6 by omega), q_in (by omega) (by omega), q_in (by omega) (by omega), q_cl (by omega), q_sh (k := u) (by omega), q_or, q_or, nI_add]
          have hmm := mm_c (it := fun i => if i = k then u else it i) (it2 := it) (mv := fun i => if i = k then decide (j = 1) else mv i) (mv2 := mv) k (fun i hi => ⟨if_neg (by omega), if_neg (by omega)⟩)
          have e3 : mmM (fun i => if i = k then u else it i) (fun i => if i = k then decide (j = 1) else mv i) (k + 1) = mmM it mv k ||| (if j = 1 then 2 ^ u else 0) := by
            show mmM (fun i => if i = k then u else it i) (fun i => if i = k then decide (j = 1) else mv i) k ||| (if (if k = k then decide (j = 1) else mv k) then 2 ^ (if k = k then u else it k) else 0) = _
            rw [hmm.1, if_pos rfl, if_pos rfl]
            by_cases q : j = 1
            · rw [decide_eq_true q, if_pos rfl, if_pos q]
            · rw [decide_eq_false q, if_neg (by decide), if_neg q]
          have e4 : msM (fun i => if i = k then u else it i) (fun i => if i = k then decide (j = 1) else mv i) (k + 1) = msM it mv k ||| (if j = 1 then 0 else 2 ^ u) := by
            show msM (fun i => if i = k then u else it i) (fun i => if i = k then decide (j = 1) else mv i) k ||| (if (if k = k then decide (j = 1) else mv k) then 0 else 2 ^ (if k = k then u else it k)) = _
            rw [hmm.2, if_pos rfl, if_pos rfl]
            by_cases q : j = 1
            · rw [decide_eq_true q, if_pos rfl, if_pos q]
            · rw [decide_eq_false q, if_neg (by decide), if_neg q]
          have hrel : ∀ Q : Nat → Int32, Q 0 = nI (k + 1) → Q 3 = nI (mmM it mv k ||| (if j = 1 then 2 ^ u else 0)) → Q 4 = nI (msM it mv k ||| (if j = 1 then 0 else 2 ^ u)) → Rel Nn Tt Ll Pp Rr (Q, Ss.2) Ww Dd i0 i1 kp (upd (upd M 0 (nI 0)) 25 (nI (k + 1))) X s U lf lt rg (upd si k (nI u)) (upd sm k (nI j)) kt ik := by
            intro Q q0 q3 q4
            refine ⟨n, o, pl, od, a1, a2, ?_, a4, ?_, ?_, ?_, ?_, ⟨k + 1, (fun i => if i = k then u else it i), (fun i => if i = k then decide (j = 1) else mv i), by omega, q0, pk_us, fun i hi => ?_, by rw [e3]; exact q3, by rw [e4]; exact q4⟩, a10, a11⟩
            · rw [pk_un (by decide)]; exact m8'
            · rw [pk_un (by decide), pk_un (by decide)]; exact a5
            · rw [pk_un (by decide), pk_un (by decide)]; exact a6
            · rw [pk_un (by decide), pk_un (by decide)]; exact a7
            · rw [pk_un (by decide), pk_un (by decide)]; exact a8
            · show upd si k (nI u) i = nI (if i = k then u else it i) ∧ (if i = k then u else it i) < n ∧ upd sm k (nI j) i = nI (if i = k then decide (j = 1) else mv i).toNat
              by_cases q : i = k
              · subst q
                rw [if_pos rfl, if_pos rfl, pk_us, pk_us]
                refine ⟨rfl, hu, ?_⟩
                rcases (show j = 0 ∨ j = 1 by omega) with z | z <;> subst z <;> rfl
              · rw [if_neg q, if_neg q, pk_un q, pk_un q]; exact hsi i (by omega)
          by_cases c4 : j = 1
          · rw [if_pos c4, Option.bind_some, if_neg ne10]
            refine ⟨nI (k + 1), _, _, _, _, by show some (upd (upd Ss.1 3 (nI (mmM it mv k ||| 2 ^ u))) 0 (nI (k + 1)) 0, _) = _; rw [pk_us], rfl, hrel _ pk_us ?_ ?_⟩
            · rw [pk_un (by decide), pk_us, if_pos c4]
            · rw [pk_un (by decide), pk_un (by decide), if_pos c4, Nat.or_zero]; exact s4
          · rw [if_neg c4, Option.bind_some, if_neg ne10]
            refine ⟨nI (k + 1), _, _, _, _, by show some (upd (upd Ss.1 4 (nI (msM it mv k ||| 2 ^ u))) 0 (nI (k + 1)) 0, _) = _; rw [pk_us], rfl, hrel _ pk_us ?_ ?_⟩
            · rw [pk_un (by decide), pk_un (by decide), if_neg c4, Nat.or_zero]; exact s3
            · rw [pk_un (by decide), pk_us, if_neg c4]
        · rw [if_neg c3, if_pos (show k = 6 by omega), Option.bind_some, if_pos rfl]
          exact ⟨_, _, _, _, _, rfl, rfl, h.mv same0⟩
      · rw [if_neg c2, if_pos (show 1 < j by omega), Option.bind_some, if_pos rfl]
        exact ⟨_, _, _, _, _, rfl, rfl, h.mv same0⟩
theorem sgt0 {Q A : Nat → Int32} {n : Nat} {x : Int32} (h : x = nI 0) : SgtR (upd (upd (upd Q 0 (nI 0)) 3 (nI 0)) 4 (nI 0), A) si sm x n := ⟨0, (fun _ => 0), (fun _ => false), by omega, (by show upd (upd (upd Q 0 (nI 0)) 3 (nI 0)) 4 (nI 0) 0 = _; rw [pk_un (by decide), pk_un (by decide), pk_us]), h, fun i hi => by omega, (by show upd (upd (upd Q 0 (nI 0)) 3 (nI 0)) 4 (nI 0) 3 = _; rw [pk_un (by decide), pk_us]; rfl), (by show upd (upd (upd Q 0 (nI 0)) 3 (nI 0)) 4 (nI 0) 4 = _; rw [pk_us]; rfl)⟩
theorem c_forget (h : Rel Nn Tt Ll Pp Rr Ss Ww Dd i0 i1 kp M X s U lf lt rg si sm kt ik) : ∃ r S' M', f_X8_forget Ss = some (r, S') ∧ f_X9_forget M = some (r, M') ∧ Rel Nn Tt Ll Pp Rr S' Ww Dd i0 i1 kp M' X s U lf lt rg si sm kt ik := by
  obtain ⟨n, o, pl, od, a1, a2, a3, a4, a5, a6, a7, a8, ⟨k, it, mv, hk, s0, m25, hsi, s3, s4⟩, a10, a11⟩ := h
  unfold f_X8_forget f_X9_forget f_X5_empty
  simp only [lit, Option.bind_some]
  rw [s0, m25]
  refine ⟨_, _, _, rfl, rfl, n, o, pl, od, a1, a2, ?_, a4, ?_, ?_, ?_, ?_, sgt0 pk_us, a10, a11⟩
  · rw [pk_un (by decide), pk_un (by decide)]; exact a3
  · rw [pk_un (by decide), pk_un (by decide)]; exact a5
  · rw [pk_un (by decide), pk_un (by decide)]; exact a6
  · rw [pk_un (by decide), pk_un (by decide)]; exact a7
  · rw [pk_un (by decide), pk_un (by decide)]; exact a8
/-- both weigh all arcs -/
theorem weigh_both (h : Rel Nn Tt Ll Pp Rr Ss Ww Dd i0 i1 kp M X s U lf lt rg si sm kt ik) (w ord t mi : Nat → Int32) : ∃ n o pl od z S' x M' w' ord' t' mi', Good n o pl od ∧ NetR Nn n o pl od ∧ M' 8 = nI n ∧ f_X5_weigh Ss Nn = some S' ∧ SgS S' z Ss.1 ∧ wok 200 z ∧ f_X9_unseenMany (upd M 0 (nI 0)) s w si sm ord t mi = some (x, M', w', ord', t', mi') ∧ UnS x M' mi' n z ∧ Rel Nn Tt Ll Pp Rr S' Ww Dd i0 i1 kp M' X s U lf lt rg si sm kt ik := by
  obtain ⟨n, o, pl, od, a1, a2, a3, a4, a5, a6, a7, a8, ⟨k, it, mv, hk, s0, m25, hsi, s3, s4⟩, a10, a11⟩ := id h
  have hn := a1.1.2
  have m8' : (upd M 0 (nI 0)) 8 = nI n := by rw [u0_8]; exact a3
  obtain ⟨g3, g4⟩ := mm_lt (it := it) (mv := mv) k (fun i hi => by have := (hsi i hi).2.1; omega)
  obtain ⟨S', e1, hS⟩ := weigh_eq a2 a1 s3 s4 g3 g4
  obtain ⟨M', w', ord', t', mi', x, e2, l5, hU⟩ := unseen9_eq a1 a4 m8' (it := it) (mv := mv) (k := k) (by rw [pk_un (by decide)]; exact m25) hk hsi w ord t mi
  have hs : SameM M M' := same0.tr (same5 l5)
  refine ⟨n, o, pl, od, _, S', x, M', w', ord', t', mi', a1, a2, hs.2.1.trans a3, e1, hS, wok_mono (by omega) (wO_ok hn n hn), e2, hU, ?_⟩
  refine Rel.mv (M := M) ⟨n, o, pl, od, a1, a2, a3, a4, a5, a6, a7, a8, ⟨k, it, mv, hk, ?_, m25, hsi, ?_, ?_⟩, a10, a11⟩ hs
  · rw [hS.2.2.1 0 (by decide) (by decide)]; exact s0
  · rw [hS.2.2.1 3 (by decide) (by decide)]; exact s3
  · rw [hS.2.2.1 4 (by decide) (by decide)]; exact s4
theorem c_unseen (h : Rel Nn Tt Ll Pp Rr Ss Ww Dd i0 i1 kp M X s U lf lt rg si sm kt ik) (w ord t mi : Nat → Int32) (x : Int32) : ∃ r S' M' w' ord' t' mi', f_X8_unseen Nn Ss x = some (r, S') ∧ f_X9_unseen M s w si sm ord t mi x = some (r, M', w', ord', t', mi') ∧ Rel Nn Tt Ll Pp Rr S' Ww Dd i0 i1 kp M' X s U lf lt rg si sm kt ik := by
  unfold f_X8_unseen f_X9_unseen f_X9_in
  simp only [lit]
  by_cases c : x < nI 0
  · rw [if_pos c, if_pos c, Option.bind_some, if_pos rfl]
    exact ⟨_, _, _, _, _, _, _, rfl, rfl, h.mv same0⟩
  · obtain ⟨j, hj, rfl⟩ := nneg c
    rw [if_neg c, if_neg c, q_le_n (by omega) (by omega), q_lt_n (by omega) (by omega)]
    by_cases c2 : j ≤ 1
    · obtain ⟨n, o, pl, od, z, S', x, M', w', ord', t', mi', -, -, -, e1, hS, -, e2, hU, hR⟩ := weigh_both h w ord t mi
      rw [if_pos c2, if_neg (show ¬ 1 < j by omega), Option.bind_some, if_neg ne10, e1, e2, Option.bind_some, Option.bind_some]
      by_cases c3 : nI j = nI 0
      · rw [if_pos c3, if_pos c3, hS.1, hU.1]
        exact ⟨_, _, _, _, _, _, _, rfl, rfl, hR⟩
      · rw [if_neg c3, if_neg c3, hS.2.1]
        refine ⟨z.2.1, S', M', w', ord', t', mi', rfl, ?_, hR⟩
        dsimp only
        rw [hU.2.1]
    · rw [if_neg c2, if_pos (show 1 < j by omega), Option.bind_some, if_pos rfl]
      exact ⟨_, _, _, _, _, _, _, rfl, rfl, h.mv same0⟩
theorem c_look (h : Rel Nn Tt Ll Pp Rr Ss Ww Dd i0 i1 kp M X s U lf lt rg si sm kt ik) (w ord t mi : Nat → Int32) : ∃ r S' M' w' ord' t' mi', f_X8_look Nn Ss = some (r, S') ∧ f_X9_look M s w si sm ord t mi = some (r, M', w', ord', t', mi') ∧ Rel Nn Tt Ll Pp Rr S' Ww Dd i0 i1 kp M' X s U lf lt rg si sm kt ik := by
  obtain ⟨n, o, pl, od, z, S', x, M', w', ord', t', mi', g1, g2, g3, e1, hS, hw, e2, hU, hR⟩ := weigh_both h w ord t mi
  unfold f_X8_look f_X9_look
  simp only [lit]
  rw [e1, e2, Option.bind_some, Option.bind_some, best_eq g2 g1 hS hw, Option.bind_some]
  dsimp only
  rw [look_loop g3 g1.1.2 hU hw]
  have hn1 := g1.1.1
  have hb : (bF z (z.1 + 1) n).1 = (bF z 999 n).1 := by
    obtain ⟨m, rfl⟩ : ∃ m, n = m + 1 := ⟨n - 1, by omega⟩
    have := hw.1
    rw [bF_same (L := z.1 + 1) (K := 999) hw.2.2.2 (by omega) (by omega) m]
  rw [hb]
  exact ⟨_, _, _, _, _, _, _, rfl, rfl, hR⟩
end RL3
