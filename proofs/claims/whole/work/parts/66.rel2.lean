/-! calls that change a net, a list, a sight -/
section RL2
variable {Nn : NetS} {Tt : TxtS} {Ll : LstS} {Pp : PstS} {Rr : LapS} {Ss : SgtS} {Ww : TalS} {Dd i0 i1 : NetS} {kp : Nat → Int32} {M : ModS} {X s U lf lt rg si sm kt ik : Nat → Int32}
theorem c_lists (h : Rel Nn Tt Ll Pp Rr Ss Ww Dd i0 i1 kp M X s U lf lt rg si sm kt ik) (x y : Int32) : ∃ r L' M' lf' lt', f_X8_lists Nn Ll x y = some (r, L') ∧ f_X9_lists M s lf lt x y = some (r, M', lf', lt') ∧ Rel Nn Tt L' Pp Rr Ss Ww Dd i0 i1 kp M' X s U lf' lt' rg si sm kt ik := by
  obtain ⟨n, o, pl, od, a1, a2, a3, a4, a5, a6, a7, a8, a9, a10, a11⟩ := h
  obtain ⟨r, L', M', lf', lt', e1, e2, hl, hM⟩ := lists_eq a2 a1 a4 a3 a6 x y
  exact ⟨r, L', M', lf', lt', e1, e2, n, o, pl, od, a1, a2, by rw [hM 8 (by decide) (by decide)]; exact a3, a4, by rw [hM 2 (by decide) (by decide)]; exact a5, hl, by rw [hM 17 (by decide) (by decide)]; exact a7, by rw [hM 22 (by decide) (by decide)]; exact a8, by rw [hM 25 (by decide) (by decide)]; exact a9, a10, a11⟩
theorem c_puts (h : Rel Nn Tt Ll Pp Rr Ss Ww Dd i0 i1 kp M X s U lf lt rg si sm kt ik) (w far ord t : Nat → Int32) (x y : Int32) : ∃ r N' P' R' M' s' w' U' rg' far' ord' t', f_X8_puts Nn Pp Rr x y = some (r, N', P', R') ∧ f_X9_puts M s w U rg far ord t x y = some (r, M', s', w', U', rg', far', ord', t') ∧ Rel N' Tt Ll P' R' Ss Ww Dd i0 i1 kp M' X s' U' lf lt rg' si sm kt ik := by
  obtain ⟨n, o, pl, od, a1, a2, a3, a4, a5, a6, a7, a8, a9, a10, a11⟩ := id h
  have hn := a1.1.2
  have m8' : (upd M 0 (nI 0)) 8 = nI n := by rw [u0_8]; exact a3
  unfold f_X8_puts f_X9_puts
  simp only [lit]
  rw [isPair_eq a2.1, isTwo_eq m8' a1.1.1 hn]
  simp only [Option.bind_some, q_b0]
  cases hp : isP n x y with
  | false => exact ⟨_, _, _, _, _, _, _, _, _, _, _, _, rfl, rfl, h.mv same0⟩
  | true =>
    obtain ⟨u, v, hu, hv, hne, rfl, rfl⟩ := isP_t hp hn
    have lo := a1.olt hu
    simp only [if_true]
    rw [has_eq a2 a1 hu hv, nI_add, Nat.zero_add, q_in (by omega) (by omega), q_cl (by omega), (a4 u hu).1, h9_eq (by omega) (by omega)]
    simp only [Option.bind_some, q_b0]
    cases hb : (o u).testBit v with
    | true => exact ⟨_, _, _, _, _, _, _, _, _, _, _, _, rfl, rfl, h.mv same0⟩
    | false =>
      simp only [Bool.false_eq_true, if_false]
      obtain ⟨M1, w1, ord1, t1, e, l⟩ := movedBy9_eq a1 a4 m8' hu hv hne w ord t
      have hs : SameM M M1 := same0.tr (sameL l.2.2.2)
      have e8 : M1 8 = nI n := hs.2.1.trans a3
      rw [e, closes_eq a2 a1 hu hv hne]
      simp only [Option.bind_some, l.2.2.1, q_b0]
      cases hc : clo n o u v with
      | true =>
        simp only [if_true]
        have hdu := clo_du a1 hv hc
        obtain ⟨R', eR, r1, r2⟩ := trace_eq a2 a1 hu hv hdu Rr
        obtain ⟨rg', far', e9, r3⟩ := rings_eq a1 a4 e8 hu hv hdu rg far
        rw [eR, e9]
        simp only [Option.bind_some]
        refine ⟨_, _, _, _, _, _, _, _, _, _, _, _, rfl, rfl, n, o, pl, od, a1, a2, ?_, a4, ?_, ?_, ?_, ⟨du n o u v + 1, by omega, r1, pk_us, fun j hj => by rw [r2 j (by omega), r3 j (by omega)]⟩, ?_, a10, a11⟩
        · rw [pk_un (by decide)]; exact e8
        · rw [pk_un (by decide), hs.1]; exact a5
        · rw [pk_un (by decide), hs.2.2.2.1]; exact a6
        · rw [pk_un (by decide), hs.2.2.1]; exact a7
        · rw [pk_un (by decide), hs.2.2.2.2.2]; exact a9
      | false =>
        simp only [Bool.false_eq_true, if_false]
        obtain ⟨P', M2, U', e3, e4, hP, hM2⟩ := push_eq (M := M1) (U := U) (by rw [hs.2.2.1]; exact a7) a2 a1 a4
        obtain ⟨N', e5, hN'⟩ := put_eq a2 a1 hu hv hne hb hc
        obtain ⟨M3, w3, ord3, s3, e6, l3, hs3⟩ := lays_eq a1 a4 hu hv hne hc M2 w1 ord1
        have lm := lt_4096 (mvd_lt (n := n) (o := o) (pl := pl) u v) hn
        rw [e3, e4, e5]
        simp only [Option.bind_some]
        rw [hM2 8 (by decide), e8, e6]
        simp only [Option.bind_some]
        rw [on_eq lm, Option.bind_some]
        have z : ∀ k, k ≠ 26 → k ≠ 27 → k ≠ 28 → k ≠ 17 → M3 k = M1 k := fun k k1 k2 k3 k4 => (l3.2.2.2 k k1 k2 k3).trans (hM2 k k4)
        refine ⟨_, _, _, _, _, _, _, _, _, _, _, _, rfl, rfl, n, _, _, _, put_good a1 hu hv hne hc, hN', ?_, hs3, ?_, ?_, ?_, ?_, ?_, a10, a11⟩
        · rw [z 8 (by decide) (by decide) (by decide) (by decide)]; exact e8
        · rw [z 2 (by decide) (by decide) (by decide) (by decide), hs.1]; exact a5
        · rw [z 20 (by decide) (by decide) (by decide) (by decide), hs.2.2.2.1]; exact a6
        · rw [l3.2.2.2 17 (by decide) (by decide) (by decide)]; exact hP
        · rw [z 22 (by decide) (by decide) (by decide) (by decide), hs.2.2.2.2.1]; exact a8
        · rw [z 25 (by decide) (by decide) (by decide) (by decide), hs.2.2.2.2.2]; exact a9
theorem xor_cut {a v : Nat} (h : a.testBit v = true) : a ^^^ 2 ^ v = ndf a (2 ^ v) := by
  apply eq_of_bits
  intro i
  rw [Nat.testBit_xor, ndf_bit]
  by_cases c : i = v
  · subst c; rw [h, Nat.testBit_two_pow_self]; rfl
  · rw [Nat.testBit_two_pow_of_ne (Ne.symm c)]; simp
theorem c_cuts (h : Rel Nn Tt Ll Pp Rr Ss Ww Dd i0 i1 kp M X s U lf lt rg si sm kt ik) (x y : Int32) : ∃ r N' P' M' s' U', f_X8_cuts Nn Pp x y = some (r, N', P') ∧ f_X9_cuts M s U x y = some (r, M', s', U') ∧ Rel N' Tt Ll P' Rr Ss Ww Dd i0 i1 kp M' X s' U' lf lt rg si sm kt ik := by
  obtain ⟨n, o, pl, od, a1, a2, a3, a4, a5, a6, a7, a8, a9, a10, a11⟩ := id h
  have hn := a1.1.2
  have m8' : (upd M 0 (nI 0)) 8 = nI n := by rw [u0_8]; exact a3
  unfold f_X8_cuts f_X9_cuts
  simp only [lit]
  rw [isPair_eq a2.1, isTwo_eq m8' a1.1.1 hn]
  simp only [Option.bind_some, q_b0]
  cases hp : isP n x y with
  | false => exact ⟨_, _, _, _, _, _, rfl, rfl, h.mv same0⟩
  | true =>
    obtain ⟨u, v, hu, hv, hne, rfl, rfl⟩ := isP_t hp hn
    have lo := a1.olt hu
    simp only [if_true]
    rw [has_eq a2 a1 hu hv]
    simp only [nI_add, Nat.zero_add, q_in (show u < 24 by omega) (show 24 < 2147483648 by omega), q_cl (show u < 2147483648 by omega), (a4 u hu).1]
    rw [h9_eq (by omega) (by omega)]
    simp only [Option.bind_some, q_b0]
    cases hb : (o u).testBit v with
    | false => exact ⟨_, _, _, _, _, _, rfl, rfl, h.mv same0⟩
    | true =>
      simp only [if_true]
      have hs : SameM M (upd M 0 (nI 0)) := same0
      obtain ⟨P', M2, U', e3, e4, hP, hM2⟩ := push_eq (M := upd M 0 (nI 0)) (U := U) (by rw [hs.2.2.1]; exact a7) a2 a1 a4
      obtain ⟨N', e5, hN'⟩ := part_eq a2 a1 hu hv hb
      have e8 : M2 8 = nI n := (hM2 8 (by decide)).trans m8'
      have hS' : RefR (upd s u (nI (o u) ^^^ (nI 1 <<< (nI v &&& nI 31)))) n (cutA o u v) pl := fun k hk => by
        unfold cutA
        rw [q_sh (k := v) (by omega), q_xor, xor_cut hb]
        constructor
        · by_cases c : k = u
          · subst c; rw [pk_us, if_pos rfl]
          · rw [pk_un c, if_neg c]; exact (a4 k hk).1
        · rw [pk_un (by omega)]; exact (a4 k hk).2
      rw [e3, e4, e5]
      simp only [Option.bind_some]
      rw [arcs_eq (cut_good a1 hu) hS' e8, Option.bind_some, hN'.2.1]
      refine ⟨_, _, _, _, _, _, rfl, rfl, n, _, _, _, cut_good a1 hu, hN', e8, hS', ?_, ?_, hP, ?_, ?_, a10, a11⟩
      · rw [hM2 2 (by decide), hs.1]; exact a5
      · rw [hM2 20 (by decide), hs.2.2.2.1]; exact a6
      · rw [hM2 22 (by decide), hs.2.2.2.2.1]; exact a8
      · rw [hM2 25 (by decide), hs.2.2.2.2.2]; exact a9
theorem c_undo (h : Rel Nn Tt Ll Pp Rr Ss Ww Dd i0 i1 kp M X s U lf lt rg si sm kt ik) : ∃ r N' P' M' s', f_X8_undo Nn Pp = some (r, N', P') ∧ f_X9_undo M s U = some (r, M', s') ∧ Rel N' Tt Ll P' Rr Ss Ww Dd i0 i1 kp M' X s' U lf lt rg si sm kt ik := by
  obtain ⟨n, o, pl, od, a1, a2, a3, a4, a5, a6, a7, a8, a9, a10, a11⟩ := h
  obtain ⟨r, N', P', M', s', e1, e2, hP, ⟨o2, pl2, od2, b1, b2, b3⟩, hM⟩ := undo_eq a1.1.1 a1.1.2 a7 a2 a1 a4
  exact ⟨r, N', P', M', s', e1, e2, n, o2, pl2, od2, b1, b2, by rw [hM 8 (by decide) (by decide)]; exact a3, b3, by rw [hM 2 (by decide) (by decide)]; exact a5, by rw [hM 20 (by decide) (by decide)]; exact a6, hP, by rw [hM 22 (by decide) (by decide)]; exact a8, by rw [hM 25 (by decide) (by decide)]; exact a9, a10, a11⟩
theorem sorts_loop {n : Nat} {o pl od : Nat → Nat} (h : Good n o pl od) {M : ModS} (m8 : M 8 = nI n) {ord : Nat → Int32} (ho : ∀ p, p < n → ord p = nI (sdO n o p)) (hs : RefR s n o pl) (was U : Nat → Int32) (V : Nat → Int64) (ke : (Nat → Int32) → Option (Int32 × ModS × (Nat → Int32) × (Nat → Int32) × (Nat → Int32) × (Nat → Int64) × (Nat → Int32))) : ∃ s', k_X9_sorts_31 M was U V ord ke fu (nI 0) s = ke s' ∧ RefR s' n o (sdP n o) := by
  have hn := h.1.2
  obtain ⟨s', ⟨b1, b2⟩, e⟩ := loop_e (fun m i (T : Nat → Int32) => k_X9_sorts_31 M was U V ord ke m (nI i) T) (fun T => ke T) (fun i T => (∀ k, k < 12 → T k = s k) ∧ ∀ p, p < i → T (12 + sdO n o p) = nI p) n s (by omega) ⟨fun _ _ => rfl, fun _ q => absurd q (Nat.not_lt_zero _)⟩
    (by intro m T _; rw [k_X9_sorts_31.eq_2, m8, q_le_t (by omega) (by omega)])
    (by
      intro m i T hi ⟨b1, b2⟩
      have hl := (kI_ok (w0_pos h) hi).1
      have hl' : sdO n o i < n := hl
      rw [k_X9_sorts_31.eq_2, m8, q_le_f (by omega) (by omega)]
      simp only [lit, q_in (show i < 12 by omega) (show 12 < 2147483648 by omega), q_cl (show i < 2147483648 by omega)]
      rw [ho i hi]
      simp only [nI_add]
      rw [q_in (by omega) (by omega), q_cl (by omega)]
      refine ⟨upd T (12 + sdO n o i) (nI i), ⟨fun k hk => by rw [pk_un (by omega)]; exact b1 k hk, fun p hp => ?_⟩, rfl⟩
      rcases (show p < i ∨ p = i by omega) with q | q
      · rw [pk_un (fun e => by have := sd_inj h (show p < n by omega) hi (by omega); omega)]; exact b2 p q
      · subst q; rw [pk_us])
  refine ⟨s', e, fun u hu => ⟨by rw [b1 u (by omega)]; exact (hs u hu).1, ?_⟩⟩
  obtain ⟨p, hp, e2⟩ := sd_sur h hu
  rw [← e2, sdP_of h hp]
  exact b2 p hp
theorem c_sorts (h : Rel Nn Tt Ll Pp Rr Ss Ww Dd i0 i1 kp M X s U lf lt rg si sm kt ik) (Bb : NetS) (was ord : Nat → Int32) (V : Nat → Int64) : ∃ r N' B' P' M' s' was' U' V' ord', f_X8_sorts Nn Bb Pp = some (r, N', B', P') ∧ f_X9_sorts M s was U V ord = some (r, M', s', was', U', V', ord') ∧ Rel N' Tt Ll P' Rr Ss Ww Dd i0 i1 kp M' X s' U' lf lt rg si sm kt ik := by
  obtain ⟨n, o, pl, od, a1, a2, a3, a4, a5, a6, a7, a8, a9, a10, a11⟩ := h
  have hn := a1.1.2
  have hs : SameM M (upd M 0 (nI 0)) := same0
  obtain ⟨P', M2, U', e3, e4, hP, hM2⟩ := push_eq (M := upd M 0 (nI 0)) (U := U) (by rw [hs.2.2.1]; exact a7) a2 a1 a4
  have e8 : M2 8 = nI n := (hM2 8 (by decide)).trans (by rw [u0_8]; exact a3)
  obtain ⟨B', e5, hB⟩ := copyOf_eq hn a2 Bb
  obtain ⟨N', e6, hN'⟩ := sort_eq a2 a1
  have hg := sd_good a1
  obtain ⟨was', e7, hw⟩ := copies_eq s was
  have hwR := copies_R hn a4 hw
  obtain ⟨V', e9, hV⟩ := counts_eq a1 a4 e8 V
  obtain ⟨ord', e10, ho⟩ := orderOf_eq a1 a4 e8 hV (w0_pos a1) ord
  unfold f_X8_sorts f_X9_sorts
  simp only [lit, lit6]
  rw [e3, e4, Option.bind_some, Option.bind_some, e5, e7, Option.bind_some, Option.bind_some, e6, Option.bind_some, unlike_eq hN' hg hB a1, Option.bind_some]
  dsimp only
  rw [e9, Option.bind_some, e10, Option.bind_some]
  obtain ⟨s', e11, hs'⟩ := sorts_loop a1 e8 ho a4 was' U' V' (fun m_s_5 => ((f_X9_moved M2 was' m_s_5).bind fun r6 => ((f_X9_ones r6).bind fun r7 => (some (r7, M2, m_s_5, was', U', V', ord')))))
  rw [e11, moved_eq hn e8 (p1 := pl) (p2 := sdP n o) (fun x hx => ⟨(hwR x hx).2, (a1.2.2.1 x hx).1⟩) (fun x hx => ⟨(hs' x hx).2, (hg.2.2.1 x hx).1⟩), Option.bind_some, on_eq (lt_4096 (msk_lt _ n) hn), Option.bind_some, pc_msk hn, cnt_sym]
  refine ⟨_, _, _, _, _, _, _, _, _, _, rfl, rfl, n, o, _, _, hg, hN', e8, hs', ?_, ?_, hP, ?_, ?_, a10, a11⟩
  · rw [hM2 2 (by decide), hs.1]; exact a5
  · rw [hM2 20 (by decide), hs.2.2.2.1]; exact a6
  · rw [hM2 22 (by decide), hs.2.2.2.2.1]; exact a8
  · rw [hM2 25 (by decide), hs.2.2.2.2.2]; exact a9
end RL2
