/-! the tables of both programs -/
section DAZ
variable {n : Nat} {o pl od : Nat → Nat} {N : NetS} {M : ModS} {S : Nat → Int32}
theorem mvF_lt (h : Good n o pl od) {k : Nat} (hk : 1 ≤ k) : ∀ S A, mvF n o k S A → S < S ||| A := fun S A m => (or_nz (R := 0) h.1.2 (mvF_R h hk m).2.2.1 (mvF_R h hk m).2.1).1
theorem mvR_lt (h : Good n o pl od) {k : Nat} : ∀ S A, mvR n o k S A → S < S ||| A := fun S A m => (or_nz (R := 0) h.1.2 m.2.2.1 m.2.1).1
theorem CHR12 (h : Good n o pl od) {k : Nat} : ∀ d T, CH (mvR n o k) d T → d ≤ 12 := fun d T c => Nat.le_trans (CH_R h.1.2 d T c).2 pc_le
theorem CHF12 (h : Good n o pl od) {k : Nat} (hk : 1 ≤ k) : ∀ d T, CH (mvF n o k) d T → d ≤ 12 := fun d T c => CHR12 h d T (CH_FR h hk d T c)
theorem DP_0 {mv : Nat → Nat → Prop} {nv : Nat} {F : Nat → Int32} (h0 : F 0 = nI 0) (h1 : ∀ T, T < 2 ^ n → T ≠ 0 → F T = nI nv) : DP mv nv n 0 F := by
  refine ⟨h0, fun T hT => ?_, fun d S A hS => absurd hS (Nat.not_lt_zero _)⟩
  by_cases c : T = 0
  · subst c; exact ⟨0, h0, Or.inr ⟨by omega, rfl⟩⟩
  · exact ⟨nv, h1 T hT c, Or.inl rfl⟩
set_option maxHeartbeats 1000000 in
theorem fewest_eq (hN : NetR N n o pl od) (h : Good n o pl od) {k : Nat} (hk : 1 ≤ k) (hk3 : k ≤ 3) (C : CalS) : ∃ F, f_X1_fewestDays C N (nI k) = some (F (2 ^ n - 1), F) ∧ DP (mvF n o k) 13 n (2 ^ n - 1) F := by
  have hn := h.1.2
  have hp := p2_12 hn
  have hpp := p2_pos n
  obtain ⟨A, eA, hA⟩ := fill_eq (ln := 4096) (by omega) C (nI 13)
  unfold f_X1_fewestDays
  simp only [lit]
  rw [eA, Option.bind_some, q_in (by omega) (by omega), every_eq hN h, Option.bind_some, show (nI 0).toNatClampNeg = 0 from q_cl (by omega)]
  obtain ⟨F, hF, e⟩ := loop_e (fun m i (F : Nat → Int32) => k_X1_fewestDays_24 (nI k) (nI (2 ^ n - 1)) N (fun Cc_6 => inR (nI (2 ^ n - 1)) 4096 ((some ((Cc_6 (nI (2 ^ n - 1)).toNatClampNeg), Cc_6)))) m (nI i) F) (fun F => inR (nI (2 ^ n - 1)) 4096 ((some ((F (nI (2 ^ n - 1)).toNatClampNeg), F)))) (fun i F => DP (mvF n o k) 13 n i F) (2 ^ n - 1) (upd A 0 (nI 0)) (by omega) (DP_0 pk_us (fun T hT h0 => by rw [pk_un h0]; exact hA T (by omega)))
    (by intro m F _; rw [k_X1_fewestDays_24.eq_2, q_le_t (by omega) (by omega)])
    (by
      intro m i F hi hF
      have li : i < 4096 := by omega
      obtain ⟨v, ev, cv⟩ := hF.2.1 i (by omega)
      rw [k_X1_fewestDays_24.eq_2, q_le_f (by omega) (by omega)]
      simp only [lit, nI_add, q_in (show i < 4096 by omega) (show 4096 < 2147483648 by omega), q_cl (show i < 2147483648 by omega)]
      rw [ev]
      rcases cv with c | c
      · subst c
        rw [q_le_t (by omega) (by omega)]
        exact ⟨F, hF.skip (mvF_lt h hk) (CHF12 h hk) (by omega) (by omega) ev, rfl⟩
      · have lr := lt_4096 (rdy_lt (n := n) (o := o) i) hn
        rw [q_le_f (by omega) (by omega), allReady_eq hN h li, Option.bind_some, bc_eq lr, Option.bind_some]
        have hpl := pc_le (a := rdy n o i)
        rw [q_min (by omega) (by omega), nI_add]
        obtain ⟨F', e, hU⟩ := work_eq (n := n) (r := rdy n o i) (day := v + 1) hn (rdy_lt i) (by omega) (if pc (rdy n o i) < k then pc (rdy n o i) else k) 5 i 0 F (by split <;> omega) (by split <;> omega) (by omega) (by omega) (hF.tab (by omega))
        rw [e, Option.bind_some]
        refine ⟨F', hF.go (mvF_lt h hk) (CHF12 h hk) (by omega) (by omega) (by omega) ev (by omega) (by omega) (hU.iff (fun T => ?_)) (fun S A mS _ => or_sub_lt (show S < 2 ^ n by have := mS.1; omega) mS.2.1), rfl⟩
        constructor
        · intro ⟨B, b1, b2, b3⟩
          exact ⟨B, ⟨by omega, fun x hx => (b1 x hx).1, b2⟩, b3⟩
        · intro ⟨B, mB, b3⟩
          exact ⟨B, fun x hx => ⟨mB.2.1 x hx, Nat.zero_le _⟩, mB.2.2, b3⟩)
  refine ⟨F, ?_, hF⟩
  rw [e, q_in (by omega) (by omega), q_cl (by omega)]
theorem makes_eq (hn : n ≤ 12) {s can k v : Nat} (hs : s < 2 ^ n) (hc : can < 2 ^ n) (hd : ∀ i, ¬ (s.testBit i = true ∧ can.testBit i = true)) (hk : k ≤ 12) (hv : v ≤ 12) (ke : (Nat → Int32) → Option (Nat → Int32)) : ∀ w x m F, x ≤ w → x < m → subB x can → Tab (2 ^ n) F → F s = nI v → ∃ F', k_X9_makes_3 (nI s) (nI can) (nI k) M ke m (nI x) F = ke F' ∧ Up (2 ^ n) F F' (fun T => ∃ B, B ≠ 0 ∧ subB B can ∧ B ≤ x ∧ pc B ≤ k ∧ T = s ||| B) (v + 1)
  | w, 0, m, F, hx, hm, hsub, hT, hF => by
    obtain ⟨m, rfl⟩ : ∃ q, m = q + 1 := ⟨m - 1, by omega⟩
    rw [k_X9_makes_3.eq_2]
    simp only [lit]
    rw [if_pos trivial]
    exact ⟨F, rfl, Up.no (fun T ⟨B, b1, _, b3, _⟩ => b1 (by omega))⟩
  | 0, x + 1, m, F, hx, hm, hsub, hT, hF => absurd hx (by omega)
  | w + 1, x + 1, m, F, hx, hm, hsub, hT, hF => by
    obtain ⟨m, rfl⟩ : ∃ q, m = q + 1 := ⟨m - 1, by omega⟩
    have lx := sub_lt hsub hc
    have lx2 := lt_4096 lx hn
    have ls := lt_4096 hs hn
    have lo := or_lt2 hs lx
    have lo2 := lt_4096 lo hn
    have hle : x &&& can ≤ x := Nat.and_le_left
    have hsub' : subB (x &&& can) can := fun i hi => (and_b.mp hi).2
    have hpx := pc_le (a := x + 1)
    have hne : s ||| (x + 1) ≠ s := fun e => by
      have h0 : x + 1 = 0 := by
        apply eq_of_bits
        intro i
        rw [Nat.zero_testBit]
        cases hb : (x + 1).testBit i with
        | false => rfl
        | true =>
          have : (s ||| (x + 1)).testBit i = true := or_bit.mpr (Or.inr hb)
          rw [e] at this
          exact absurd ⟨this, hsub i hb⟩ (hd i)
      omega
    have hsplit : ∀ B, subB B can → (B ≤ x + 1 ↔ B = x + 1 ∨ B ≤ x &&& can) := fun B hB => by
      constructor
      · intro q
        rcases (show B = x + 1 ∨ B < x + 1 by omega) with c | c
        · exact Or.inl c
        · exact Or.inr (sub_next n (x + 1) can B lx hsub hB c)
      · intro q
        rcases q with c | c <;> omega
    rw [k_X9_makes_3.eq_2]
    simp only [lit]
    rw [q_eq_f (by omega) (by omega) (by omega), on_eq lx2, Option.bind_some, q_lt_n (by omega) (by omega), q_sub (by omega), Nat.add_sub_cancel, q_and, q_or]
    simp only [q_in (show s < 4096 by omega) (show 4096 < 2147483648 by omega), q_in (show s ||| (x + 1) < 4096 by omega) (show 4096 < 2147483648 by omega), q_cl (show s < 2147483648 by omega), q_cl (show s ||| (x + 1) < 2147483648 by omega)]
    obtain ⟨y, hy, ey⟩ := hT _ lo
    rw [hF, ey, nI_add, q_le_n (by omega) (by omega)]
    by_cases c : k < pc (x + 1)
    · rw [if_pos c]
      obtain ⟨F', e, hU⟩ := makes_eq hn hs hc hd hk hv ke w (x &&& can) m F (by omega) (by omega) hsub' hT hF
      refine ⟨F', e, hU.iff (fun T => ?_)⟩
      constructor
      · intro ⟨B, b1, b2, b3, b4⟩; exact ⟨B, b1, b2, by omega, b4⟩
      · intro ⟨B, b1, b2, b3, b4, b5⟩
        rcases (hsplit B b2).mp b3 with q | q
        · rw [q] at b4; omega
        · exact ⟨B, b1, b2, q, b4, b5⟩
    · rw [if_neg c]
      have one : ∀ F1, Up (2 ^ n) F F1 (fun T => T = s ||| (x + 1)) (v + 1) → F1 s = nI v → ∃ F', k_X9_makes_3 (nI s) (nI can) (nI k) M ke m (nI (x &&& can)) F1 = ke F' ∧ Up (2 ^ n) F F' (fun T => ∃ B, B ≠ 0 ∧ subB B can ∧ B ≤ x + 1 ∧ pc B ≤ k ∧ T = s ||| B) (v + 1) := by
        intro F1 hU1 hF1
        obtain ⟨F', e, hU⟩ := makes_eq hn hs hc hd hk hv ke w (x &&& can) m F1 (by omega) (by omega) hsub' (hU1.tab hT) hF1
        refine ⟨F', e, (hU1.tr hU).iff (fun T => ?_)⟩
        constructor
        · intro q
          rcases q with q | ⟨B, b1, b2, b3, b4⟩
          · exact ⟨x + 1, by omega, hsub, Nat.le_refl _, by omega, q⟩
          · exact ⟨B, b1, b2, by omega, b4⟩
        · intro ⟨B, b1, b2, b3, b4, b5⟩
          rcases (hsplit B b2).mp b3 with q | q
          · subst q; exact Or.inl b5
          · exact Or.inr ⟨B, b1, b2, q, b4, b5⟩
      by_cases c2 : y ≤ v + 1
      · rw [if_pos c2]
        refine one F (fun T hT2 z hz ez => ⟨fun q => ?_, fun _ => ez⟩) hF
        have : y = z := by
          rw [q, ey] at ez
          exact (q_eq (by omega) (by omega)).mp ez
        rw [ez, if_neg (by omega)]
      · rw [if_neg c2]
        refine one _ (fun T hT2 z hz ez => ⟨fun q => ?_, fun q => by rw [pk_un q]; exact ez⟩) (by rw [pk_un (Ne.symm hne)]; exact hF)
        have : y = z := by
          rw [q, ey] at ez
          exact (q_eq (by omega) (by omega)).mp ez
        rw [q, pk_us, if_pos (by omega)]
set_option maxHeartbeats 1000000 in
theorem days9_eq (h : Good n o pl od) (hS : RefR S n o pl) (m8 : M 8 = nI n) {k : Nat} (hk : 1 ≤ k) (hk3 : k ≤ 3) (D : Nat → Int32) : ∃ G, f_X9_days M S D (nI k) = some (G (2 ^ n - 1), upd M 0 (nI 0), G) ∧ DP (mvR n o k) 99 n (2 ^ n - 1) G := by
  have hn := h.1.2
  have hp := p2_12 hn
  have hpp := p2_pos n
  have m8' : (upd M 0 (nI 0)) 8 = nI n := by rw [u0_8]; exact m8
  unfold f_X9_days
  simp only [lit]
  rw [in_eq (by omega) (by omega) (by omega), Option.bind_some, decide_eq_true (by omega), q_b0, if_pos rfl, m8]
  rw [q_sh (k := n) (by omega), q_sub (by omega)]
  obtain ⟨D1, hD1, e1⟩ := loop_e (fun m i (F : Nat → Int32) => k_X9_days_27 (nI k) (nI (2 ^ n - 1)) (upd M 0 (nI 0)) S (fun m_day_2 => (k_X9_days_56 (nI k) (nI (2 ^ n - 1)) (upd M 0 (nI 0)) S (fun m_day_6 => inR (nI (2 ^ n - 1)) 4096 ((some ((m_day_6 (nI (2 ^ n - 1)).toNatClampNeg), (upd M 0 (nI 0)), m_day_6)))) fu (nI 0) m_day_2)) m (nI i) F) (fun F => k_X9_days_56 (nI k) (nI (2 ^ n - 1)) (upd M 0 (nI 0)) S (fun m_day_6 => inR (nI (2 ^ n - 1)) 4096 ((some ((m_day_6 (nI (2 ^ n - 1)).toNatClampNeg), (upd M 0 (nI 0)), m_day_6)))) fu (nI 0) F) (fun i F => ∀ T, T < i → F T = if T = 0 then nI 0 else nI 99) (2 ^ n) D (by omega) (fun _ q => absurd q (Nat.not_lt_zero _))
    (by intro m F _; rw [k_X9_days_27.eq_2, q_lt_t (by omega) (by omega)])
    (by
      intro m i F hi hF
      rw [k_X9_days_27.eq_2, q_lt_f (by omega) (by omega)]
      simp only [lit, nI_add, q_in (show i < 4096 by omega) (show 4096 < 2147483648 by omega), q_cl (show i < 2147483648 by omega)]
      rw [q_eq_n (by omega) (by omega)]
      refine ⟨upd F i (if i = 0 then nI 0 else nI 99), fun T hT => ?_, by split <;> rfl⟩
      rcases (show T < i ∨ T = i by omega) with q | q
      · rw [pk_un (by omega)]; exact hF T q
      · subst q; rw [pk_us])
  rw [e1]
  have can : ∀ (s : Nat) (ke : Int32 → Option (Int32 × ModS × (Nat → Int32))) (F : Nat → Int32), s < 2 ^ n → k_X9_days_67 (nI k) (nI (2 ^ n - 1)) (nI s) (upd M 0 (nI 0)) S F ke fu (nI 0) (nI 0) = ke (nI (rdy n o s)) := by
    intro s ke F hs
    refine loop_v (fun m i => k_X9_days_67 (nI k) (nI (2 ^ n - 1)) (nI s) (upd M 0 (nI 0)) S F ke m (nI (msk (rd n o s) i)) (nI i)) _ n (by omega) ?_ ?_
    · intro m
      rw [k_X9_days_67.eq_2, m8', q_le_t (by omega) (by omega)]; rfl
    · intro m i hi
      rw [k_X9_days_67.eq_2, m8', q_le_f (by omega) (by omega), canNext_eq h hS m8' (by omega) hi]
      simp only [lit, nI_add, Option.bind_some]
      rw [q_b0, q_sh (k := i) (by omega), q_or, q_or]
      show _ = k_X9_days_67 _ _ _ _ _ _ _ m (nI (msk (rd n o s) i ||| (if rd n o s i then 2 ^ i else 0))) _
      by_cases c : rd n o s i = true
      · rw [if_pos c, if_pos c]
      · rw [if_neg c, if_neg c]
  obtain ⟨G, hG, e⟩ := loop_e (fun m i (F : Nat → Int32) => k_X9_days_56 (nI k) (nI (2 ^ n - 1)) (upd M 0 (nI 0)) S (fun m_day_6 => inR (nI (2 ^ n - 1)) 4096 ((some ((m_day_6 (nI (2 ^ n - 1)).toNatClampNeg), (upd M 0 (nI 0)), m_day_6)))) m (nI i) F) (fun F => inR (nI (2 ^ n - 1)) 4096 ((some ((F (nI (2 ^ n - 1)).toNatClampNeg), (upd M 0 (nI 0)), F)))) (fun i F => DP (mvR n o k) 99 n i F) (2 ^ n - 1) D1 (by omega) (DP_0 (by rw [hD1 0 hpp, if_pos rfl]) (fun T hT h0 => by rw [hD1 T hT, if_neg h0]))
    (by intro m F _; rw [k_X9_days_56.eq_2, q_le_t (by omega) (by omega)])
    (by
      intro m i F hi hF
      obtain ⟨v, ev, cv⟩ := hF.2.1 i (by omega)
      rw [k_X9_days_56.eq_2, q_le_f (by omega) (by omega)]
      simp only [lit]
      rw [can i _ F (by omega)]
      simp only [nI_add, q_in (show i < 4096 by omega) (show 4096 < 2147483648 by omega), q_cl (show i < 2147483648 by omega)]
      rw [ev]
      rcases cv with c | c
      · subst c
        rw [q_le_t (by omega) (by omega)]
        exact ⟨F, hF.skip (mvR_lt h) (CHR12 h) (by omega) (by omega) ev, rfl⟩
      · rw [q_le_f (by omega) (by omega)]
        have lr := lt_4096 (rdy_lt (n := n) (o := o) i) hn
        unfold f_X9_makes
        obtain ⟨F', e, hU⟩ := makes_eq (M := upd M 0 (nI 0)) hn (s := i) (can := rdy n o i) (k := k) (v := v) (by omega) (rdy_lt i) (fun x hx => by
          have := rd_nb (rdy_bit.mp hx.2).2
          rw [hx.1] at this; cases this) (by omega) c.1 (fun m_day_2 => some m_day_2) (rdy n o i) (rdy n o i) fu F (Nat.le_refl _) (by rw [fu_eq]; omega) (fun _ q => q) (hF.tab (by omega)) ev
        rw [e, Option.bind_some]
        refine ⟨F', hF.go (mvR_lt h) (CHR12 h) (by omega) (by omega) (by omega) ev (by omega) (by omega) (hU.iff (fun T => ?_)) (fun S A mS _ => or_sub_lt mS.1 mS.2.2.1), rfl⟩
        constructor
        · intro ⟨B, b1, b2, b3, b4, b5⟩
          exact ⟨B, ⟨by omega, b1, b2, b4⟩, b5⟩
        · intro ⟨B, mB, b5⟩
          refine ⟨B, mB.2.1, mB.2.2.1, ?_, mB.2.2.2, b5⟩
          have := sub_and mB.2.2.1
          have h2 : B &&& rdy n o i ≤ rdy n o i := Nat.and_le_right
          omega)
  refine ⟨G, ?_, hG⟩
  rw [e, q_in (by omega) (by omega), q_cl (by omega)]
theorem days_eq (hN : NetR N n o pl od) (h : Good n o pl od) (hS : RefR S n o pl) (m8 : M 8 = nI n) (C : CalS) (D : Nat → Int32) (x : Int32) : ∃ r C' D', f_X8_days N C x = some (r, C') ∧ f_X9_days M S D x = some (r, upd M 0 (nI 0), D') := by
  by_cases c : x < nI 1
  · unfold f_X8_days f_X9_days f_X9_in
    simp only [lit]
    rw [if_pos c, if_pos c]
    exact ⟨_, _, _, rfl, rfl⟩
  · by_cases c2 : x ≤ nI 3
    · have c3 : ¬ x < 0 := fun q => c (by
        rw [Int32.lt_iff_toInt_lt] at q ⊢
        rw [nI_toInt (by omega)]
        have : (0 : Int32).toInt = 0 := by decide
        omega)
      obtain ⟨k, hk, rfl⟩ := nI_of c3
      have hk1 : 1 ≤ k := by
        rcases Nat.lt_or_ge k 1 with q | q
        · exact absurd ((q_lt (by omega) (by omega)).mpr q) c
        · exact q
      have hk3 := (q_le (by omega) (by omega)).mp c2
      obtain ⟨F, e, hF⟩ := fewest_eq hN h hk1 hk3 C
      obtain ⟨G, e2, hG⟩ := days9_eq h hS m8 hk1 hk3 D
      have hend := dp_end h hk1 hF hG
      unfold f_X8_days
      simp only [lit]
      rw [if_neg c, if_pos c2, e, Option.bind_some, e2, hend]
      exact ⟨_, _, _, rfl, rfl⟩
    · have c3 : nI 3 < x := Int32.not_le.mp c2
      unfold f_X8_days f_X9_days f_X9_in
      simp only [lit]
      rw [if_neg c, if_neg c2, if_neg c, if_pos c3]
      exact ⟨_, _, _, rfl, rfl⟩
end DAZ
