/-! ===== what holds between both, and that every call keeps it ===== -/
def SgtR (Sg : SgtS) (si sm : Nat → Int32) (m25 : Int32) (n : Nat) : Prop := ∃ (k : Nat) (it : Nat → Nat) (mv : Nat → Bool), k ≤ 6 ∧ Sg.1 0 = nI k ∧ m25 = nI k ∧ (∀ i, i < k → si i = nI (it i) ∧ it i < n ∧ sm i = nI (mv i).toNat) ∧ Sg.1 3 = nI (mmM it mv k) ∧ Sg.1 4 = nI (msM it mv k)
def ImgR (i0 i1 : NetS) (kp kt ik : Nat → Int32) (n : Nat) : Prop := (kp 0 = ik 0 ∧ kp 1 = ik 1) ∧ (kp 0 ≠ nI 0 → KepR i0 kt 0 n) ∧ (kp 1 ≠ nI 0 → KepR i1 kt 1 n)
def Rel (Nn : NetS) (Tt : TxtS) (Ll : LstS) (Pp : PstS) (Rr : LapS) (Ss : SgtS) (Ww : TalS) (Dd i0 i1 : NetS) (kp : Nat → Int32) (M : ModS) (X s U lf lt rg si sm kt ik : Nat → Int32) : Prop := ∃ n o pl od, Good n o pl od ∧ NetR Nn n o pl od ∧ M 8 = nI n ∧ RefR s n o pl ∧ TxtR Tt X (M 2) ∧ LstR Ll lf lt (M 20) n ∧ PastR Pp U (M 17) n ∧ LapR Rr rg (M 22) ∧ SgtR Ss si sm (M 25) n ∧ TalR Ww Dd ∧ ImgR i0 i1 kp kt ik n
section RL
variable {Nn : NetS} {Tt : TxtS} {Ll : LstS} {Pp : PstS} {Rr : LapS} {Ss : SgtS} {Ww : TalS} {Dd i0 i1 : NetS} {kp : Nat → Int32} {M : ModS} {X s U lf lt rg si sm kt ik : Nat → Int32}
def SameM (M M' : ModS) : Prop := M' 2 = M 2 ∧ M' 8 = M 8 ∧ M' 17 = M 17 ∧ M' 20 = M 20 ∧ M' 22 = M 22 ∧ M' 25 = M 25
theorem Rel.mv (h : Rel Nn Tt Ll Pp Rr Ss Ww Dd i0 i1 kp M X s U lf lt rg si sm kt ik) {M' : ModS} (hM : SameM M M') : Rel Nn Tt Ll Pp Rr Ss Ww Dd i0 i1 kp M' X s U lf lt rg si sm kt ik := by
  obtain ⟨n, o, pl, od, a1, a2, a3, a4, a5, a6, a7, a8, a9, a10, a11⟩ := h
  obtain ⟨b1, b2, b3, b4, b5, b6⟩ := hM
  exact ⟨n, o, pl, od, a1, a2, by rw [b2]; exact a3, a4, by rw [b1]; exact a5, by rw [b4]; exact a6, by rw [b3]; exact a7, by rw [b5]; exact a8, by rw [b6]; exact a9, a10, a11⟩
theorem same0 : SameM M (upd M 0 (nI 0)) := ⟨pk_un (by decide), pk_un (by decide), pk_un (by decide), pk_un (by decide), pk_un (by decide), pk_un (by decide)⟩
theorem sameL {M' : ModS} (h : Lk0 M M') : SameM M M' := ⟨h 2 (by decide) (by decide) (by decide), h 8 (by decide) (by decide) (by decide), h 17 (by decide) (by decide) (by decide), h 20 (by decide) (by decide) (by decide), h 22 (by decide) (by decide) (by decide), h 25 (by decide) (by decide) (by decide)⟩
theorem same5 {M' : ModS} (h : Lk5 M M') : SameM M M' := ⟨h 2 (by decide) (by decide) (by decide) (by decide), h 8 (by decide) (by decide) (by decide) (by decide), h 17 (by decide) (by decide) (by decide) (by decide), h 20 (by decide) (by decide) (by decide) (by decide), h 22 (by decide) (by decide) (by decide) (by decide), h 25 (by decide) (by decide) (by decide) (by decide)⟩
theorem SameM.tr {A B C : ModS} (h : SameM A B) (h2 : SameM B C) : SameM A C := ⟨h2.1.trans h.1, h2.2.1.trans h.2.1, h2.2.2.1.trans h.2.2.1, h2.2.2.2.1.trans h.2.2.2.1, h2.2.2.2.2.1.trans h.2.2.2.2.1, h2.2.2.2.2.2.trans h.2.2.2.2.2⟩
/-! type, clear -/
theorem c_type (h : Rel Nn Tt Ll Pp Rr Ss Ww Dd i0 i1 kp M X s U lf lt rg si sm kt ik) (x : Int32) : ∃ r T' M' X', f_X8_type Tt x = some (r, T') ∧ f_X9_type M X x = some (r, M', X') ∧ Rel Nn T' Ll Pp Rr Ss Ww Dd i0 i1 kp M' X' s U lf lt rg si sm kt ik := by
  obtain ⟨n, o, pl, od, a1, a2, a3, a4, ⟨L, tx, hL, t0, m2, hx, hAX⟩, a6, a7, a8, a9, a10, a11⟩ := h
  have h0 : Rel Nn Tt Ll Pp Rr Ss Ww Dd i0 i1 kp M X s U lf lt rg si sm kt ik := ⟨n, o, pl, od, a1, a2, a3, a4, ⟨L, tx, hL, t0, m2, hx, hAX⟩, a6, a7, a8, a9, a10, a11⟩
  unfold f_X8_type f_X9_type f_X9_in
  simp only [lit]
  by_cases c : x < nI 0
  · rw [if_pos c, if_pos c, Option.bind_some, if_pos rfl]
    exact ⟨_, _, _, _, rfl, rfl, h0.mv same0⟩
  · obtain ⟨j, hj, rfl⟩ := nneg c
    rw [if_neg c, if_neg c, q_le_n (by omega) (by omega), q_lt_n (by omega) (by omega)]
    by_cases c2 : j ≤ 255
    · rw [if_pos c2, if_neg (by omega), Option.bind_some, if_neg ne10]
      unfold f_X7_append
      simp only [lit]
      rw [t0, m2, q_lt_n (by omega) (by omega), q_eq_n (by omega) (by omega)]
      by_cases c3 : L < 120
      · rw [if_pos c3, if_neg (by omega), q_in (by omega) (by omega), q_in (by omega) (by omega), q_cl (by omega), Option.bind_some, if_neg ne10, nI_add]
        refine ⟨_, _, _, _, rfl, by show _ = some (upd Tt.1 0 (nI (L + 1)) 0, _, _); rw [pk_us], n, o, pl, od, a1, a2, ?_, a4, ⟨L + 1, (fun i => if i = L then j else tx i), by omega, (by show upd Tt.1 0 (nI (L + 1)) 0 = _; rw [pk_us]), pk_us, fun i hi => ?_, fun i hi => ?_⟩, ?_, ?_, ?_, ?_, a10, a11⟩
        · rw [pk_un (by decide), pk_un (by decide)]; exact a3
        · show (if i = L then j else tx i) ≤ 255
          by_cases q : i = L
          · rw [if_pos q]; exact c2
          · rw [if_neg q]; exact hx i (by omega)
        · show upd Tt.2 L (nI j) i = nI (if i = L then j else tx i) ∧ upd X L (nI j) i = nI (if i = L then j else tx i)
          by_cases q : i = L
          · rw [if_pos q, q, pk_us, pk_us]; exact ⟨rfl, rfl⟩
          · rw [if_neg q, pk_un q, pk_un q]; exact hAX i (by omega)
        · rw [pk_un (by decide), pk_un (by decide)]; exact a6
        · rw [pk_un (by decide), pk_un (by decide)]; exact a7
        · rw [pk_un (by decide), pk_un (by decide)]; exact a8
        · rw [pk_un (by decide), pk_un (by decide)]; exact a9
      · rw [if_neg c3, if_pos (by omega), Option.bind_some, if_pos rfl]
        exact ⟨_, _, _, _, rfl, rfl, h0.mv same0⟩
    · rw [if_neg c2, if_pos (by omega), Option.bind_some, if_pos rfl]
      exact ⟨_, _, _, _, rfl, rfl, h0.mv same0⟩
theorem c_clear (h : Rel Nn Tt Ll Pp Rr Ss Ww Dd i0 i1 kp M X s U lf lt rg si sm kt ik) : ∃ r T' M', f_X8_clear Tt = some (r, T') ∧ f_X9_clear M = some (r, M') ∧ Rel Nn T' Ll Pp Rr Ss Ww Dd i0 i1 kp M' X s U lf lt rg si sm kt ik := by
  obtain ⟨n, o, pl, od, a1, a2, a3, a4, ⟨L, tx, hL, t0, m2, hx, hAX⟩, a6, a7, a8, a9, a10, a11⟩ := h
  unfold f_X8_clear f_X9_clear
  simp only [lit]
  rw [t0, m2]
  refine ⟨_, _, _, rfl, rfl, n, o, pl, od, a1, a2, ?_, a4, ⟨0, tx, by omega, (by show upd Tt.1 0 (nI 0) 0 = _; rw [pk_us]), pk_us, fun i hi => by omega, fun i hi => by omega⟩, ?_, ?_, ?_, ?_, a10, a11⟩
  · rw [pk_un (by decide), pk_un (by decide)]; exact a3
  · rw [pk_un (by decide), pk_un (by decide)]; exact a6
  · rw [pk_un (by decide), pk_un (by decide)]; exact a7
  · rw [pk_un (by decide), pk_un (by decide)]; exact a8
  · rw [pk_un (by decide), pk_un (by decide)]; exact a9
/-! questions -/
theorem c_item (h : Rel Nn Tt Ll Pp Rr Ss Ww Dd i0 i1 kp M X s U lf lt rg si sm kt ik) (x y : Int32) : ∃ r M', f_X8_item Nn x y = some r ∧ f_X9_item M s x y = some (r, M') ∧ Rel Nn Tt Ll Pp Rr Ss Ww Dd i0 i1 kp M' X s U lf lt rg si sm kt ik := by
  obtain ⟨n, o, pl, od, a1, a2, a3, a4, -⟩ := id h
  obtain ⟨r, e1, e2⟩ := item_eq a2 a1 a4 a3 x y
  exact ⟨r, _, e1, e2, h.mv same0⟩
theorem c_at (h : Rel Nn Tt Ll Pp Rr Ss Ww Dd i0 i1 kp M X s U lf lt rg si sm kt ik) (x : Int32) : ∃ r M', f_X8_at Nn x = some r ∧ f_X9_at M s x = some (r, M') ∧ Rel Nn Tt Ll Pp Rr Ss Ww Dd i0 i1 kp M' X s U lf lt rg si sm kt ik := by
  obtain ⟨n, o, pl, od, a1, a2, a3, a4, -⟩ := id h
  obtain ⟨r, e1, e2⟩ := at_eq a2 a1 a4 a3 x
  exact ⟨r, _, e1, e2, h.mv same0⟩
theorem c_now (h : Rel Nn Tt Ll Pp Rr Ss Ww Dd i0 i1 kp M X s U lf lt rg si sm kt ik) (w far ord t : Nat → Int32) (x : Int32) : ∃ r M' w' far' ord' t', f_X8_now Nn Pp x = some r ∧ f_X9_now M s w far ord t x = some (r, M', w', far', ord', t') ∧ Rel Nn Tt Ll Pp Rr Ss Ww Dd i0 i1 kp M' X s U lf lt rg si sm kt ik := by
  obtain ⟨n, o, pl, od, a1, a2, a3, a4, a5, a6, ⟨k, hk, p1, m17, pr⟩, -⟩ := id h
  have m8' : (upd M 0 (nI 0)) 8 = nI n := by rw [u0_8]; exact a3
  unfold f_X8_now f_X9_now f_X9_in
  simp only [lit]
  by_cases c : x < nI 0
  · rw [if_pos c, Option.bind_some, if_pos rfl]
    simp only [neg_ne c 0 (by omega), neg_ne c 1 (by omega), neg_ne c 2 (by omega), neg_ne c 3 (by omega), neg_ne c 4 (by omega), neg_ne c 5 (by omega), if_false]
    exact ⟨_, _, _, _, _, _, rfl, rfl, h.mv same0⟩
  · obtain ⟨j, hj, rfl⟩ := nneg c
    rw [if_neg c, q_lt_n (by omega) (by omega)]
    by_cases c2 : 5 < j
    · rw [if_pos c2, Option.bind_some, if_pos rfl, q_eq_f (by omega) (by omega) (by omega), q_eq_f (by omega) (by omega) (by omega), q_eq_f (by omega) (by omega) (by omega), q_eq_f (by omega) (by omega) (by omega), q_eq_f (by omega) (by omega) (by omega), q_eq_f (by omega) (by omega) (by omega)]
      exact ⟨_, _, _, _, _, _, rfl, rfl, h.mv same0⟩
    · rw [if_neg c2, Option.bind_some, if_neg ne10, a2.2.1, p1, m17, free8_eq a2 a1, most8_eq a2 a1, chain8_eq a2 a1, spare8_eq a2 a1, arcs_eq a1 a4 m8', free9_eq a1 a4 m8', spare9_eq a1 a4 m8']
      obtain ⟨far', e3⟩ := chain9_eq a1 a4 m8' far
      obtain ⟨M', w', ord', t', e4, l4⟩ := most9_eq a1 a4 m8' w ord t
      rw [e3, e4]
      simp only [Option.bind_some]
      rcases (show j = 0 ∨ j = 1 ∨ j = 2 ∨ j = 3 ∨ j = 4 ∨ j = 5 by omega) with e | e | e | e | e | e <;> subst e
      · exact ⟨_, _, _, _, _, _, rfl, rfl, h.mv same0⟩
      · exact ⟨_, _, _, _, _, _, rfl, rfl, h.mv same0⟩
      · exact ⟨_, _, _, _, _, _, rfl, rfl, h.mv (same0.tr (sameL l4))⟩
      · exact ⟨_, _, _, _, _, _, rfl, rfl, h.mv same0⟩
      · exact ⟨_, _, _, _, _, _, rfl, rfl, h.mv same0⟩
      · exact ⟨_, _, _, _, _, _, rfl, rfl, h.mv same0⟩
theorem c_lap (h : Rel Nn Tt Ll Pp Rr Ss Ww Dd i0 i1 kp M X s U lf lt rg si sm kt ik) (x : Int32) : ∃ r M', f_X8_lap Rr x = some r ∧ f_X9_lap M rg x = some (r, M') ∧ Rel Nn Tt Ll Pp Rr Ss Ww Dd i0 i1 kp M' X s U lf lt rg si sm kt ik := by
  obtain ⟨n, o, pl, od, a1, a2, a3, a4, a5, a6, a7, ⟨k, hk, p1, m22, pr⟩, -⟩ := id h
  unfold f_X8_lap f_X9_lap
  simp only [lit]
  rw [p1, m22]
  by_cases c : -nI 1 ≤ x
  · rw [if_pos c, if_pos c]
    by_cases c2 : x = -nI 1
    · rw [if_pos c2, c2, if_neg m1_lt]
      exact ⟨_, _, rfl, rfl, h.mv same0⟩
    · have c3 : ¬ x < nI 0 := fun q => by
        rw [Int32.lt_iff_toInt_lt, nI_toInt (by omega)] at q
        rw [Int32.le_iff_toInt_le] at c
        have e1 : (-nI 1 : Int32).toInt = -1 := by decide
        apply c2
        apply Int32.toInt_inj.mp
        omega
      obtain ⟨j, hj, rfl⟩ := nneg c3
      rw [if_neg c2, if_pos (show nI 0 ≤ nI j from (q_le (by omega) (by omega)).mpr (Nat.zero_le _))]
      simp only [q_le_n (show k < 2147483648 by omega) (show j < 2147483648 by omega)]
      by_cases c4 : k ≤ j
      · rw [if_pos c4, if_pos c4]
        exact ⟨_, _, rfl, rfl, h.mv same0⟩
      · rw [if_neg c4, if_neg c4, q_in (by omega) (by omega), q_in (by omega) (by omega), q_cl (by omega), pr j (by omega)]
        exact ⟨_, _, rfl, rfl, h.mv same0⟩
  · rw [if_neg c, if_neg c]
    exact ⟨_, _, rfl, rfl, h.mv same0⟩
theorem c_arc (h : Rel Nn Tt Ll Pp Rr Ss Ww Dd i0 i1 kp M X s U lf lt rg si sm kt ik) (w ord t : Nat → Int32) (x y z : Int32) : ∃ r M' w' ord' t', f_X8_arc Nn x y z = some r ∧ f_X9_arc M s w ord t x y z = some (r, M', w', ord', t') ∧ Rel Nn Tt Ll Pp Rr Ss Ww Dd i0 i1 kp M' X s U lf lt rg si sm kt ik := by
  obtain ⟨n, o, pl, od, a1, a2, a3, a4, -⟩ := id h
  have hn := a1.1.2
  have m8' : (upd M 0 (nI 0)) 8 = nI n := by rw [u0_8]; exact a3
  unfold f_X8_arc f_X9_arc f_X9_in
  simp only [lit]
  rw [isPair_eq a2.1, isTwo_eq m8' a1.1.1 hn]
  simp only [Option.bind_some, q_b0]
  cases hp : isP n x y with
  | false => exact ⟨_, _, _, _, _, rfl, rfl, h.mv same0⟩
  | true =>
    obtain ⟨u, v, hu, hv, hne, rfl, rfl⟩ := isP_t hp hn
    have lo := a1.olt hu
    simp only [if_true]
    by_cases c : z < nI 0
    · rw [if_pos c, if_pos c, Option.bind_some, if_pos rfl]
      exact ⟨_, _, _, _, _, rfl, rfl, h.mv same0⟩
    · obtain ⟨j, hj, rfl⟩ := nneg c
      rw [if_neg c, if_neg c, q_le_n (by omega) (by omega), q_lt_n (by omega) (by omega)]
      by_cases c2 : j ≤ 3
      · rw [if_pos c2, if_neg (show ¬ 3 < j by omega), Option.bind_some, if_neg ne10, has_eq a2 a1 hu hv, nI_add, Nat.zero_add, q_in (by omega) (by omega), q_cl (by omega), (a4 u hu).1, h9_eq (by omega) (by omega)]
        simp only [Option.bind_some, q_b0]
        cases hb : (o u).testBit v with
        | true => exact ⟨_, _, _, _, _, rfl, rfl, h.mv same0⟩
        | false =>
          simp only [Bool.false_eq_true, if_false]
          obtain ⟨M', w', ord', t', e, l⟩ := movedBy9_eq a1 a4 m8' hu hv hne w ord t
          rw [e, movedBy_eq a2 a1 hu hv hne, closes_eq a2 a1 hu hv hne, before_eq a2 a1 hu hv, after_eq a2 a1 hu hv]
          simp only [Option.bind_some, l.1, l.2.1, l.2.2.1, q_b0]
          have hs := h.mv (same0.tr (sameL l.2.2.2))
          rcases (show j = 0 ∨ j = 1 ∨ j = 2 ∨ j = 3 by omega) with e | e | e | e <;> subst e
          · exact ⟨_, _, _, _, _, rfl, rfl, hs⟩
          · rw [if_neg ne10, if_pos rfl, if_neg ne10, if_pos rfl]
            cases clo n o u v <;> exact ⟨_, _, _, _, _, rfl, rfl, hs⟩
          · exact ⟨_, _, _, _, _, rfl, rfl, hs⟩
          · exact ⟨_, _, _, _, _, rfl, rfl, hs⟩
      · rw [if_neg c2, if_pos (by omega), Option.bind_some, if_pos rfl]
        exact ⟨_, _, _, _, _, rfl, rfl, h.mv same0⟩
theorem c_orders (h : Rel Nn Tt Ll Pp Rr Ss Ww Dd i0 i1 kp M X s U lf lt rg si sm kt ik) (V : Nat → Int64) : ∃ r W' D' M' V', f_X8_orders Nn Ww Dd = some (r, W', D') ∧ f_X9_orders M s V = some (r, M', V') ∧ Rel Nn Tt Ll Pp Rr Ss W' D' i0 i1 kp M' X s U lf lt rg si sm kt ik := by
  obtain ⟨n, o, pl, od, a1, a2, a3, a4, a5, a6, a7, a8, a9, a10, a11⟩ := id h
  have m8' : (upd M 0 (nI 0)) 8 = nI n := by rw [u0_8]; exact a3
  obtain ⟨W', D', e1, r1, r2⟩ := all_eq a2 a1 a10
  obtain ⟨V', e2, r3⟩ := counts_eq a1 a4 m8' V
  unfold f_X8_orders f_X9_orders
  simp only [lit]
  rw [e1, e2, Option.bind_some, Option.bind_some, q_in (by omega) (by omega), q_cl (by omega), r3 0 (p2_pos n)]
  exact ⟨_, _, _, _, _, rfl, rfl, Rel.mv ⟨n, o, pl, od, a1, a2, a3, a4, a5, a6, a7, a8, a9, r2, a11⟩ same0⟩
theorem c_number (h : Rel Nn Tt Ll Pp Rr Ss Ww Dd i0 i1 kp M X s U lf lt rg si sm kt ik) (V : Nat → Int64) : ∃ r W' D' M' V', f_X8_number Nn Ww Dd = some (r, W', D') ∧ f_X9_number M s V = some (r, M', V') ∧ Rel Nn Tt Ll Pp Rr Ss W' D' i0 i1 kp M' X s U lf lt rg si sm kt ik := by
  obtain ⟨n, o, pl, od, a1, a2, a3, a4, a5, a6, a7, a8, a9, a10, a11⟩ := id h
  obtain ⟨W', D', e1, r2⟩ := rank_eq a2 a1 a10
  obtain ⟨V', e2⟩ := number_eq a1 a4 a3 V
  unfold f_X8_number
  rw [e1, e2, Option.bind_some]
  exact ⟨_, _, _, _, _, rfl, rfl, Rel.mv ⟨n, o, pl, od, a1, a2, a3, a4, a5, a6, a7, a8, a9, r2, a11⟩ same0⟩
theorem c_kth (h : Rel Nn Tt Ll Pp Rr Ss Ww Dd i0 i1 kp M X s U lf lt rg si sm kt ik) (V : Nat → Int64) (ord : Nat → Int32) (k : Int64) (x : Int32) : ∃ r W' D' M' V' ord', f_X8_kth Nn Ww Dd k x = some (r, W', D') ∧ f_X9_kth M s V ord k x = some (r, M', V', ord') ∧ Rel Nn Tt Ll Pp Rr Ss W' D' i0 i1 kp M' X s U lf lt rg si sm kt ik := by
  obtain ⟨n, o, pl, od, a1, a2, a3, a4, a5, a6, a7, a8, a9, a10, a11⟩ := id h
  obtain ⟨r, W', D', V', ord', e1, r2, e2⟩ := kth_eq a2 a1 a4 a3 a10 V ord k x
  exact ⟨_, _, _, _, _, _, e1, e2, Rel.mv ⟨n, o, pl, od, a1, a2, a3, a4, a5, a6, a7, a8, a9, r2, a11⟩ same0⟩
theorem c_days (h : Rel Nn Tt Ll Pp Rr Ss Ww Dd i0 i1 kp M X s U lf lt rg si sm kt ik) (C : CalS) (D : Nat → Int32) (x : Int32) : ∃ r C' M' D', f_X8_days Nn C x = some (r, C') ∧ f_X9_days M s D x = some (r, M', D') ∧ Rel Nn Tt Ll Pp Rr Ss Ww Dd i0 i1 kp M' X s U lf lt rg si sm kt ik := by
  obtain ⟨n, o, pl, od, a1, a2, a3, a4, -⟩ := id h
  obtain ⟨r, C', D', e1, e2⟩ := days_eq a2 a1 a4 a3 C D x
  exact ⟨_, _, _, _, e1, e2, h.mv same0⟩
theorem c_count (h : Rel Nn Tt Ll Pp Rr Ss Ww Dd i0 i1 kp M X s U lf lt rg si sm kt ik) (x : Int32) : ∃ r M', f_X8_count Nn Tt Ll Ss x = some r ∧ f_X9_count M x = some (r, M') ∧ Rel Nn Tt Ll Pp Rr Ss Ww Dd i0 i1 kp M' X s U lf lt rg si sm kt ik := by
  obtain ⟨n, o, pl, od, a1, a2, a3, a4, ⟨L, tx, hL, t0, m2, -⟩, ⟨k, a, b, hk, l1, m20, -⟩, a7, a8, ⟨k2, it, mv, hk2, s0, m25, -⟩, -⟩ := id h
  unfold f_X8_count f_X9_count
  simp only [lit]
  rw [a2.1, a3, t0, m2, l1, m20, s0, m25]
  have hs := h.mv same0
  by_cases c0 : x = nI 0
  · rw [if_pos c0, if_pos c0]; exact ⟨_, _, rfl, rfl, hs⟩
  · rw [if_neg c0, if_neg c0]
    by_cases c1 : x = nI 1
    · rw [if_pos c1, if_pos c1]; exact ⟨_, _, rfl, rfl, hs⟩
    · rw [if_neg c1, if_neg c1]
      by_cases c2 : x = nI 2
      · rw [if_pos c2, if_pos c2]; exact ⟨_, _, rfl, rfl, hs⟩
      · rw [if_neg c2, if_neg c2]
        by_cases c3 : x = nI 3
        · rw [if_pos c3, if_pos c3]; exact ⟨_, _, rfl, rfl, hs⟩
        · rw [if_neg c3, if_neg c3]; exact ⟨_, _, rfl, rfl, hs⟩
end RL
