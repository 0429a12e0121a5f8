theorem hi_X9_init_X9 : ∀ w ∈ u_ws RX9 TX9 36, w ∈ wsX9_init := by decide +kernel
theorem ob_X9_init : Cond.methodLink RX9 1 objectInit ∈ wsX9_init ∧ Cond.instanceMethod objectInit ∈ wsX9_init ∧ Cond.code objectInit ⟨#[0xb1]⟩ 1 none ∈ wsX9_init := by decide +kernel
theorem na_X9_init_int : Cond.arrayClass .int ∈ wsX9_init := by decide +kernel
theorem fl_X9_init_7 : Cond.fieldLink RX9 7 "ArcOrderModel" "text" "[I" ∈ wsX9_init := by decide +kernel
theorem fl_X9_init_13 : Cond.fieldLink RX9 13 "ArcOrderModel" "draft" "[I" ∈ wsX9_init := by decide +kernel
theorem fl_X9_init_16 : Cond.fieldLink RX9 16 "ArcOrderModel" "s" "[I" ∈ wsX9_init := by decide +kernel
theorem fl_X9_init_19 : Cond.fieldLink RX9 19 "ArcOrderModel" "w" "[I" ∈ wsX9_init := by decide +kernel
theorem fl_X9_init_22 : Cond.fieldLink RX9 22 "ArcOrderModel" "was" "[I" ∈ wsX9_init := by decide +kernel
theorem fl_X9_init_25 : Cond.fieldLink RX9 25 "ArcOrderModel" "kept" "[I" ∈ wsX9_init := by decide +kernel
theorem na_X9_init_boolean : Cond.arrayClass .boolean ∈ wsX9_init := by decide +kernel
theorem fl_X9_init_28 : Cond.fieldLink RX9 28 "ArcOrderModel" "isKept" "[Z" ∈ wsX9_init := by decide +kernel
theorem fl_X9_init_32 : Cond.fieldLink RX9 32 "ArcOrderModel" "undos" "[I" ∈ wsX9_init := by decide +kernel
theorem fl_X9_init_35 : Cond.fieldLink RX9 35 "ArcOrderModel" "listFrom" "[I" ∈ wsX9_init := by decide +kernel
theorem fl_X9_init_38 : Cond.fieldLink RX9 38 "ArcOrderModel" "listTo" "[I" ∈ wsX9_init := by decide +kernel
theorem fl_X9_init_41 : Cond.fieldLink RX9 41 "ArcOrderModel" "ring" "[I" ∈ wsX9_init := by decide +kernel
theorem fl_X9_init_44 : Cond.fieldLink RX9 44 "ArcOrderModel" "seenItem" "[I" ∈ wsX9_init := by decide +kernel
theorem fl_X9_init_47 : Cond.fieldLink RX9 47 "ArcOrderModel" "seenMoved" "[I" ∈ wsX9_init := by decide +kernel
theorem fl_X9_init_50 : Cond.fieldLink RX9 50 "ArcOrderModel" "far" "[I" ∈ wsX9_init := by decide +kernel
theorem na_X9_init_long : Cond.arrayClass .long ∈ wsX9_init := by decide +kernel
theorem fl_X9_init_53 : Cond.fieldLink RX9 53 "ArcOrderModel" "ways" "[J" ∈ wsX9_init := by decide +kernel
theorem fl_X9_init_57 : Cond.fieldLink RX9 57 "ArcOrderModel" "day" "[I" ∈ wsX9_init := by decide +kernel
theorem fl_X9_init_60 : Cond.fieldLink RX9 60 "ArcOrderModel" "order" "[I" ∈ wsX9_init := by decide +kernel
theorem fl_X9_init_63 : Cond.fieldLink RX9 63 "ArcOrderModel" "tried" "[I" ∈ wsX9_init := by decide +kernel
theorem fl_X9_init_66 : Cond.fieldLink RX9 66 "ArcOrderModel" "movedIf" "[I" ∈ wsX9_init := by decide +kernel
def f0_X9 : List Value := [.int 0, .null, .int 0, .int 0, .int 0, .int 0, .int 0, .int 0, .int 0, .int 0, .null, .null, .null, .null, .null, .null, .null, .int 0, .null, .null, .int 0, .null, .int 0, .null, .null, .int 0, .int 0, .int 0, .int 0, .null, .null, .null, .null, .null, .null, .int 0]
abbrev modW (cy : Nat → ClassId) (am : Nat → Nat) (Mm : ModS) (m_text : Nat → Int32) (m_draft : Nat → Int32) (m_s : Nat → Int32) (m_w : Nat → Int32) (m_was : Nat → Int32) (m_kept : Nat → Int32) (m_isKept : Nat → Int32) (m_undos : Nat → Int32) (m_listFrom : Nat → Int32) (m_listTo : Nat → Int32) (m_ring : Nat → Int32) (m_seenItem : Nat → Int32) (m_seenMoved : Nat → Int32) (m_far : Nat → Int32) (m_ways : Nat → Int64) (m_day : Nat → Int32) (m_order : Nat → Int32) (m_tried : Nat → Int32) (m_movedIf : Nat → Int32) : List va_W := [(sMod cy am Mm), (sI cy (am 2) 120 m_text), (sI cy (am 11) 24 m_draft), (sI cy (am 12) 24 m_s), (sI cy (am 13) 24 m_w), (sI cy (am 14) 24 m_was), (sI cy (am 15) 48 m_kept), (sZ cy (am 16) 2 m_isKept), (sI cy (am 17) 240 m_undos), (sI cy (am 19) 8 m_listFrom), (sI cy (am 20) 8 m_listTo), (sI cy (am 22) 12 m_ring), (sI cy (am 24) 6 m_seenItem), (sI cy (am 25) 6 m_seenMoved), (sI cy (am 30) 12 m_far), (sJ cy (am 31) 4096 m_ways), (sI cy (am 32) 4096 m_day), (sI cy (am 33) 12 m_order), (sI cy (am 34) 24 m_tried), (sI cy (am 35) 12 m_movedIf)]
abbrev rm_X9_init : Room := { frames := 2, cells := 19, slots := 8798, locals := 60 }
def xMod (cy : Nat → ClassId) (q : Nat) (z : List va_W) : Prop := ∃ (am : Nat → Nat) (M : ModS) (D s ik : Nat → Int32), am 0 = q ∧ z = [(modW cy am M z0 D s z0 z0 z0 ik z0 z0 z0 z0 z0 z0 z0 zJ z0 z0 z0 z0).flatten] ∧ M 2 = nI 0 ∧ M 8 = nI 4 ∧ M 17 = nI 0 ∧ M 20 = nI 0 ∧ M 22 = nI 0 ∧ M 25 = nI 0 ∧ RefR s 4 o0 id0 ∧ ik 0 = nI 0 ∧ ik 1 = nI 0
theorem mod_fresh : ∃ (M1 : ModS) (D1 : Nat → Int32) (M2 : ModS) (s2 ik2 : Nat → Int32), f_X9_begins z0 z0 = some (M1, D1) ∧ f_X9_settles M1 D1 z0 z0 = some (M2, s2, ik2) ∧ M2 2 = nI 0 ∧ M2 8 = nI 4 ∧ M2 17 = nI 0 ∧ M2 20 = nI 0 ∧ M2 22 = nI 0 ∧ M2 25 = nI 0 ∧ RefR s2 4 o0 id0 ∧ ik2 0 = nI 0 ∧ ik2 1 = nI 0 := by
  obtain ⟨D1, e1, h1⟩ := begins_eq z0 z0
  obtain ⟨s2, e2, h2⟩ := copies_eq D1 z0
  have hR : RefR D1 4 o0 id0 := fun u hu => ⟨(h1 u (by omega)).1, (h1 u (by omega)).2⟩
  have hS := copies_R (n := 4) (by omega) hR h2
  refine ⟨_, D1, upd (upd (upd (upd (upd (upd z0 9 (nI 4)) 8 (nI 4)) 2 (nI 0)) 20 (nI 0)) 25 (nI 0)) 17 (nI 0), s2, upd (upd z0 0 (nI 0)) 1 (nI 0), e1, ?_, ?_, ?_, pk_us, ?_, ?_, ?_, hS, ?_, pk_us⟩
  · unfold f_X9_settles
    rw [e2, Option.bind_some]
    simp only [lit]
    rw [q_in (by omega) (by omega), q_in (by omega) (by omega), q_cl (by omega), q_cl (by omega)]
    rfl
  · rw [pk_un (by decide), pk_un (by decide), pk_un (by decide), pk_us]
  · rw [pk_un (by decide), pk_un (by decide), pk_un (by decide), pk_un (by decide), pk_us]
  · rw [pk_un (by decide), pk_un (by decide), pk_us]
  · rw [pk_un (by decide), pk_un (by decide), pk_un (by decide), pk_un (by decide), pk_un (by decide), pk_un (by decide)]; rfl
  · rw [pk_un (by decide), pk_us]
  · rw [pk_un (by decide), pk_us]
theorem flat1 (sg : List va_W) : sg.flatten = [sg.flatten].flatten := by simp
set_option maxHeartbeats 8000000 in
set_option maxRecDepth 100000 in
theorem ok_X9_init (l : Launch) (D : va_G) (cy : Nat → ClassId) (q : Nat) : OKx l D cy yX9_init wsX9_init rm_X9_init [.ref q] [[(q, .inr (9, f0_X9))]] none (xMod cy q) 19 8798 := by
  refine OKx.of (cc := cX9_init) (maxL := 1) (ret := none) (by decide) rfl (Nat.le_of_ble_eq_true rfl) (fun G F Rq => ?_)
  show Go G 0 0 0 [(0, .ref q)] [] [[(q, .inr (9, f0_X9))]]
  replace F : Fx G cX9_init wsX9_init RX9 cy 1 (rm_X9_init) := F
  replace Rq : Rx G "<init>" none none (xMod cy q) 19 8798 := Rq
  refine g_aload_n F dX9_init_0 rfl 0 rfl ?_
  refine g_obj F dX9_init_1 ob_X9_init (by decide) ?_
  refine g_aload_n F dX9_init_4 rfl 0 rfl ?_
  refine g_bipush F (v := (120 : Int32)) dX9_init_5 (by decide) ?_
  refine g_newa F (N := 120) (t0 := 0) (ty := .int) (a0 := (120, .inl z0)) dX9_init_7 na_X9_init_int rfl rfl va_RA_i (fun _ => rfl) (by decide) (by decide) (by decide) (by decide) (fun q1 => ?_)
  refine g_putF F Rq (C := RX9) (T := TX9) (N := 36) (ci := 9) (v := .ref q1) (sg' := [[(q, .inr (9, [.int 0, .ref q1, .int 0, .int 0, .int 0, .int 0, .int 0, .int 0, .int 0, .int 0, .null, .null, .null, .null, .null, .null, .null, .int 0, .null, .null, .int 0, .null, .int 0, .null, .null, .int 0, .int 0, .int 0, .int 0, .null, .null, .null, .null, .null, .null, .int 0]))], [(q1, .inl (cy 0, 120, .inl z0))]]) hi_X9_init_X9 tyX9 tyX9_ok nmX9 0 0 1 dX9_init_9 rfl rfl (by decide) fl_X9_init_7 rfl rfl rfl rfl rfl (Nat.le_of_ble_eq_true rfl) rfl ?_
  refine g_aload_n F dX9_init_12 rfl 0 rfl ?_
  refine g_bipush F (v := (24 : Int32)) dX9_init_13 (by decide) ?_
  refine g_newa F (N := 24) (t0 := 0) (ty := .int) (a0 := (24, .inl z0)) dX9_init_15 na_X9_init_int rfl rfl va_RA_i (fun _ => rfl) (by decide) (by decide) (by decide) (by decide) (fun q2 => ?_)
  refine g_putF F Rq (C := RX9) (T := TX9) (N := 36) (ci := 9) (v := .ref q2) (sg' := [[(q, .inr (9, [.int 0, .ref q1, .int 0, .int 0, .int 0, .int 0, .int 0, .int 0, .int 0, .int 0, .ref q2, .null, .null, .null, .null, .null, .null, .int 0, .null, .null, .int 0, .null, .int 0, .null, .null, .int 0, .int 0, .int 0, .int 0, .null, .null, .null, .null, .null, .null, .int 0]))], [(q1, .inl (cy 0, 120, .inl z0))], [(q2, .inl (cy 0, 24, .inl z0))]]) hi_X9_init_X9 tyX9 tyX9_ok nmX9 0 0 10 dX9_init_17 rfl rfl (by decide) fl_X9_init_13 rfl rfl rfl rfl rfl (Nat.le_of_ble_eq_true rfl) rfl ?_
  refine g_aload_n F dX9_init_20 rfl 0 rfl ?_
  refine g_bipush F (v := (24 : Int32)) dX9_init_21 (by decide) ?_
  refine g_newa F (N := 24) (t0 := 0) (ty := .int) (a0 := (24, .inl z0)) dX9_init_23 na_X9_init_int rfl rfl va_RA_i (fun _ => rfl) (by decide) (by decide) (by decide) (by decide) (fun q3 => ?_)
  refine g_putF F Rq (C := RX9) (T := TX9) (N := 36) (ci := 9) (v := .ref q3) (sg' := [[(q, .inr (9, [.int 0, .ref q1, .int 0, .int 0, .int 0, .int 0, .int 0, .int 0, .int 0, .int 0, .ref q2, .ref q3, .null, .null, .null, .null, .null, .int 0, .null, .null, .int 0, .null, .int 0, .null, .null, .int 0, .int 0, .int 0, .int 0, .null, .null, .null, .null, .null, .null, .int 0]))], [(q1, .inl (cy 0, 120, .inl z0))], [(q2, .inl (cy 0, 24, .inl z0))], [(q3, .inl (cy 0, 24, .inl z0))]]) hi_X9_init_X9 tyX9 tyX9_ok nmX9 0 0 11 dX9_init_25 rfl rfl (by decide) fl_X9_init_16 rfl rfl rfl rfl rfl (Nat.le_of_ble_eq_true rfl) rfl ?_
  refine g_aload_n F dX9_init_28 rfl 0 rfl ?_
  refine g_bipush F (v := (24 : Int32)) dX9_init_29 (by decide) ?_
  refine g_newa F (N := 24) (t0 := 0) (ty := .int) (a0 := (24, .inl z0)) dX9_init_31 na_X9_init_int rfl rfl va_RA_i (fun _ => rfl) (by decide) (by decide) (by decide) (by decide) (fun q4 => ?_)
  refine g_putF F Rq (C := RX9) (T := TX9) (N := 36) (ci := 9) (v := .ref q4) (sg' := [[(q, .inr (9, [.int 0, .ref q1, .int 0, .int 0, .int 0, .int 0, .int 0, .int 0, .int 0, .int 0, .ref q2, .ref q3, .ref q4, .null, .null, .null, .null, .int 0, .null, .null, .int 0, .null, .int 0, .null, .null, .int 0, .int 0, .int 0, .int 0, .null, .null, .null, .null, .null, .null, .int 0]))], [(q1, .inl (cy 0, 120, .inl z0))], [(q2, .inl (cy 0, 24, .inl z0))], [(q3, .inl (cy 0, 24, .inl z0))], [(q4, .inl (cy 0, 24, .inl z0))]]) hi_X9_init_X9 tyX9 tyX9_ok nmX9 0 0 12 dX9_init_33 rfl rfl (by decide) fl_X9_init_19 rfl rfl rfl rfl rfl (Nat.le_of_ble_eq_true rfl) rfl ?_
  refine g_aload_n F dX9_init_36 rfl 0 rfl ?_
  refine g_bipush F (v := (24 : Int32)) dX9_init_37 (by decide) ?_
  refine g_newa F (N := 24) (t0 := 0) (ty := .int) (a0 := (24, .inl z0)) dX9_init_39 na_X9_init_int rfl rfl va_RA_i (fun _ => rfl) (by decide) (by decide) (by decide) (by decide) (fun q5 => ?_)
  refine g_putF F Rq (C := RX9) (T := TX9) (N := 36) (ci := 9) (v := .ref q5) (sg' := [[(q, .inr (9, [.int 0, .ref q1, .int 0, .int 0, .int 0, .int 0, .int 0, .int 0, .int 0, .int 0, .ref q2, .ref q3, .ref q4, .ref q5, .null, .null, .null, .int 0, .null, .null, .int 0, .null, .int 0, .null, .null, .int 0, .int 0, .int 0, .int 0, .null, .null, .null, .null, .null, .null, .int 0]))], [(q1, .inl (cy 0, 120, .inl z0))], [(q2, .inl (cy 0, 24, .inl z0))], [(q3, .inl (cy 0, 24, .inl z0))], [(q4, .inl (cy 0, 24, .inl z0))], [(q5, .inl (cy 0, 24, .inl z0))]]) hi_X9_init_X9 tyX9 tyX9_ok nmX9 0 0 13 dX9_init_41 rfl rfl (by decide) fl_X9_init_22 rfl rfl rfl rfl rfl (Nat.le_of_ble_eq_true rfl) rfl ?_
  refine g_aload_n F dX9_init_44 rfl 0 rfl ?_
  refine g_bipush F (v := (48 : Int32)) dX9_init_45 (by decide) ?_
  refine g_newa F (N := 48) (t0 := 0) (ty := .int) (a0 := (48, .inl z0)) dX9_init_47 na_X9_init_int rfl rfl va_RA_i (fun _ => rfl) (by decide) (by decide) (by decide) (by decide) (fun q6 => ?_)
  refine g_putF F Rq (C := RX9) (T := TX9) (N := 36) (ci := 9) (v := .ref q6) (sg' := [[(q, .inr (9, [.int 0, .ref q1, .int 0, .int 0, .int 0, .int 0, .int 0, .int 0, .int 0, .int 0, .ref q2, .ref q3, .ref q4, .ref q5, .ref q6, .null, .null, .int 0, .null, .null, .int 0, .null, .int 0, .null, .null, .int 0, .int 0, .int 0, .int 0, .null, .null, .null, .null, .null, .null, .int 0]))], [(q1, .inl (cy 0, 120, .inl z0))], [(q2, .inl (cy 0, 24, .inl z0))], [(q3, .inl (cy 0, 24, .inl z0))], [(q4, .inl (cy 0, 24, .inl z0))], [(q5, .inl (cy 0, 24, .inl z0))], [(q6, .inl (cy 0, 48, .inl z0))]]) hi_X9_init_X9 tyX9 tyX9_ok nmX9 0 0 14 dX9_init_49 rfl rfl (by decide) fl_X9_init_25 rfl rfl rfl rfl rfl (Nat.le_of_ble_eq_true rfl) rfl ?_
  refine g_aload_n F dX9_init_52 rfl 0 rfl ?_
  refine g_iconst F (v := (2 : Int32)) dX9_init_53 (by decide) ?_
  refine g_newa F (N := 2) (t0 := 2) (ty := .boolean) (a0 := (2, .inl z0)) dX9_init_54 na_X9_init_boolean rfl rfl va_RA_z (fun _ => rfl) (by decide) (by decide) (by decide) (by decide) (fun q7 => ?_)
  refine g_putF F Rq (C := RX9) (T := TX9) (N := 36) (ci := 9) (v := .ref q7) (sg' := [[(q, .inr (9, [.int 0, .ref q1, .int 0, .int 0, .int 0, .int 0, .int 0, .int 0, .int 0, .int 0, .ref q2, .ref q3, .ref q4, .ref q5, .ref q6, .ref q7, .null, .int 0, .null, .null, .int 0, .null, .int 0, .null, .null, .int 0, .int 0, .int 0, .int 0, .null, .null, .null, .null, .null, .null, .int 0]))], [(q1, .inl (cy 0, 120, .inl z0))], [(q2, .inl (cy 0, 24, .inl z0))], [(q3, .inl (cy 0, 24, .inl z0))], [(q4, .inl (cy 0, 24, .inl z0))], [(q5, .inl (cy 0, 24, .inl z0))], [(q6, .inl (cy 0, 48, .inl z0))], [(q7, .inl (cy 2, 2, .inl z0))]]) hi_X9_init_X9 tyX9 tyX9_ok nmX9 0 0 15 dX9_init_56 rfl rfl (by decide) fl_X9_init_28 rfl rfl rfl rfl rfl (Nat.le_of_ble_eq_true rfl) rfl ?_
  refine g_aload_n F dX9_init_59 rfl 0 rfl ?_
  refine g_sipush F (v := (240 : Int32)) dX9_init_60 (by decide) ?_
  refine g_newa F (N := 240) (t0 := 0) (ty := .int) (a0 := (240, .inl z0)) dX9_init_63 na_X9_init_int rfl rfl va_RA_i (fun _ => rfl) (by decide) (by decide) (by decide) (by decide) (fun q8 => ?_)
  refine g_putF F Rq (C := RX9) (T := TX9) (N := 36) (ci := 9) (v := .ref q8) (sg' := [[(q, .inr (9, [.int 0, .ref q1, .int 0, .int 0, .int 0, .int 0, .int 0, .int 0, .int 0, .int 0, .ref q2, .ref q3, .ref q4, .ref q5, .ref q6, .ref q7, .ref q8, .int 0, .null, .null, .int 0, .null, .int 0, .null, .null, .int 0, .int 0, .int 0, .int 0, .null, .null, .null, .null, .null, .null, .int 0]))], [(q1, .inl (cy 0, 120, .inl z0))], [(q2, .inl (cy 0, 24, .inl z0))], [(q3, .inl (cy 0, 24, .inl z0))], [(q4, .inl (cy 0, 24, .inl z0))], [(q5, .inl (cy 0, 24, .inl z0))], [(q6, .inl (cy 0, 48, .inl z0))], [(q7, .inl (cy 2, 2, .inl z0))], [(q8, .inl (cy 0, 240, .inl z0))]]) hi_X9_init_X9 tyX9 tyX9_ok nmX9 0 0 16 dX9_init_65 rfl rfl (by decide) fl_X9_init_32 rfl rfl rfl rfl rfl (Nat.le_of_ble_eq_true rfl) rfl ?_
  refine g_aload_n F dX9_init_68 rfl 0 rfl ?_
  refine g_bipush F (v := (8 : Int32)) dX9_init_69 (by decide) ?_
  refine g_newa F (N := 8) (t0 := 0) (ty := .int) (a0 := (8, .inl z0)) dX9_init_71 na_X9_init_int rfl rfl va_RA_i (fun _ => rfl) (by decide) (by decide) (by decide) (by decide) (fun q9 => ?_)
  refine g_putF F Rq (C := RX9) (T := TX9) (N := 36) (ci := 9) (v := .ref q9) (sg' := [[(q, .inr (9, [.int 0, .ref q1, .int 0, .int 0, .int 0, .int 0, .int 0, .int 0, .int 0, .int 0, .ref q2, .ref q3, .ref q4, .ref q5, .ref q6, .ref q7, .ref q8, .int 0, .ref q9, .null, .int 0, .null, .int 0, .null, .null, .int 0, .int 0, .int 0, .int 0, .null, .null, .null, .null, .null, .null, .int 0]))], [(q1, .inl (cy 0, 120, .inl z0))], [(q2, .inl (cy 0, 24, .inl z0))], [(q3, .inl (cy 0, 24, .inl z0))], [(q4, .inl (cy 0, 24, .inl z0))], [(q5, .inl (cy 0, 24, .inl z0))], [(q6, .inl (cy 0, 48, .inl z0))], [(q7, .inl (cy 2, 2, .inl z0))], [(q8, .inl (cy 0, 240, .inl z0))], [(q9, .inl (cy 0, 8, .inl z0))]]) hi_X9_init_X9 tyX9 tyX9_ok nmX9 0 0 18 dX9_init_73 rfl rfl (by decide) fl_X9_init_35 rfl rfl rfl rfl rfl (Nat.le_of_ble_eq_true rfl) rfl ?_
  refine g_aload_n F dX9_init_76 rfl 0 rfl ?_
  refine g_bipush F (v := (8 : Int32)) dX9_init_77 (by decide) ?_
  refine g_newa F (N := 8) (t0 := 0) (ty := .int) (a0 := (8, .inl z0)) dX9_init_79 na_X9_init_int rfl rfl va_RA_i (fun _ => rfl) (by decide) (by decide) (by decide) (by decide) (fun q10 => ?_)
  refine g_putF F Rq (C := RX9) (T := TX9) (N := 36) (ci := 9) (v := .ref q10) (sg' := [[(q, .inr (9, [.int 0, .ref q1, .int 0, .int 0, .int 0, .int 0, .int 0, .int 0, .int 0, .int 0, .ref q2, .ref q3, .ref q4, .ref q5, .ref q6, .ref q7, .ref q8, .int 0, .ref q9, .ref q10, .int 0, .null, .int 0, .null, .null, .int 0, .int 0, .int 0, .int 0, .null, .null, .null, .null, .null, .null, .int 0]))], [(q1, .inl (cy 0, 120, .inl z0))], [(q2, .inl (cy 0, 24, .inl z0))], [(q3, .inl (cy 0, 24, .inl z0))], [(q4, .inl (cy 0, 24, .inl z0))], [(q5, .inl (cy 0, 24, .inl z0))], [(q6, .inl (cy 0, 48, .inl z0))], [(q7, .inl (cy 2, 2, .inl z0))], [(q8, .inl (cy 0, 240, .inl z0))], [(q9, .inl (cy 0, 8, .inl z0))], [(q10, .inl (cy 0, 8, .inl z0))]]) hi_X9_init_X9 tyX9 tyX9_ok nmX9 0 0 19 dX9_init_81 rfl rfl (by decide) fl_X9_init_38 rfl rfl rfl rfl rfl (Nat.le_of_ble_eq_true rfl) rfl ?_
  refine g_aload_n F dX9_init_84 rfl 0 rfl ?_
  refine g_bipush F (v := (12 : Int32)) dX9_init_85 (by decide) ?_
  refine g_newa F (N := 12) (t0 := 0) (ty := .int) (a0 := (12, .inl z0)) dX9_init_87 na_X9_init_int rfl rfl va_RA_i (fun _ => rfl) (by decide) (by decide) (by decide) (by decide) (fun q11 => ?_)
  refine g_putF F Rq (C := RX9) (T := TX9) (N := 36) (ci := 9) (v := .ref q11) (sg' := [[(q, .inr (9, [.int 0, .ref q1, .int 0, .int 0, .int 0, .int 0, .int 0, .int 0, .int 0, .int 0, .ref q2, .ref q3, .ref q4, .ref q5, .ref q6, .ref q7, .ref q8, .int 0, .ref q9, .ref q10, .int 0, .ref q11, .int 0, .null, .null, .int 0, .int 0, .int 0, .int 0, .null, .null, .null, .null, .null, .null, .int 0]))], [(q1, .inl (cy 0, 120, .inl z0))], [(q2, .inl (cy 0, 24, .inl z0))], [(q3, .inl (cy 0, 24, .inl z0))], [(q4, .inl (cy 0, 24, .inl z0))], [(q5, .inl (cy 0, 24, .inl z0))], [(q6, .inl (cy 0, 48, .inl z0))], [(q7, .inl (cy 2, 2, .inl z0))], [(q8, .inl (cy 0, 240, .inl z0))], [(q9, .inl (cy 0, 8, .inl z0))], [(q10, .inl (cy 0, 8, .inl z0))], [(q11, .inl (cy 0, 12, .inl z0))]]) hi_X9_init_X9 tyX9 tyX9_ok nmX9 0 0 21 dX9_init_89 rfl rfl (by decide) fl_X9_init_41 rfl rfl rfl rfl rfl (Nat.le_of_ble_eq_true rfl) rfl ?_
  refine g_aload_n F dX9_init_92 rfl 0 rfl ?_
  refine g_bipush F (v := (6 : Int32)) dX9_init_93 (by decide) ?_
  refine g_newa F (N := 6) (t0 := 0) (ty := .int) (a0 := (6, .inl z0)) dX9_init_95 na_X9_init_int rfl rfl va_RA_i (fun _ => rfl) (by decide) (by decide) (by decide) (by decide) (fun q12 => ?_)
  refine g_putF F Rq (C := RX9) (T := TX9) (N := 36) (ci := 9) (v := .ref q12) (sg' := [[(q, .inr (9, [.int 0, .ref q1, .int 0, .int 0, .int 0, .int 0, .int 0, .int 0, .int 0, .int 0, .ref q2, .ref q3, .ref q4, .ref q5, .ref q6, .ref q7, .ref q8, .int 0, .ref q9, .ref q10, .int 0, .ref q11, .int 0, .ref q12, .null, .int 0, .int 0, .int 0, .int 0, .null, .null, .null, .null, .null, .null, .int 0]))], [(q1, .inl (cy 0, 120, .inl z0))], [(q2, .inl (cy 0, 24, .inl z0))], [(q3, .inl (cy 0, 24, .inl z0))], [(q4, .inl (cy 0, 24, .inl z0))], [(q5, .inl (cy 0, 24, .inl z0))], [(q6, .inl (cy 0, 48, .inl z0))], [(q7, .inl (cy 2, 2, .inl z0))], [(q8, .inl (cy 0, 240, .inl z0))], [(q9, .inl (cy 0, 8, .inl z0))], [(q10, .inl (cy 0, 8, .inl z0))], [(q11, .inl (cy 0, 12, .inl z0))], [(q12, .inl (cy 0, 6, .inl z0))]]) hi_X9_init_X9 tyX9 tyX9_ok nmX9 0 0 23 dX9_init_97 rfl rfl (by decide) fl_X9_init_44 rfl rfl rfl rfl rfl (Nat.le_of_ble_eq_true rfl) rfl ?_
  refine g_aload_n F dX9_init_100 rfl 0 rfl ?_
  refine g_bipush F (v := (6 : Int32)) dX9_init_101 (by decide) ?_
  refine g_newa F (N := 6) (t0 := 0) (ty := .int) (a0 := (6, .inl z0)) dX9_init_103 na_X9_init_int rfl rfl va_RA_i (fun _ => rfl) (by decide) (by decide) (by decide) (by decide) (fun q13 => ?_)
  refine g_putF F Rq (C := RX9) (T := TX9) (N := 36) (ci := 9) (v := .ref q13) (sg' := [[(q, .inr (9, [.int 0, .ref q1, .int 0, .int 0, .int 0, .int 0, .int 0, .int 0, .int 0, .int 0, .ref q2, .ref q3, .ref q4, .ref q5, .ref q6, .ref q7, .ref q8, .int 0, .ref q9, .ref q10, .int 0, .ref q11, .int 0, .ref q12, .ref q13, .int 0, .int 0, .int 0, .int 0, .null, .null, .null, .null, .null, .null, .int 0]))], [(q1, .inl (cy 0, 120, .inl z0))], [(q2, .inl (cy 0, 24, .inl z0))], [(q3, .inl (cy 0, 24, .inl z0))], [(q4, .inl (cy 0, 24, .inl z0))], [(q5, .inl (cy 0, 24, .inl z0))], [(q6, .inl (cy 0, 48, .inl z0))], [(q7, .inl (cy 2, 2, .inl z0))], [(q8, .inl (cy 0, 240, .inl z0))], [(q9, .inl (cy 0, 8, .inl z0))], [(q10, .inl (cy 0, 8, .inl z0))], [(q11, .inl (cy 0, 12, .inl z0))], [(q12, .inl (cy 0, 6, .inl z0))], [(q13, .inl (cy 0, 6, .inl z0))]]) hi_X9_init_X9 tyX9 tyX9_ok nmX9 0 0 24 dX9_init_105 rfl rfl (by decide) fl_X9_init_47 rfl rfl rfl rfl rfl (Nat.le_of_ble_eq_true rfl) rfl ?_
  refine g_aload_n F dX9_init_108 rfl 0 rfl ?_
  refine g_bipush F (v := (12 : Int32)) dX9_init_109 (by decide) ?_
  refine g_newa F (N := 12) (t0 := 0) (ty := .int) (a0 := (12, .inl z0)) dX9_init_111 na_X9_init_int rfl rfl va_RA_i (fun _ => rfl) (by decide) (by decide) (by decide) (by decide) (fun q14 => ?_)
  refine g_putF F Rq (C := RX9) (T := TX9) (N := 36) (ci := 9) (v := .ref q14) (sg' := [[(q, .inr (9, [.int 0, .ref q1, .int 0, .int 0, .int 0, .int 0, .int 0, .int 0, .int 0, .int 0, .ref q2, .ref q3, .ref q4, .ref q5, .ref q6, .ref q7, .ref q8, .int 0, .ref q9, .ref q10, .int 0, .ref q11, .int 0, .ref q12, .ref q13, .int 0, .int 0, .int 0, .int 0, .ref q14, .null, .null, .null, .null, .null, .int 0]))], [(q1, .inl (cy 0, 120, .inl z0))], [(q2, .inl (cy 0, 24, .inl z0))], [(q3, .inl (cy 0, 24, .inl z0))], [(q4, .inl (cy 0, 24, .inl z0))], [(q5, .inl (cy 0, 24, .inl z0))], [(q6, .inl (cy 0, 48, .inl z0))], [(q7, .inl (cy 2, 2, .inl z0))], [(q8, .inl (cy 0, 240, .inl z0))], [(q9, .inl (cy 0, 8, .inl z0))], [(q10, .inl (cy 0, 8, .inl z0))], [(q11, .inl (cy 0, 12, .inl z0))], [(q12, .inl (cy 0, 6, .inl z0))], [(q13, .inl (cy 0, 6, .inl z0))], [(q14, .inl (cy 0, 12, .inl z0))]]) hi_X9_init_X9 tyX9 tyX9_ok nmX9 0 0 29 dX9_init_113 rfl rfl (by decide) fl_X9_init_50 rfl rfl rfl rfl rfl (Nat.le_of_ble_eq_true rfl) rfl ?_
  refine g_aload_n F dX9_init_116 rfl 0 rfl ?_
  refine g_sipush F (v := (4096 : Int32)) dX9_init_117 (by decide) ?_
  refine g_newa F (N := 4096) (t0 := 1) (ty := .long) (a0 := (4096, .inr (.inl zJ))) dX9_init_120 na_X9_init_long rfl rfl va_RA_l (fun _ => rfl) (by decide) (by decide) (by decide) (by decide) (fun q15 => ?_)
  refine g_putF F Rq (C := RX9) (T := TX9) (N := 36) (ci := 9) (v := .ref q15) (sg' := [[(q, .inr (9, [.int 0, .ref q1, .int 0, .int 0, .int 0, .int 0, .int 0, .int 0, .int 0, .int 0, .ref q2, .ref q3, .ref q4, .ref q5, .ref q6, .ref q7, .ref q8, .int 0, .ref q9, .ref q10, .int 0, .ref q11, .int 0, .ref q12, .ref q13, .int 0, .int 0, .int 0, .int 0, .ref q14, .ref q15, .null, .null, .null, .null, .int 0]))], [(q1, .inl (cy 0, 120, .inl z0))], [(q2, .inl (cy 0, 24, .inl z0))], [(q3, .inl (cy 0, 24, .inl z0))], [(q4, .inl (cy 0, 24, .inl z0))], [(q5, .inl (cy 0, 24, .inl z0))], [(q6, .inl (cy 0, 48, .inl z0))], [(q7, .inl (cy 2, 2, .inl z0))], [(q8, .inl (cy 0, 240, .inl z0))], [(q9, .inl (cy 0, 8, .inl z0))], [(q10, .inl (cy 0, 8, .inl z0))], [(q11, .inl (cy 0, 12, .inl z0))], [(q12, .inl (cy 0, 6, .inl z0))], [(q13, .inl (cy 0, 6, .inl z0))], [(q14, .inl (cy 0, 12, .inl z0))], [(q15, .inl (cy 1, 4096, .inr (.inl zJ)))]]) hi_X9_init_X9 tyX9 tyX9_ok nmX9 0 0 30 dX9_init_122 rfl rfl (by decide) fl_X9_init_53 rfl rfl rfl rfl rfl (Nat.le_of_ble_eq_true rfl) rfl ?_
  refine g_aload_n F dX9_init_125 rfl 0 rfl ?_
  refine g_sipush F (v := (4096 : Int32)) dX9_init_126 (by decide) ?_
  refine g_newa F (N := 4096) (t0 := 0) (ty := .int) (a0 := (4096, .inl z0)) dX9_init_129 na_X9_init_int rfl rfl va_RA_i (fun _ => rfl) (by decide) (by decide) (by decide) (by decide) (fun q16 => ?_)
  refine g_putF F Rq (C := RX9) (T := TX9) (N := 36) (ci := 9) (v := .ref q16) (sg' := [[(q, .inr (9, [.int 0, .ref q1, .int 0, .int 0, .int 0, .int 0, .int 0, .int 0, .int 0, .int 0, .ref q2, .ref q3, .ref q4, .ref q5, .ref q6, .ref q7, .ref q8, .int 0, .ref q9, .ref q10, .int 0, .ref q11, .int 0, .ref q12, .ref q13, .int 0, .int 0, .int 0, .int 0, .ref q14, .ref q15, .ref q16, .null, .null, .null, .int 0]))], [(q1, .inl (cy 0, 120, .inl z0))], [(q2, .inl (cy 0, 24, .inl z0))], [(q3, .inl (cy 0, 24, .inl z0))], [(q4, .inl (cy 0, 24, .inl z0))], [(q5, .inl (cy 0, 24, .inl z0))], [(q6, .inl (cy 0, 48, .inl z0))], [(q7, .inl (cy 2, 2, .inl z0))], [(q8, .inl (cy 0, 240, .inl z0))], [(q9, .inl (cy 0, 8, .inl z0))], [(q10, .inl (cy 0, 8, .inl z0))], [(q11, .inl (cy 0, 12, .inl z0))], [(q12, .inl (cy 0, 6, .inl z0))], [(q13, .inl (cy 0, 6, .inl z0))], [(q14, .inl (cy 0, 12, .inl z0))], [(q15, .inl (cy 1, 4096, .inr (.inl zJ)))], [(q16, .inl (cy 0, 4096, .inl z0))]]) hi_X9_init_X9 tyX9 tyX9_ok nmX9 0 0 31 dX9_init_131 rfl rfl (by decide) fl_X9_init_57 rfl rfl rfl rfl rfl (Nat.le_of_ble_eq_true rfl) rfl ?_
  refine g_aload_n F dX9_init_134 rfl 0 rfl ?_
  refine g_bipush F (v := (12 : Int32)) dX9_init_135 (by decide) ?_
  refine g_newa F (N := 12) (t0 := 0) (ty := .int) (a0 := (12, .inl z0)) dX9_init_137 na_X9_init_int rfl rfl va_RA_i (fun _ => rfl) (by decide) (by decide) (by decide) (by decide) (fun q17 => ?_)
  refine g_putF F Rq (C := RX9) (T := TX9) (N := 36) (ci := 9) (v := .ref q17) (sg' := [[(q, .inr (9, [.int 0, .ref q1, .int 0, .int 0, .int 0, .int 0, .int 0, .int 0, .int 0, .int 0, .ref q2, .ref q3, .ref q4, .ref q5, .ref q6, .ref q7, .ref q8, .int 0, .ref q9, .ref q10, .int 0, .ref q11, .int 0, .ref q12, .ref q13, .int 0, .int 0, .int 0, .int 0, .ref q14, .ref q15, .ref q16, .ref q17, .null, .null, .int 0]))], [(q1, .inl (cy 0, 120, .inl z0))], [(q2, .inl (cy 0, 24, .inl z0))], [(q3, .inl (cy 0, 24, .inl z0))], [(q4, .inl (cy 0, 24, .inl z0))], [(q5, .inl (cy 0, 24, .inl z0))], [(q6, .inl (cy 0, 48, .inl z0))], [(q7, .inl (cy 2, 2, .inl z0))], [(q8, .inl (cy 0, 240, .inl z0))], [(q9, .inl (cy 0, 8, .inl z0))], [(q10, .inl (cy 0, 8, .inl z0))], [(q11, .inl (cy 0, 12, .inl z0))], [(q12, .inl (cy 0, 6, .inl z0))], [(q13, .inl (cy 0, 6, .inl z0))], [(q14, .inl (cy 0, 12, .inl z0))], [(q15, .inl (cy 1, 4096, .inr (.inl zJ)))], [(q16, .inl (cy 0, 4096, .inl z0))], [(q17, .inl (cy 0, 12, .inl z0))]]) hi_X9_init_X9 tyX9 tyX9_ok nmX9 0 0 32 dX9_init_139 rfl rfl (by decide) fl_X9_init_60 rfl rfl rfl rfl rfl (Nat.le_of_ble_eq_true rfl) rfl ?_
  refine g_aload_n F dX9_init_142 rfl 0 rfl ?_
  refine g_bipush F (v := (24 : Int32)) dX9_init_143 (by decide) ?_
  refine g_newa F (N := 24) (t0 := 0) (ty := .int) (a0 := (24, .inl z0)) dX9_init_145 na_X9_init_int rfl rfl va_RA_i (fun _ => rfl) (by decide) (by decide) (by decide) (by decide) (fun q18 => ?_)
  refine g_putF F Rq (C := RX9) (T := TX9) (N := 36) (ci := 9) (v := .ref q18) (sg' := [[(q, .inr (9, [.int 0, .ref q1, .int 0, .int 0, .int 0, .int 0, .int 0, .int 0, .int 0, .int 0, .ref q2, .ref q3, .ref q4, .ref q5, .ref q6, .ref q7, .ref q8, .int 0, .ref q9, .ref q10, .int 0, .ref q11, .int 0, .ref q12, .ref q13, .int 0, .int 0, .int 0, .int 0, .ref q14, .ref q15, .ref q16, .ref q17, .ref q18, .null, .int 0]))], [(q1, .inl (cy 0, 120, .inl z0))], [(q2, .inl (cy 0, 24, .inl z0))], [(q3, .inl (cy 0, 24, .inl z0))], [(q4, .inl (cy 0, 24, .inl z0))], [(q5, .inl (cy 0, 24, .inl z0))], [(q6, .inl (cy 0, 48, .inl z0))], [(q7, .inl (cy 2, 2, .inl z0))], [(q8, .inl (cy 0, 240, .inl z0))], [(q9, .inl (cy 0, 8, .inl z0))], [(q10, .inl (cy 0, 8, .inl z0))], [(q11, .inl (cy 0, 12, .inl z0))], [(q12, .inl (cy 0, 6, .inl z0))], [(q13, .inl (cy 0, 6, .inl z0))], [(q14, .inl (cy 0, 12, .inl z0))], [(q15, .inl (cy 1, 4096, .inr (.inl zJ)))], [(q16, .inl (cy 0, 4096, .inl z0))], [(q17, .inl (cy 0, 12, .inl z0))], [(q18, .inl (cy 0, 24, .inl z0))]]) hi_X9_init_X9 tyX9 tyX9_ok nmX9 0 0 33 dX9_init_147 rfl rfl (by decide) fl_X9_init_63 rfl rfl rfl rfl rfl (Nat.le_of_ble_eq_true rfl) rfl ?_
  refine g_aload_n F dX9_init_150 rfl 0 rfl ?_
  refine g_bipush F (v := (12 : Int32)) dX9_init_151 (by decide) ?_
  refine g_newa F (N := 12) (t0 := 0) (ty := .int) (a0 := (12, .inl z0)) dX9_init_153 na_X9_init_int rfl rfl va_RA_i (fun _ => rfl) (by decide) (by decide) (by decide) (by decide) (fun q19 => ?_)
  refine g_putF F Rq (C := RX9) (T := TX9) (N := 36) (ci := 9) (v := .ref q19) (sg' := [[(q, .inr (9, [.int 0, .ref q1, .int 0, .int 0, .int 0, .int 0, .int 0, .int 0, .int 0, .int 0, .ref q2, .ref q3, .ref q4, .ref q5, .ref q6, .ref q7, .ref q8, .int 0, .ref q9, .ref q10, .int 0, .ref q11, .int 0, .ref q12, .ref q13, .int 0, .int 0, .int 0, .int 0, .ref q14, .ref q15, .ref q16, .ref q17, .ref q18, .ref q19, .int 0]))], [(q1, .inl (cy 0, 120, .inl z0))], [(q2, .inl (cy 0, 24, .inl z0))], [(q3, .inl (cy 0, 24, .inl z0))], [(q4, .inl (cy 0, 24, .inl z0))], [(q5, .inl (cy 0, 24, .inl z0))], [(q6, .inl (cy 0, 48, .inl z0))], [(q7, .inl (cy 2, 2, .inl z0))], [(q8, .inl (cy 0, 240, .inl z0))], [(q9, .inl (cy 0, 8, .inl z0))], [(q10, .inl (cy 0, 8, .inl z0))], [(q11, .inl (cy 0, 12, .inl z0))], [(q12, .inl (cy 0, 6, .inl z0))], [(q13, .inl (cy 0, 6, .inl z0))], [(q14, .inl (cy 0, 12, .inl z0))], [(q15, .inl (cy 1, 4096, .inr (.inl zJ)))], [(q16, .inl (cy 0, 4096, .inl z0))], [(q17, .inl (cy 0, 12, .inl z0))], [(q18, .inl (cy 0, 24, .inl z0))], [(q19, .inl (cy 0, 12, .inl z0))]]) hi_X9_init_X9 tyX9 tyX9_ok nmX9 0 0 34 dX9_init_155 rfl rfl (by decide) fl_X9_init_66 rfl rfl rfl rfl rfl (Nat.le_of_ble_eq_true rfl) rfl ?_
  obtain ⟨am, eam⟩ : ∃ am : Nat → Nat, am = (fun k => if k = 0 then q else if k = 2 then q1 else if k = 11 then q2 else if k = 12 then q3 else if k = 13 then q4 else if k = 14 then q5 else if k = 15 then q6 else if k = 16 then q7 else if k = 17 then q8 else if k = 19 then q9 else if k = 20 then q10 else if k = 22 then q11 else if k = 24 then q12 else if k = 25 then q13 else if k = 30 then q14 else if k = 31 then q15 else if k = 32 then q16 else if k = 33 then q17 else if k = 34 then q18 else if k = 35 then q19 else 0) := ⟨_, rfl⟩
  have h0 : am 0 = q := by rw [eam]; rfl
  refine Go.world (sg' := modW cy am z0 z0 z0 z0 z0 z0 z0 z0 z0 z0 z0 z0 z0 z0 z0 zJ z0 z0 z0 z0) (by rw [eam]; rfl) ?_
  clear eam
  obtain ⟨M1, D1, M2, s2, ik2, e1, e2, hM⟩ := mod_fresh
  subst h0
  refine g_aload_n F dX9_init_158 rfl 0 rfl ?_
  refine g_cV F [] 0 0 (ok_X9_begins (gl G) (gD G) cy am z0 z0 (M1, D1) e1) dX9_init_159 rfl rfl gX9_init_X9_begins rfl ⟨rfl, cd_X9_begins⟩ (by decide) rfl (Nat.le_of_ble_eq_true rfl) [0, 2] (by decide) rfl rfl (sg' := modW cy am M1 z0 D1 z0 z0 z0 z0 z0 z0 z0 z0 z0 z0 z0 z0 zJ z0 z0 z0 z0) (st' := []) rfl rfl ?_
  refine g_aload_n F dX9_init_162 rfl 0 rfl ?_
  refine g_cV F [] 0 0 (ok_X9_settles (gl G) (gD G) cy am M1 D1 z0 z0 (M2, s2, ik2) e2) dX9_init_163 rfl rfl gX9_init_X9_settles rfl ⟨rfl, cd_X9_settles⟩ (by decide) rfl (Nat.le_of_ble_eq_true rfl) [0, 2, 3, 7] (by decide) rfl rfl (sg' := modW cy am M2 z0 D1 s2 z0 z0 z0 ik2 z0 z0 z0 z0 z0 z0 z0 zJ z0 z0 z0 z0) (st' := []) rfl rfl ?_
  refine Go.world (flat1 _) ?_
  exact g_vret F Rq ⟨am, M2, D1, s2, ik2, rfl, rfl, hM⟩ dX9_init_166
theorem hi_X6_init_X6 : ∀ w ∈ u_ws RX6 TX6 3, w ∈ wsX6_init := by decide +kernel
theorem ob_X6_init : Cond.methodLink RX6 3 objectInit ∈ wsX6_init ∧ Cond.instanceMethod objectInit ∈ wsX6_init ∧ Cond.code objectInit ⟨#[0xb1]⟩ 1 none ∈ wsX6_init := by decide +kernel
theorem na_X6_init_long : Cond.arrayClass .long ∈ wsX6_init := by decide +kernel
theorem fl_X6_init_9 : Cond.fieldLink RX6 9 "ArcOrder$Tally" "ways" "[J" ∈ wsX6_init := by decide +kernel
theorem fl_X6_init_18 : Cond.fieldLink RX6 18 "ArcOrder$Tally" "counted" "LArcOrder$Net;" ∈ wsX6_init := by decide +kernel
def f0_X6 : List Value := [.null, .null, .int 0]
theorem hn_X6_init : ∀ w ∈ u_ws RX3 TX3 7, w ∈ wsX6_init := by decide +kernel
theorem ne_X6_init : Cond.classLink RX6 15 RX3 ∈ wsX6_init ∧ Cond.instantiable RX3 7 ∈ wsX6_init ∧ Cond.initialized RX3 ∈ wsX6_init ∧ Cond.methodLink RX6 17 yX3_init ∈ wsX6_init ∧ Cond.instanceMethod yX3_init ∈ wsX6_init := by decide +kernel
abbrev rm_X6_init : Room := { frames := 2, cells := 7, slots := 4163, locals := 80 }
def xTal (cy : Nat → ClassId) (q : Nat) (z : List va_W) : Prop := ∃ (a : Nat → Nat) (N : NetS), a 0 = q ∧ z = [[sTal cy a (0, zJ), sNet cy (fun k => a (200 + k)) N].flatten]
set_option maxHeartbeats 8000000 in
set_option maxRecDepth 100000 in
theorem ok_X6_init (l : Launch) (D : va_G) (cy : Nat → ClassId) (q : Nat) : OKx l D cy yX6_init wsX6_init rm_X6_init [.ref q] [[(q, .inr (6, f0_X6))]] none (xTal cy q) 7 4163 := by
  refine OKx.of (cc := cX6_init) (maxL := 1) (ret := none) (by decide) rfl (Nat.le_of_ble_eq_true rfl) (fun G F Rq => ?_)
  show Go G 0 0 0 [(0, .ref q)] [] [[(q, .inr (6, f0_X6))]]
  replace F : Fx G cX6_init wsX6_init RX6 cy 1 (rm_X6_init) := F
  replace Rq : Rx G "<init>" none none (xTal cy q) 7 4163 := Rq
  refine g_aload_n F dX6_init_0 rfl 0 rfl ?_
  refine g_obj F dX6_init_1 ob_X6_init (by decide) ?_
  refine g_aload_n F dX6_init_4 rfl 0 rfl ?_
  refine g_sipush F (v := (4096 : Int32)) dX6_init_5 (by decide) ?_
  refine g_newa F (N := 4096) (t0 := 1) (ty := .long) (a0 := (4096, .inr (.inl zJ))) dX6_init_8 na_X6_init_long rfl rfl va_RA_l (fun _ => rfl) (by decide) (by decide) (by decide) (by decide) (fun q1 => ?_)
  refine g_putF F Rq (C := RX6) (T := TX6) (N := 3) (ci := 6) (v := .ref q1) (sg' := [[(q, .inr (6, [.ref q1, .null, .int 0]))], [(q1, .inl (cy 1, 4096, .inr (.inl zJ)))]]) hi_X6_init_X6 tyX6 tyX6_ok nmX6 0 0 0 dX6_init_10 rfl rfl (by decide) fl_X6_init_9 rfl rfl rfl rfl rfl (Nat.le_of_ble_eq_true rfl) rfl ?_
  refine g_aload_n F dX6_init_13 rfl 0 rfl ?_
  refine g_new F (C := RX3) (T := TX3) (N := 7) (ci := 3) (fs := f0_X3) hn_X6_init tyX3 tyX3_ok dX6_init_14 rfl ne_X6_init.1 ne_X6_init.2.1 ne_X6_init.2.2.1 (by decide) (by decide) (fun q2 => ?_)
  refine g_dup F dX6_init_17 rfl ?_
  refine g_callI F (st := [.ref q2, .ref q]) [] (ok_X3_init (gl G) (gD G) cy q2) dX6_init_18 gX6_init_X3_init rfl rfl ne_X6_init.2.2.1 ne_X6_init.2.2.2.1 ne_X6_init.2.2.2.2 rfl cd_X3_init (by decide) rfl (Nat.le_of_ble_eq_true rfl) [2] (by decide) rfl (fun cs hX => ?_)
  obtain ⟨a2, N2, rfl, rfl, -⟩ := hX
  refine ⟨rfl, ?_⟩
  refine g_putF F Rq (C := RX6) (T := TX6) (N := 3) (ci := 6) (v := .ref (a2 0)) (sg' := [[(q, .inr (6, [.ref q1, .ref (a2 0), .int 0]))], [(q1, .inl (cy 1, 4096, .inr (.inl zJ)))], sNet cy a2 N2]) hi_X6_init_X6 tyX6 tyX6_ok nmX6 0 0 1 dX6_init_21 rfl rfl (by decide) fl_X6_init_18 rfl rfl rfl rfl rfl (Nat.le_of_ble_eq_true rfl) rfl ?_
  refine Go.world (sg' := [[sTal cy (fun k => if k = 0 then q else if k = 1 then q1 else a2 (k - 200)) (0, zJ), sNet cy (fun k => (fun k => if k = 0 then q else if k = 1 then q1 else a2 (k - 200)) (200 + k)) N2].flatten]) rfl ?_
  exact g_vret F Rq ⟨(fun k => if k = 0 then q else if k = 1 then q1 else a2 (k - 200)), N2, rfl, rfl⟩ dX6_init_24
