abbrev rm_X9_in : Room := { frames := 0, cells := 0, slots := 0, locals := 0 }
set_option maxHeartbeats 4000000 in
set_option maxRecDepth 100000 in
theorem ok_X9_in (l : Launch) (D : va_G) (cy : Nat → ClassId)    (x0 : Int32) (x1 : Int32) (x2 : Int32) (out : Int32) (h : f_X9_in x0 x1 x2 = some out) : OK l D cy yX9_in wsX9_in rm_X9_in [.int x0, .int x1, .int x2] [] (some (.int out)) [] := by
  refine OKx.of (cc := cX9_in) (maxL := 3) (ret := (some .boolean)) (by decide) rfl (Nat.le_of_ble_eq_true rfl) (fun G F Rq => ?_)
  show Go G 0 0 0 [(0, .int x0), (1, .int x1), (2, .int x2)] [] []
  replace F : Fx G cX9_in wsX9_in RX9 cy 3 (rm_X9_in) := F
  replace Rq : Rx G "in" (some .boolean) (some (.int out)) (fun z => z = []) 0 0 := Rq
  unfold f_X9_in at h
  refine g_iload_n F dX9_in_0 rfl 0 rfl ?_
  refine g_iload_n F dX9_in_1 rfl 1 rfl ?_
  refine g_icmp_lt F 14 h dX9_in_2 (by decide) (fun h => ?_) (fun h => ?_)
  · refine g_iconst F (v := (0 : Int32)) dX9_in_14 (by decide) ?_
    obtain rfl := Option.some.inj h
    exact g_zret F Rq rfl rfl dX9_in_15
  · refine g_iload_n F dX9_in_5 rfl 0 rfl ?_
    refine g_iload_n F dX9_in_6 rfl 2 rfl ?_
    refine g_icmp_gt F 14 h dX9_in_7 (by decide) (fun h => ?_) (fun h => ?_)
    · refine g_iconst F (v := (0 : Int32)) dX9_in_14 (by decide) ?_
      obtain rfl := Option.some.inj h
      exact g_zret F Rq rfl rfl dX9_in_15
    · refine g_iconst F (v := (1 : Int32)) dX9_in_10 (by decide) ?_
      refine g_goto F 15 dX9_in_11 (by decide) ?_
      obtain rfl := Option.some.inj h
      exact g_zret F Rq rfl rfl dX9_in_15
abbrev rm_X9_has : Room := { frames := 0, cells := 0, slots := 0, locals := 0 }
set_option maxHeartbeats 4000000 in
set_option maxRecDepth 100000 in
theorem ok_X9_has (l : Launch) (D : va_G) (cy : Nat → ClassId)    (x0 : Int32) (x1 : Int32) (out : Int32) (h : f_X9_has x0 x1 = some out) : OK l D cy yX9_has wsX9_has rm_X9_has [.int x0, .int x1] [] (some (.int out)) [] := by
  refine OKx.of (cc := cX9_has) (maxL := 2) (ret := (some .boolean)) (by decide) rfl (Nat.le_of_ble_eq_true rfl) (fun G F Rq => ?_)
  show Go G 0 0 0 [(0, .int x0), (1, .int x1)] [] []
  replace F : Fx G cX9_has wsX9_has RX9 cy 2 (rm_X9_has) := F
  replace Rq : Rx G "has" (some .boolean) (some (.int out)) (fun z => z = []) 0 0 := Rq
  unfold f_X9_has at h
  refine g_iload_n F dX9_has_0 rfl 0 rfl ?_
  refine g_iload_n F dX9_has_1 rfl 1 rfl ?_
  refine g_ishr F dX9_has_2 ?_
  refine g_iconst F (v := (1 : Int32)) dX9_has_3 (by decide) ?_
  refine g_iand F dX9_has_4 ?_
  refine g_iconst F (v := (1 : Int32)) dX9_has_5 (by decide) ?_
  refine g_icmp_ne F 13 h dX9_has_6 (by decide) (fun h => ?_) (fun h => ?_)
  · refine g_iconst F (v := (0 : Int32)) dX9_has_13 (by decide) ?_
    obtain rfl := Option.some.inj h
    exact g_zret F Rq rfl rfl dX9_has_14
  · refine g_iconst F (v := (1 : Int32)) dX9_has_9 (by decide) ?_
    refine g_goto F 14 dX9_has_10 (by decide) ?_
    obtain rfl := Option.some.inj h
    exact g_zret F Rq rfl rfl dX9_has_14
abbrev rm_X9_ones : Room := { frames := 0, cells := 0, slots := 0, locals := 0 }
set_option maxHeartbeats 4000000 in
set_option maxRecDepth 100000 in
theorem k_X9_ones_4_ok {G : GX} {cy : Nat → ClassId}     {out : Int32} (F : Fx G cX9_ones wsX9_ones RX9 cy 3 (rm_X9_ones)) (Rq : Rx G "ones" (some .int) (some (.int out)) (fun z => z = []) 0 0) (ke : Int32 → Option (Int32)) (hke : ∀ (x1 : Int32) , ke x1 = some out → Go G 0 0 20 [(1, .int x1)] [] []) : ∀ (n : Nat) (x1 : Int32) (x2 : Int32) , k_X9_ones_4 ke n x1 x2 = some out → Go G 0 0 4 [(1, .int x1), (2, .int x2)] [] [] := by
  intro n
  induction n with
  | zero =>
    intro x1 x2 h
    exact nosome h
  | succ n ih =>
    intro x1 x2 h
    rw [k_X9_ones_4.eq_2] at h
    refine g_iload_n F dX9_ones_4 rfl 1 rfl ?_
    refine g_if_eq F 20 h dX9_ones_5 (by decide) (fun h => ?_) (fun h => ?_)
    · refine Go.sub (lv' := [(1, .int x1)]) [0] rfl ?_
      exact hke x1 h
    · refine g_iinc F (v := (x1 + 1)) (lv' := [(1, .int (x1 + 1)), (2, .int x2)]) dX9_ones_8 0 rfl rfl (by decide) rfl ?_
      refine g_iload_n F dX9_ones_11 rfl 1 rfl ?_
      refine g_iload_n F dX9_ones_12 rfl 1 rfl ?_
      refine g_iconst F (v := (1 : Int32)) dX9_ones_13 (by decide) ?_
      refine g_isub F dX9_ones_14 ?_
      refine g_iand F dX9_ones_15 ?_
      refine g_istore_n F (lv' := [(2, .int (x2 &&& (x2 - (1 : Int32)))), (1, .int (x1 + 1))]) dX9_ones_16 rfl (by decide) rfl ?_
      refine g_goto F 4 dX9_ones_17 (by decide) ?_
      refine Go.sub (lv' := [(1, .int (x1 + 1)), (2, .int (x2 &&& (x2 - (1 : Int32))))]) [1, 0] rfl ?_
      exact ih (x1 + 1) (x2 &&& (x2 - (1 : Int32))) h
set_option maxHeartbeats 4000000 in
set_option maxRecDepth 100000 in
theorem ok_X9_ones (l : Launch) (D : va_G) (cy : Nat → ClassId)    (x0 : Int32) (out : Int32) (h : f_X9_ones x0 = some out) : OK l D cy yX9_ones wsX9_ones rm_X9_ones [.int x0] [] (some (.int out)) [] := by
  refine OKx.of (cc := cX9_ones) (maxL := 3) (ret := (some .int)) (by decide) rfl (Nat.le_of_ble_eq_true rfl) (fun G F Rq => ?_)
  show Go G 0 0 0 [(0, .int x0)] [] []
  replace F : Fx G cX9_ones wsX9_ones RX9 cy 3 (rm_X9_ones) := F
  replace Rq : Rx G "ones" (some .int) (some (.int out)) (fun z => z = []) 0 0 := Rq
  unfold f_X9_ones at h
  refine g_iconst F (v := (0 : Int32)) dX9_ones_0 (by decide) ?_
  refine g_istore_n F (lv' := [(1, .int (0 : Int32)), (0, .int x0)]) dX9_ones_1 rfl (by decide) rfl ?_
  refine g_iload_n F dX9_ones_2 rfl 1 rfl ?_
  refine g_istore_n F (lv' := [(2, .int x0), (1, .int (0 : Int32)), (0, .int x0)]) dX9_ones_3 rfl (by decide) rfl ?_
  refine Go.sub (lv' := [(1, .int (0 : Int32)), (2, .int x0)]) [1, 0] rfl ?_
  refine k_X9_ones_4_ok   F Rq _ (fun x1_1 h => ?_) _ (0 : Int32) x0 h
  refine g_iload_n F dX9_ones_20 rfl 0 rfl ?_
  obtain rfl := Option.some.inj h
  exact g_iret F Rq rfl dX9_ones_21
theorem hi_X9_type_X9 : ∀ w ∈ u_ws RX9 TX9 36, w ∈ wsX9_type := by decide +kernel
theorem fl_X9_type_75 : Cond.fieldLink RX9 75 "ArcOrderModel" "thrown" "I" ∈ wsX9_type := by decide +kernel
theorem fl_X9_type_83 : Cond.fieldLink RX9 83 "ArcOrderModel" "typed" "I" ∈ wsX9_type := by decide +kernel
theorem fl_X9_type_7 : Cond.fieldLink RX9 7 "ArcOrderModel" "text" "[I" ∈ wsX9_type := by decide +kernel
abbrev rm_X9_type : Room := { frames := 1, cells := 0, slots := 0, locals := 22 }
set_option maxHeartbeats 4000000 in
set_option maxRecDepth 100000 in
theorem ok_X9_type (l : Launch) (D : va_G) (cy : Nat → ClassId) (am : Nat → Nat)  (Mm : ModS) (m_text : (Nat → Int32)) (x1 : Int32) (out : Int32 × ModS × (Nat → Int32)) (h : f_X9_type Mm m_text x1 = some out) : OK l D cy yX9_type wsX9_type rm_X9_type [.ref (am 0), .int x1] [(sMod cy am Mm), (sI cy (am 2) 120 m_text)] (some (.int out.1)) [(sMod cy am out.2.1), (sI cy (am 2) 120 out.2.2)] := by
  refine OKx.of (cc := cX9_type) (maxL := 2) (ret := (some .int)) (by decide) rfl (Nat.le_of_ble_eq_true rfl) (fun G F Rq => ?_)
  show Go G 0 0 0 [(0, .ref (am 0)), (1, .int x1)] [] [(sMod cy am Mm), (sI cy (am 2) 120 m_text)]
  replace F : Fx G cX9_type wsX9_type RX9 cy 2 (rm_X9_type) := F
  replace Rq : Rx G "type" (some .int) (some (.int out.1)) (fun z => z = [(sMod cy am out.2.1), (sI cy (am 2) 120 out.2.2)]) 0 0 := Rq
  unfold f_X9_type at h
  refine g_aload_n F dX9_type_0 rfl 0 rfl ?_
  refine g_iconst F (v := (0 : Int32)) dX9_type_1 (by decide) ?_
  refine g_put F (C := RX9) (T := TX9) (N := 36) (ci := 9) (v := .int (0 : Int32)) (ty := .int) (sg' := [(sMod cy am (upd Mm 0 (0 : Int32))), (sI cy (am 2) 120 m_text)]) hi_X9_type_X9 tyX9 tyX9_ok nmX9 0 0 0 dX9_type_2 rfl rfl (by decide) fl_X9_type_75 rfl rfl rfl rfl (Nat.le_of_ble_eq_true rfl) rfl ?_
  refine g_iload_n F dX9_type_5 rfl 1 rfl ?_
  refine g_iconst F (v := (0 : Int32)) dX9_type_6 (by decide) ?_
  refine g_sipush F (v := (255 : Int32)) dX9_type_7 (by decide) ?_
  obtain ⟨r1, hr1, h⟩ := bnd h
  refine g_cS F [.int x1, .int (0 : Int32), .int (255 : Int32)] (ok_X9_in (gl G) (gD G) cy x1 (0 : Int32) (255 : Int32) r1 hr1) dX9_type_10 gX9_type_X9_in rfl cd_X9_in (by decide) rfl (Nat.le_of_ble_eq_true rfl) [] (by decide) rfl rfl (sg' := [(sMod cy am (upd Mm 0 (0 : Int32))), (sI cy (am 2) 120 m_text)]) (st' := [.int r1]) rfl rfl ?_
  refine g_if_ne F 18 h dX9_type_13 (by decide) (fun h => ?_) (fun h => ?_)
  · refine g_aload_n F dX9_type_18 rfl 0 rfl ?_
    refine g_get F (C := RX9) (T := TX9) (N := 36) (ci := 9) (v := .int (Mm 2)) hi_X9_type_X9 0 0 2 dX9_type_19 rfl rfl (by decide) fl_X9_type_83 rfl ?_
    refine g_bipush F (v := (120 : Int32)) dX9_type_22 (by decide) ?_
    refine g_icmp_ne F 30 h dX9_type_24 (by decide) (fun h => ?_) (fun h => ?_)
    · refine g_aload_n F dX9_type_30 rfl 0 rfl ?_
      refine g_get F (C := RX9) (T := TX9) (N := 36) (ci := 9) (v := .ref (am 2)) hi_X9_type_X9 0 0 1 dX9_type_31 rfl rfl (by decide) fl_X9_type_7 rfl ?_
      refine g_aload_n F dX9_type_34 rfl 0 rfl ?_
      refine g_get F (C := RX9) (T := TX9) (N := 36) (ci := 9) (v := .int (Mm 2)) hi_X9_type_X9 0 0 2 dX9_type_35 rfl rfl (by decide) fl_X9_type_83 rfl ?_
      refine g_iload_n F dX9_type_38 rfl 1 rfl ?_
      refine g_iastore F h (sg' := [(sMod cy am (upd Mm 0 (0 : Int32))), (sI cy (am 2) 120 (upd m_text ((Mm 2)).toNatClampNeg x1))]) 1 0 dX9_type_39 rfl rfl (fun h => ?_)
      refine g_aload_n F dX9_type_40 rfl 0 rfl ?_
      refine g_dup F dX9_type_41 rfl ?_
      refine g_get F (C := RX9) (T := TX9) (N := 36) (ci := 9) (v := .int (Mm 2)) hi_X9_type_X9 0 0 2 dX9_type_42 rfl rfl (by decide) fl_X9_type_83 rfl ?_
      refine g_iconst F (v := (1 : Int32)) dX9_type_45 (by decide) ?_
      refine g_iadd F dX9_type_46 ?_
      refine g_put F (C := RX9) (T := TX9) (N := 36) (ci := 9) (v := .int ((Mm 2) + (1 : Int32))) (ty := .int) (sg' := [(sMod cy am (upd (upd Mm 0 (0 : Int32)) 2 ((Mm 2) + (1 : Int32)))), (sI cy (am 2) 120 (upd m_text ((Mm 2)).toNatClampNeg x1))]) hi_X9_type_X9 tyX9 tyX9_ok nmX9 0 0 2 dX9_type_47 rfl rfl (by decide) fl_X9_type_83 rfl rfl rfl rfl (Nat.le_of_ble_eq_true rfl) rfl ?_
      refine g_aload_n F dX9_type_50 rfl 0 rfl ?_
      refine g_get F (C := RX9) (T := TX9) (N := 36) (ci := 9) (v := .int ((Mm 2) + (1 : Int32))) hi_X9_type_X9 0 0 2 dX9_type_51 rfl rfl (by decide) fl_X9_type_83 rfl ?_
      obtain rfl := Option.some.inj h
      exact g_iret F Rq rfl dX9_type_54
    · refine g_bipush F (v := (-3 : Int32)) dX9_type_27 (by decide) ?_
      obtain rfl := Option.some.inj h
      exact g_iret F Rq rfl dX9_type_29
  · refine g_iconst F (v := (-1 : Int32)) dX9_type_16 (by decide) ?_
    obtain rfl := Option.some.inj h
    exact g_iret F Rq rfl dX9_type_17
theorem hi_X9_clear_X9 : ∀ w ∈ u_ws RX9 TX9 36, w ∈ wsX9_clear := by decide +kernel
theorem fl_X9_clear_75 : Cond.fieldLink RX9 75 "ArcOrderModel" "thrown" "I" ∈ wsX9_clear := by decide +kernel
theorem fl_X9_clear_83 : Cond.fieldLink RX9 83 "ArcOrderModel" "typed" "I" ∈ wsX9_clear := by decide +kernel
abbrev rm_X9_clear : Room := { frames := 0, cells := 0, slots := 0, locals := 0 }
set_option maxHeartbeats 4000000 in
set_option maxRecDepth 100000 in
theorem ok_X9_clear (l : Launch) (D : va_G) (cy : Nat → ClassId) (am : Nat → Nat)  (Mm : ModS)  (out : Int32 × ModS) (h : f_X9_clear Mm = some out) : OK l D cy yX9_clear wsX9_clear rm_X9_clear [.ref (am 0)] [(sMod cy am Mm)] (some (.int out.1)) [(sMod cy am out.2)] := by
  refine OKx.of (cc := cX9_clear) (maxL := 2) (ret := (some .int)) (by decide) rfl (Nat.le_of_ble_eq_true rfl) (fun G F Rq => ?_)
  show Go G 0 0 0 [(0, .ref (am 0))] [] [(sMod cy am Mm)]
  replace F : Fx G cX9_clear wsX9_clear RX9 cy 2 (rm_X9_clear) := F
  replace Rq : Rx G "clear" (some .int) (some (.int out.1)) (fun z => z = [(sMod cy am out.2)]) 0 0 := Rq
  unfold f_X9_clear at h
  refine g_aload_n F dX9_clear_0 rfl 0 rfl ?_
  refine g_iconst F (v := (0 : Int32)) dX9_clear_1 (by decide) ?_
  refine g_put F (C := RX9) (T := TX9) (N := 36) (ci := 9) (v := .int (0 : Int32)) (ty := .int) (sg' := [(sMod cy am (upd Mm 0 (0 : Int32)))]) hi_X9_clear_X9 tyX9 tyX9_ok nmX9 0 0 0 dX9_clear_2 rfl rfl (by decide) fl_X9_clear_75 rfl rfl rfl rfl (Nat.le_of_ble_eq_true rfl) rfl ?_
  refine g_aload_n F dX9_clear_5 rfl 0 rfl ?_
  refine g_get F (C := RX9) (T := TX9) (N := 36) (ci := 9) (v := .int (Mm 2)) hi_X9_clear_X9 0 0 2 dX9_clear_6 rfl rfl (by decide) fl_X9_clear_83 rfl ?_
  refine g_istore_n F (lv' := [(1, .int (Mm 2)), (0, .ref (am 0))]) dX9_clear_9 rfl (by decide) rfl ?_
  refine g_aload_n F dX9_clear_10 rfl 1 rfl ?_
  refine g_iconst F (v := (0 : Int32)) dX9_clear_11 (by decide) ?_
  refine g_put F (C := RX9) (T := TX9) (N := 36) (ci := 9) (v := .int (0 : Int32)) (ty := .int) (sg' := [(sMod cy am (upd (upd Mm 0 (0 : Int32)) 2 (0 : Int32)))]) hi_X9_clear_X9 tyX9 tyX9_ok nmX9 0 0 2 dX9_clear_12 rfl rfl (by decide) fl_X9_clear_83 rfl rfl rfl rfl (Nat.le_of_ble_eq_true rfl) rfl ?_
  refine g_iload_n F dX9_clear_15 rfl 0 rfl ?_
  obtain rfl := Option.some.inj h
  exact g_iret F Rq rfl dX9_clear_16
theorem hi_X9_letterAt_X9 : ∀ w ∈ u_ws RX9 TX9 36, w ∈ wsX9_letterAt := by decide +kernel
theorem fl_X9_letterAt_83 : Cond.fieldLink RX9 83 "ArcOrderModel" "typed" "I" ∈ wsX9_letterAt := by decide +kernel
theorem fl_X9_letterAt_7 : Cond.fieldLink RX9 7 "ArcOrderModel" "text" "[I" ∈ wsX9_letterAt := by decide +kernel
abbrev rm_X9_letterAt : Room := { frames := 0, cells := 0, slots := 0, locals := 0 }
set_option maxHeartbeats 4000000 in
set_option maxRecDepth 100000 in
theorem ok_X9_letterAt (l : Launch) (D : va_G) (cy : Nat → ClassId) (am : Nat → Nat)  (Mm : ModS) (m_text : (Nat → Int32)) (x1 : Int32) (out : Int32) (h : f_X9_letterAt Mm m_text x1 = some out) : OK l D cy yX9_letterAt wsX9_letterAt rm_X9_letterAt [.ref (am 0), .int x1] [(sMod cy am Mm), (sI cy (am 2) 120 m_text)] (some (.int out)) [(sMod cy am Mm), (sI cy (am 2) 120 m_text)] := by
  refine OKx.of (cc := cX9_letterAt) (maxL := 2) (ret := (some .int)) (by decide) rfl (Nat.le_of_ble_eq_true rfl) (fun G F Rq => ?_)
  show Go G 0 0 0 [(0, .ref (am 0)), (1, .int x1)] [] [(sMod cy am Mm), (sI cy (am 2) 120 m_text)]
  replace F : Fx G cX9_letterAt wsX9_letterAt RX9 cy 2 (rm_X9_letterAt) := F
  replace Rq : Rx G "letterAt" (some .int) (some (.int out)) (fun z => z = [(sMod cy am Mm), (sI cy (am 2) 120 m_text)]) 0 0 := Rq
  unfold f_X9_letterAt at h
  refine g_iload_n F dX9_letterAt_0 rfl 1 rfl ?_
  refine g_aload_n F dX9_letterAt_1 rfl 0 rfl ?_
  refine g_get F (C := RX9) (T := TX9) (N := 36) (ci := 9) (v := .int (Mm 2)) hi_X9_letterAt_X9 0 0 2 dX9_letterAt_2 rfl rfl (by decide) fl_X9_letterAt_83 rfl ?_
  refine g_icmp_ge F 17 h dX9_letterAt_5 (by decide) (fun h => ?_) (fun h => ?_)
  · refine g_iconst F (v := (-1 : Int32)) dX9_letterAt_17 (by decide) ?_
    obtain rfl := Option.some.inj h
    exact g_iret F Rq rfl dX9_letterAt_18
  · refine g_aload_n F dX9_letterAt_8 rfl 0 rfl ?_
    refine g_get F (C := RX9) (T := TX9) (N := 36) (ci := 9) (v := .ref (am 2)) hi_X9_letterAt_X9 0 0 1 dX9_letterAt_9 rfl rfl (by decide) fl_X9_letterAt_7 rfl ?_
    refine g_iload_n F dX9_letterAt_12 rfl 1 rfl ?_
    refine g_iaload F h 1 0 dX9_letterAt_13 rfl (fun h => ?_)
    refine g_goto F 18 dX9_letterAt_14 (by decide) ?_
    obtain rfl := Option.some.inj h
    exact g_iret F Rq rfl dX9_letterAt_18
theorem hi_X9_advances_X9 : ∀ w ∈ u_ws RX9 TX9 36, w ∈ wsX9_advances := by decide +kernel
theorem fl_X9_advances_86 : Cond.fieldLink RX9 86 "ArcOrderModel" "spot" "I" ∈ wsX9_advances := by decide +kernel
theorem fl_X9_advances_93 : Cond.fieldLink RX9 93 "ArcOrderModel" "start" "I" ∈ wsX9_advances := by decide +kernel
theorem fl_X9_advances_99 : Cond.fieldLink RX9 99 "ArcOrderModel" "value" "I" ∈ wsX9_advances := by decide +kernel
theorem fl_X9_advances_96 : Cond.fieldLink RX9 96 "ArcOrderModel" "token" "I" ∈ wsX9_advances := by decide +kernel
abbrev rm_X9_advances : Room := { frames := 1, cells := 0, slots := 0, locals := 22 }
set_option maxHeartbeats 4000000 in
set_option maxRecDepth 100000 in
theorem k_X9_advances_0_ok {G : GX} {cy : Nat → ClassId} (am : Nat → Nat)   (m_text : (Nat → Int32)) {out : ModS} (F : Fx G cX9_advances wsX9_advances RX9 cy 2 (rm_X9_advances)) (Rq : Rx G "advances" none none (fun z => z = [(sMod cy am out), (sI cy (am 2) 120 m_text)]) 0 0) (ke : ModS → Option (ModS)) (hke : ∀  (Mm : ModS), ke Mm = some out → Go G 0 0 26 [(0, .ref (am 0))] [] [(sMod cy am Mm), (sI cy (am 2) 120 m_text)]) : ∀ (n : Nat)  (Mm : ModS), k_X9_advances_0 m_text ke n Mm = some out → Go G 0 0 0 [(0, .ref (am 0))] [] [(sMod cy am Mm), (sI cy (am 2) 120 m_text)] := by
  intro n
  induction n with
  | zero =>
    intro Mm h
    exact nosome h
  | succ n ih =>
    intro Mm h
    rw [k_X9_advances_0.eq_2] at h
    refine g_aload_n F dX9_advances_0 rfl 0 rfl ?_
    refine g_aload_n F dX9_advances_1 rfl 0 rfl ?_
    refine g_get F (C := RX9) (T := TX9) (N := 36) (ci := 9) (v := .int (Mm 3)) hi_X9_advances_X9 0 0 3 dX9_advances_2 rfl rfl (by decide) fl_X9_advances_86 rfl ?_
    obtain ⟨r1, hr1, h⟩ := bnd h
    refine g_cV F [.int (Mm 3)] 0 0 (ok_X9_letterAt (gl G) (gD G) cy am Mm m_text (Mm 3) r1 hr1) dX9_advances_5 rfl rfl gX9_advances_X9_letterAt rfl ⟨rfl, cd_X9_letterAt⟩ (by decide) rfl (Nat.le_of_ble_eq_true rfl) [0, 1] (by decide) rfl rfl (sg' := [(sMod cy am Mm), (sI cy (am 2) 120 m_text)]) (st' := [.int r1]) rfl rfl ?_
    refine g_bipush F (v := (32 : Int32)) dX9_advances_8 (by decide) ?_
    refine g_icmp_ne F 26 h dX9_advances_10 (by decide) (fun h => ?_) (fun h => ?_)
    · refine Go.sub (lv' := [(0, .ref (am 0))]) [0] rfl ?_
      exact hke Mm h
    · refine g_aload_n F dX9_advances_13 rfl 0 rfl ?_
      refine g_dup F dX9_advances_14 rfl ?_
      refine g_get F (C := RX9) (T := TX9) (N := 36) (ci := 9) (v := .int (Mm 3)) hi_X9_advances_X9 0 0 3 dX9_advances_15 rfl rfl (by decide) fl_X9_advances_86 rfl ?_
      refine g_iconst F (v := (1 : Int32)) dX9_advances_18 (by decide) ?_
      refine g_iadd F dX9_advances_19 ?_
      refine g_put F (C := RX9) (T := TX9) (N := 36) (ci := 9) (v := .int ((Mm 3) + (1 : Int32))) (ty := .int) (sg' := [(sMod cy am (upd Mm 3 ((Mm 3) + (1 : Int32)))), (sI cy (am 2) 120 m_text)]) hi_X9_advances_X9 tyX9 tyX9_ok nmX9 0 0 3 dX9_advances_20 rfl rfl (by decide) fl_X9_advances_86 rfl rfl rfl rfl (Nat.le_of_ble_eq_true rfl) rfl ?_
      refine g_goto F 0 dX9_advances_23 (by decide) ?_
      refine Go.sub (lv' := [(0, .ref (am 0))]) [0] rfl ?_
      exact ih (upd Mm 3 ((Mm 3) + (1 : Int32))) h
set_option maxHeartbeats 4000000 in
set_option maxRecDepth 100000 in
theorem k_X9_advances_71_ok {G : GX} {cy : Nat → ClassId} (am : Nat → Nat)  (x1 : Int32) (m_text : (Nat → Int32)) {out : ModS} (F : Fx G cX9_advances wsX9_advances RX9 cy 2 (rm_X9_advances)) (Rq : Rx G "advances" none none (fun z => z = [(sMod cy am out), (sI cy (am 2) 120 m_text)]) 0 0) (ke : ModS → Option (ModS)) (hke : ∀  (Mm : ModS), ke Mm = some out → Go G 0 0 141 [(0, .ref (am 0)), (1, .int x1)] [] [(sMod cy am Mm), (sI cy (am 2) 120 m_text)]) : ∀ (n : Nat)  (Mm : ModS), k_X9_advances_71 x1 m_text ke n Mm = some out → Go G 0 0 71 [(0, .ref (am 0)), (1, .int x1)] [] [(sMod cy am Mm), (sI cy (am 2) 120 m_text)] := by
  intro n
  induction n with
  | zero =>
    intro Mm h
    exact nosome h
  | succ n ih =>
    intro Mm h
    rw [k_X9_advances_71.eq_2] at h
    refine g_aload_n F dX9_advances_71 rfl 0 rfl ?_
    refine g_aload_n F dX9_advances_72 rfl 0 rfl ?_
    refine g_get F (C := RX9) (T := TX9) (N := 36) (ci := 9) (v := .int (Mm 3)) hi_X9_advances_X9 0 0 3 dX9_advances_73 rfl rfl (by decide) fl_X9_advances_86 rfl ?_
    obtain ⟨r5, hr5, h⟩ := bnd h
    refine g_cV F [.int (Mm 3)] 0 0 (ok_X9_letterAt (gl G) (gD G) cy am Mm m_text (Mm 3) r5 hr5) dX9_advances_76 rfl rfl gX9_advances_X9_letterAt rfl ⟨rfl, cd_X9_letterAt⟩ (by decide) rfl (Nat.le_of_ble_eq_true rfl) [0, 1] (by decide) rfl rfl (sg' := [(sMod cy am Mm), (sI cy (am 2) 120 m_text)]) (st' := [.int r5]) rfl rfl ?_
    refine g_bipush F (v := (48 : Int32)) dX9_advances_79 (by decide) ?_
    refine g_bipush F (v := (57 : Int32)) dX9_advances_81 (by decide) ?_
    obtain ⟨r6, hr6, h⟩ := bnd h
    refine g_cS F [.int r5, .int (48 : Int32), .int (57 : Int32)] (ok_X9_in (gl G) (gD G) cy r5 (48 : Int32) (57 : Int32) r6 hr6) dX9_advances_83 gX9_advances_X9_in rfl cd_X9_in (by decide) rfl (Nat.le_of_ble_eq_true rfl) [] (by decide) rfl rfl (sg' := [(sMod cy am Mm), (sI cy (am 2) 120 m_text)]) (st' := [.int r6]) rfl rfl ?_
    refine g_if_eq F 141 h dX9_advances_86 (by decide) (fun h => ?_) (fun h => ?_)
    · refine Go.sub (lv' := [(0, .ref (am 0)), (1, .int x1)]) [0, 1] rfl ?_
      exact hke Mm h
    · refine g_aload_n F dX9_advances_89 rfl 0 rfl ?_
      refine g_aload_n F dX9_advances_90 rfl 0 rfl ?_
      refine g_get F (C := RX9) (T := TX9) (N := 36) (ci := 9) (v := .int (Mm 6)) hi_X9_advances_X9 0 0 6 dX9_advances_91 rfl rfl (by decide) fl_X9_advances_99 rfl ?_
      refine g_bipush F (v := (99 : Int32)) dX9_advances_94 (by decide) ?_
      refine g_icmp_le F 106 h dX9_advances_96 (by decide) (fun h => ?_) (fun h => ?_)
      · refine g_bipush F (v := (10 : Int32)) dX9_advances_106 (by decide) ?_
        refine g_aload_n F dX9_advances_108 rfl 0 rfl ?_
        refine g_get F (C := RX9) (T := TX9) (N := 36) (ci := 9) (v := .int (Mm 6)) hi_X9_advances_X9 0 0 6 dX9_advances_109 rfl rfl (by decide) fl_X9_advances_99 rfl ?_
        refine g_imul F dX9_advances_112 ?_
        refine g_aload_n F dX9_advances_113 rfl 0 rfl ?_
        refine g_aload_n F dX9_advances_114 rfl 0 rfl ?_
        refine g_get F (C := RX9) (T := TX9) (N := 36) (ci := 9) (v := .int (Mm 3)) hi_X9_advances_X9 0 0 3 dX9_advances_115 rfl rfl (by decide) fl_X9_advances_86 rfl ?_
        obtain ⟨r7, hr7, h⟩ := bnd h
        refine g_cV F [.int (Mm 3)] 0 0 (ok_X9_letterAt (gl G) (gD G) cy am Mm m_text (Mm 3) r7 hr7) dX9_advances_118 rfl rfl gX9_advances_X9_letterAt rfl ⟨rfl, cd_X9_letterAt⟩ (by decide) rfl (Nat.le_of_ble_eq_true rfl) [0, 1] (by decide) rfl rfl (sg' := [(sMod cy am Mm), (sI cy (am 2) 120 m_text)]) (st' := [.int r7, .int ((10 : Int32) * (Mm 6)), .ref (am 0)]) rfl rfl ?_
        refine g_iadd F dX9_advances_121 ?_
        refine g_bipush F (v := (48 : Int32)) dX9_advances_122 (by decide) ?_
        refine g_isub F dX9_advances_124 ?_
        refine g_put F (C := RX9) (T := TX9) (N := 36) (ci := 9) (v := .int ((((10 : Int32) * (Mm 6)) + r7) - (48 : Int32))) (ty := .int) (sg' := [(sMod cy am (upd Mm 6 ((((10 : Int32) * (Mm 6)) + r7) - (48 : Int32)))), (sI cy (am 2) 120 m_text)]) hi_X9_advances_X9 tyX9 tyX9_ok nmX9 0 0 6 dX9_advances_125 rfl rfl (by decide) fl_X9_advances_99 rfl rfl rfl rfl (Nat.le_of_ble_eq_true rfl) rfl ?_
        refine g_aload_n F dX9_advances_128 rfl 0 rfl ?_
        refine g_dup F dX9_advances_129 rfl ?_
        refine g_get F (C := RX9) (T := TX9) (N := 36) (ci := 9) (v := .int (Mm 3)) hi_X9_advances_X9 0 0 3 dX9_advances_130 rfl rfl (by decide) fl_X9_advances_86 rfl ?_
        refine g_iconst F (v := (1 : Int32)) dX9_advances_133 (by decide) ?_
        refine g_iadd F dX9_advances_134 ?_
        refine g_put F (C := RX9) (T := TX9) (N := 36) (ci := 9) (v := .int ((Mm 3) + (1 : Int32))) (ty := .int) (sg' := [(sMod cy am (upd (upd Mm 6 ((((10 : Int32) * (Mm 6)) + r7) - (48 : Int32))) 3 ((Mm 3) + (1 : Int32)))), (sI cy (am 2) 120 m_text)]) hi_X9_advances_X9 tyX9 tyX9_ok nmX9 0 0 3 dX9_advances_135 rfl rfl (by decide) fl_X9_advances_86 rfl rfl rfl rfl (Nat.le_of_ble_eq_true rfl) rfl ?_
        refine g_goto F 71 dX9_advances_138 (by decide) ?_
        refine Go.sub (lv' := [(0, .ref (am 0)), (1, .int x1)]) [0, 1] rfl ?_
        exact ih (upd (upd Mm 6 ((((10 : Int32) * (Mm 6)) + r7) - (48 : Int32))) 3 ((Mm 3) + (1 : Int32))) h
      · refine g_aload_n F dX9_advances_99 rfl 0 rfl ?_
        refine g_get F (C := RX9) (T := TX9) (N := 36) (ci := 9) (v := .int (Mm 6)) hi_X9_advances_X9 0 0 6 dX9_advances_100 rfl rfl (by decide) fl_X9_advances_99 rfl ?_
        refine g_goto F 125 dX9_advances_103 (by decide) ?_
        refine g_put F (C := RX9) (T := TX9) (N := 36) (ci := 9) (v := .int (Mm 6)) (ty := .int) (sg' := [(sMod cy am (upd Mm 6 (Mm 6))), (sI cy (am 2) 120 m_text)]) hi_X9_advances_X9 tyX9 tyX9_ok nmX9 0 0 6 dX9_advances_125 rfl rfl (by decide) fl_X9_advances_99 rfl rfl rfl rfl (Nat.le_of_ble_eq_true rfl) rfl ?_
        refine g_aload_n F dX9_advances_128 rfl 0 rfl ?_
        refine g_dup F dX9_advances_129 rfl ?_
        refine g_get F (C := RX9) (T := TX9) (N := 36) (ci := 9) (v := .int (Mm 3)) hi_X9_advances_X9 0 0 3 dX9_advances_130 rfl rfl (by decide) fl_X9_advances_86 rfl ?_
        refine g_iconst F (v := (1 : Int32)) dX9_advances_133 (by decide) ?_
        refine g_iadd F dX9_advances_134 ?_
        refine g_put F (C := RX9) (T := TX9) (N := 36) (ci := 9) (v := .int ((Mm 3) + (1 : Int32))) (ty := .int) (sg' := [(sMod cy am (upd (upd Mm 6 (Mm 6)) 3 ((Mm 3) + (1 : Int32)))), (sI cy (am 2) 120 m_text)]) hi_X9_advances_X9 tyX9 tyX9_ok nmX9 0 0 3 dX9_advances_135 rfl rfl (by decide) fl_X9_advances_86 rfl rfl rfl rfl (Nat.le_of_ble_eq_true rfl) rfl ?_
        refine g_goto F 71 dX9_advances_138 (by decide) ?_
        refine Go.sub (lv' := [(0, .ref (am 0)), (1, .int x1)]) [0, 1] rfl ?_
        exact ih (upd (upd Mm 6 (Mm 6)) 3 ((Mm 3) + (1 : Int32))) h
set_option maxHeartbeats 4000000 in
set_option maxRecDepth 100000 in
theorem ok_X9_advances (l : Launch) (D : va_G) (cy : Nat → ClassId) (am : Nat → Nat)  (Mm : ModS) (m_text : (Nat → Int32))  (out : ModS) (h : f_X9_advances Mm m_text = some out) : OK l D cy yX9_advances wsX9_advances rm_X9_advances [.ref (am 0)] [(sMod cy am Mm), (sI cy (am 2) 120 m_text)] none [(sMod cy am out), (sI cy (am 2) 120 m_text)] := by
  refine OKx.of (cc := cX9_advances) (maxL := 2) (ret := none) (by decide) rfl (Nat.le_of_ble_eq_true rfl) (fun G F Rq => ?_)
  show Go G 0 0 0 [(0, .ref (am 0))] [] [(sMod cy am Mm), (sI cy (am 2) 120 m_text)]
  replace F : Fx G cX9_advances wsX9_advances RX9 cy 2 (rm_X9_advances) := F
  replace Rq : Rx G "advances" none none (fun z => z = [(sMod cy am out), (sI cy (am 2) 120 m_text)]) 0 0 := Rq
  unfold f_X9_advances at h
  refine Go.sub (lv' := [(0, .ref (am 0))]) [0] rfl ?_
  refine k_X9_advances_0_ok am m_text F Rq _ (fun Mm_2 h => ?_) _ Mm h
  refine g_aload_n F dX9_advances_26 rfl 0 rfl ?_
  refine g_aload_n F dX9_advances_27 rfl 0 rfl ?_
  refine g_get F (C := RX9) (T := TX9) (N := 36) (ci := 9) (v := .int (Mm_2 3)) hi_X9_advances_X9 0 0 3 dX9_advances_28 rfl rfl (by decide) fl_X9_advances_86 rfl ?_
  refine g_put F (C := RX9) (T := TX9) (N := 36) (ci := 9) (v := .int (Mm_2 3)) (ty := .int) (sg' := [(sMod cy am (upd Mm_2 5 (Mm_2 3))), (sI cy (am 2) 120 m_text)]) hi_X9_advances_X9 tyX9 tyX9_ok nmX9 0 0 5 dX9_advances_31 rfl rfl (by decide) fl_X9_advances_93 rfl rfl rfl rfl (Nat.le_of_ble_eq_true rfl) rfl ?_
  refine g_aload_n F dX9_advances_34 rfl 0 rfl ?_
  refine g_aload_n F dX9_advances_35 rfl 0 rfl ?_
  refine g_get F (C := RX9) (T := TX9) (N := 36) (ci := 9) (v := .int (Mm_2 3)) hi_X9_advances_X9 0 0 3 dX9_advances_36 rfl rfl (by decide) fl_X9_advances_86 rfl ?_
  obtain ⟨r3, hr3, h⟩ := bnd h
  refine g_cV F [.int (Mm_2 3)] 0 0 (ok_X9_letterAt (gl G) (gD G) cy am (upd Mm_2 5 (Mm_2 3)) m_text (Mm_2 3) r3 hr3) dX9_advances_39 rfl rfl gX9_advances_X9_letterAt rfl ⟨rfl, cd_X9_letterAt⟩ (by decide) rfl (Nat.le_of_ble_eq_true rfl) [0, 1] (by decide) rfl rfl (sg' := [(sMod cy am (upd Mm_2 5 (Mm_2 3))), (sI cy (am 2) 120 m_text)]) (st' := [.int r3]) rfl rfl ?_
  refine g_istore_n F (lv' := [(1, .int r3), (0, .ref (am 0))]) dX9_advances_42 rfl (by decide) rfl ?_
  refine g_iload_n F dX9_advances_43 rfl 0 rfl ?_
  refine g_if_ge F 55 h dX9_advances_44 (by decide) (fun h => ?_) (fun h => ?_)
  · refine g_iload_n F dX9_advances_55 rfl 0 rfl ?_
    refine g_bipush F (v := (48 : Int32)) dX9_advances_56 (by decide) ?_
    refine g_bipush F (v := (57 : Int32)) dX9_advances_58 (by decide) ?_
    obtain ⟨r4, hr4, h⟩ := bnd h
    refine g_cS F [.int r3, .int (48 : Int32), .int (57 : Int32)] (ok_X9_in (gl G) (gD G) cy r3 (48 : Int32) (57 : Int32) r4 hr4) dX9_advances_60 gX9_advances_X9_in rfl cd_X9_in (by decide) rfl (Nat.le_of_ble_eq_true rfl) [] (by decide) rfl rfl (sg' := [(sMod cy am (upd Mm_2 5 (Mm_2 3))), (sI cy (am 2) 120 m_text)]) (st' := [.int r4]) rfl rfl ?_
    refine g_if_eq F 181 h dX9_advances_63 (by decide) (fun h => ?_) (fun h => ?_)
    · refine g_aload_n F dX9_advances_181 rfl 1 rfl ?_
      refine g_dup F dX9_advances_182 rfl ?_
      refine g_get F (C := RX9) (T := TX9) (N := 36) (ci := 9) (v := .int (Mm_2 3)) hi_X9_advances_X9 0 0 3 dX9_advances_183 rfl rfl (by decide) fl_X9_advances_86 rfl ?_
      refine g_iconst F (v := (1 : Int32)) dX9_advances_186 (by decide) ?_
      refine g_iadd F dX9_advances_187 ?_
      refine g_put F (C := RX9) (T := TX9) (N := 36) (ci := 9) (v := .int ((Mm_2 3) + (1 : Int32))) (ty := .int) (sg' := [(sMod cy am (upd (upd Mm_2 5 (Mm_2 3)) 3 ((Mm_2 3) + (1 : Int32)))), (sI cy (am 2) 120 m_text)]) hi_X9_advances_X9 tyX9 tyX9_ok nmX9 0 0 3 dX9_advances_188 rfl rfl (by decide) fl_X9_advances_86 rfl rfl rfl rfl (Nat.le_of_ble_eq_true rfl) rfl ?_
      refine g_aload_n F dX9_advances_191 rfl 1 rfl ?_
      refine g_iload_n F dX9_advances_192 rfl 0 rfl ?_
      refine g_put F (C := RX9) (T := TX9) (N := 36) (ci := 9) (v := .int r3) (ty := .int) (sg' := [(sMod cy am (upd (upd (upd Mm_2 5 (Mm_2 3)) 3 ((Mm_2 3) + (1 : Int32))) 6 r3)), (sI cy (am 2) 120 m_text)]) hi_X9_advances_X9 tyX9 tyX9_ok nmX9 0 0 6 dX9_advances_193 rfl rfl (by decide) fl_X9_advances_99 rfl rfl rfl rfl (Nat.le_of_ble_eq_true rfl) rfl ?_
      refine g_aload_n F dX9_advances_196 rfl 1 rfl ?_
      refine g_iload_n F dX9_advances_197 rfl 0 rfl ?_
      refine g_bipush F (v := (59 : Int32)) dX9_advances_198 (by decide) ?_
      refine g_icmp_ne F 207 h dX9_advances_200 (by decide) (fun h => ?_) (fun h => ?_)
      · refine g_iload_n F dX9_advances_207 rfl 0 rfl ?_
        refine g_bipush F (v := (110 : Int32)) dX9_advances_208 (by decide) ?_
        refine g_icmp_eq F 219 h dX9_advances_210 (by decide) (fun h => ?_) (fun h => ?_)
        · refine g_iconst F (v := (1 : Int32)) dX9_advances_219 (by decide) ?_
          refine g_goto F 224 dX9_advances_220 (by decide) ?_
          refine g_put F (C := RX9) (T := TX9) (N := 36) (ci := 9) (v := .int (1 : Int32)) (ty := .int) (sg' := [(sMod cy am (upd (upd (upd (upd Mm_2 5 (Mm_2 3)) 3 ((Mm_2 3) + (1 : Int32))) 6 r3) 4 (1 : Int32))), (sI cy (am 2) 120 m_text)]) hi_X9_advances_X9 tyX9 tyX9_ok nmX9 0 0 4 dX9_advances_224 rfl rfl (by decide) fl_X9_advances_96 rfl rfl rfl rfl (Nat.le_of_ble_eq_true rfl) rfl ?_
          obtain rfl := Option.some.inj h
          exact g_vret F Rq rfl dX9_advances_227
        · refine g_iload_n F dX9_advances_213 rfl 0 rfl ?_
          refine g_bipush F (v := (97 : Int32)) dX9_advances_214 (by decide) ?_
          refine g_icmp_ne F 223 h dX9_advances_216 (by decide) (fun h => ?_) (fun h => ?_)
          · refine g_iconst F (v := (4 : Int32)) dX9_advances_223 (by decide) ?_
            refine g_put F (C := RX9) (T := TX9) (N := 36) (ci := 9) (v := .int (4 : Int32)) (ty := .int) (sg' := [(sMod cy am (upd (upd (upd (upd Mm_2 5 (Mm_2 3)) 3 ((Mm_2 3) + (1 : Int32))) 6 r3) 4 (4 : Int32))), (sI cy (am 2) 120 m_text)]) hi_X9_advances_X9 tyX9 tyX9_ok nmX9 0 0 4 dX9_advances_224 rfl rfl (by decide) fl_X9_advances_96 rfl rfl rfl rfl (Nat.le_of_ble_eq_true rfl) rfl ?_
            obtain rfl := Option.some.inj h
            exact g_vret F Rq rfl dX9_advances_227
          · refine g_iconst F (v := (1 : Int32)) dX9_advances_219 (by decide) ?_
            refine g_goto F 224 dX9_advances_220 (by decide) ?_
            refine g_put F (C := RX9) (T := TX9) (N := 36) (ci := 9) (v := .int (1 : Int32)) (ty := .int) (sg' := [(sMod cy am (upd (upd (upd (upd Mm_2 5 (Mm_2 3)) 3 ((Mm_2 3) + (1 : Int32))) 6 r3) 4 (1 : Int32))), (sI cy (am 2) 120 m_text)]) hi_X9_advances_X9 tyX9 tyX9_ok nmX9 0 0 4 dX9_advances_224 rfl rfl (by decide) fl_X9_advances_96 rfl rfl rfl rfl (Nat.le_of_ble_eq_true rfl) rfl ?_
            obtain rfl := Option.some.inj h
            exact g_vret F Rq rfl dX9_advances_227
      · refine g_iconst F (v := (3 : Int32)) dX9_advances_203 (by decide) ?_
        refine g_goto F 224 dX9_advances_204 (by decide) ?_
        refine g_put F (C := RX9) (T := TX9) (N := 36) (ci := 9) (v := .int (3 : Int32)) (ty := .int) (sg' := [(sMod cy am (upd (upd (upd (upd Mm_2 5 (Mm_2 3)) 3 ((Mm_2 3) + (1 : Int32))) 6 r3) 4 (3 : Int32))), (sI cy (am 2) 120 m_text)]) hi_X9_advances_X9 tyX9 tyX9_ok nmX9 0 0 4 dX9_advances_224 rfl rfl (by decide) fl_X9_advances_96 rfl rfl rfl rfl (Nat.le_of_ble_eq_true rfl) rfl ?_
        obtain rfl := Option.some.inj h
        exact g_vret F Rq rfl dX9_advances_227
    · refine g_aload_n F dX9_advances_66 rfl 1 rfl ?_
      refine g_iconst F (v := (0 : Int32)) dX9_advances_67 (by decide) ?_
      refine g_put F (C := RX9) (T := TX9) (N := 36) (ci := 9) (v := .int (0 : Int32)) (ty := .int) (sg' := [(sMod cy am (upd (upd Mm_2 5 (Mm_2 3)) 6 (0 : Int32))), (sI cy (am 2) 120 m_text)]) hi_X9_advances_X9 tyX9 tyX9_ok nmX9 0 0 6 dX9_advances_68 rfl rfl (by decide) fl_X9_advances_99 rfl rfl rfl rfl (Nat.le_of_ble_eq_true rfl) rfl ?_
      refine Go.sub (lv' := [(0, .ref (am 0)), (1, .int r3)]) [1, 0] rfl ?_
      refine k_X9_advances_71_ok am r3 m_text F Rq _ (fun Mm_8 h => ?_) _ (upd (upd Mm_2 5 (Mm_2 3)) 6 (0 : Int32)) h
      refine g_aload_n F dX9_advances_141 rfl 0 rfl ?_
      refine g_aload_n F dX9_advances_142 rfl 0 rfl ?_
      refine g_get F (C := RX9) (T := TX9) (N := 36) (ci := 9) (v := .int (Mm_8 6)) hi_X9_advances_X9 0 0 6 dX9_advances_143 rfl rfl (by decide) fl_X9_advances_99 rfl ?_
      refine g_bipush F (v := (99 : Int32)) dX9_advances_146 (by decide) ?_
      refine g_icmp_gt F 170 h dX9_advances_148 (by decide) (fun h => ?_) (fun h => ?_)
      · refine g_iconst F (v := (4 : Int32)) dX9_advances_170 (by decide) ?_
        refine g_goto F 175 dX9_advances_171 (by decide) ?_
        refine g_put F (C := RX9) (T := TX9) (N := 36) (ci := 9) (v := .int (4 : Int32)) (ty := .int) (sg' := [(sMod cy am (upd Mm_8 4 (4 : Int32))), (sI cy (am 2) 120 m_text)]) hi_X9_advances_X9 tyX9 tyX9_ok nmX9 0 0 4 dX9_advances_175 rfl rfl (by decide) fl_X9_advances_96 rfl rfl rfl rfl (Nat.le_of_ble_eq_true rfl) rfl ?_
        refine g_goto F 227 dX9_advances_178 (by decide) ?_
        obtain rfl := Option.some.inj h
        exact g_vret F Rq rfl dX9_advances_227
      · refine g_iload_n F dX9_advances_151 rfl 1 rfl ?_
        refine g_bipush F (v := (48 : Int32)) dX9_advances_152 (by decide) ?_
        refine g_icmp_ne F 174 h dX9_advances_154 (by decide) (fun h => ?_) (fun h => ?_)
        · refine g_iconst F (v := (2 : Int32)) dX9_advances_174 (by decide) ?_
          refine g_put F (C := RX9) (T := TX9) (N := 36) (ci := 9) (v := .int (2 : Int32)) (ty := .int) (sg' := [(sMod cy am (upd Mm_8 4 (2 : Int32))), (sI cy (am 2) 120 m_text)]) hi_X9_advances_X9 tyX9 tyX9_ok nmX9 0 0 4 dX9_advances_175 rfl rfl (by decide) fl_X9_advances_96 rfl rfl rfl rfl (Nat.le_of_ble_eq_true rfl) rfl ?_
          refine g_goto F 227 dX9_advances_178 (by decide) ?_
          obtain rfl := Option.some.inj h
          exact g_vret F Rq rfl dX9_advances_227
        · refine g_aload_n F dX9_advances_157 rfl 0 rfl ?_
          refine g_get F (C := RX9) (T := TX9) (N := 36) (ci := 9) (v := .int (Mm_8 3)) hi_X9_advances_X9 0 0 3 dX9_advances_158 rfl rfl (by decide) fl_X9_advances_86 rfl ?_
          refine g_aload_n F dX9_advances_161 rfl 0 rfl ?_
          refine g_get F (C := RX9) (T := TX9) (N := 36) (ci := 9) (v := .int (Mm_8 5)) hi_X9_advances_X9 0 0 5 dX9_advances_162 rfl rfl (by decide) fl_X9_advances_93 rfl ?_
          refine g_isub F dX9_advances_165 ?_
          refine g_iconst F (v := (1 : Int32)) dX9_advances_166 (by decide) ?_
          refine g_icmp_le F 174 h dX9_advances_167 (by decide) (fun h => ?_) (fun h => ?_)
          · refine g_iconst F (v := (2 : Int32)) dX9_advances_174 (by decide) ?_
            refine g_put F (C := RX9) (T := TX9) (N := 36) (ci := 9) (v := .int (2 : Int32)) (ty := .int) (sg' := [(sMod cy am (upd Mm_8 4 (2 : Int32))), (sI cy (am 2) 120 m_text)]) hi_X9_advances_X9 tyX9 tyX9_ok nmX9 0 0 4 dX9_advances_175 rfl rfl (by decide) fl_X9_advances_96 rfl rfl rfl rfl (Nat.le_of_ble_eq_true rfl) rfl ?_
            refine g_goto F 227 dX9_advances_178 (by decide) ?_
            obtain rfl := Option.some.inj h
            exact g_vret F Rq rfl dX9_advances_227
          · refine g_iconst F (v := (4 : Int32)) dX9_advances_170 (by decide) ?_
            refine g_goto F 175 dX9_advances_171 (by decide) ?_
            refine g_put F (C := RX9) (T := TX9) (N := 36) (ci := 9) (v := .int (4 : Int32)) (ty := .int) (sg' := [(sMod cy am (upd Mm_8 4 (4 : Int32))), (sI cy (am 2) 120 m_text)]) hi_X9_advances_X9 tyX9 tyX9_ok nmX9 0 0 4 dX9_advances_175 rfl rfl (by decide) fl_X9_advances_96 rfl rfl rfl rfl (Nat.le_of_ble_eq_true rfl) rfl ?_
            refine g_goto F 227 dX9_advances_178 (by decide) ?_
            obtain rfl := Option.some.inj h
            exact g_vret F Rq rfl dX9_advances_227
  · refine g_aload_n F dX9_advances_47 rfl 1 rfl ?_
    refine g_iconst F (v := (0 : Int32)) dX9_advances_48 (by decide) ?_
    refine g_put F (C := RX9) (T := TX9) (N := 36) (ci := 9) (v := .int (0 : Int32)) (ty := .int) (sg' := [(sMod cy am (upd (upd Mm_2 5 (Mm_2 3)) 4 (0 : Int32))), (sI cy (am 2) 120 m_text)]) hi_X9_advances_X9 tyX9 tyX9_ok nmX9 0 0 4 dX9_advances_49 rfl rfl (by decide) fl_X9_advances_96 rfl rfl rfl rfl (Nat.le_of_ble_eq_true rfl) rfl ?_
    refine g_goto F 227 dX9_advances_52 (by decide) ?_
    obtain rfl := Option.some.inj h
    exact g_vret F Rq rfl dX9_advances_227
theorem hi_X9_isWell_X9 : ∀ w ∈ u_ws RX9 TX9 36, w ∈ wsX9_isWell := by decide +kernel
theorem fl_X9_isWell_102 : Cond.fieldLink RX9 102 "ArcOrderModel" "fault" "I" ∈ wsX9_isWell := by decide +kernel
abbrev rm_X9_isWell : Room := { frames := 0, cells := 0, slots := 0, locals := 0 }
set_option maxHeartbeats 4000000 in
set_option maxRecDepth 100000 in
theorem ok_X9_isWell (l : Launch) (D : va_G) (cy : Nat → ClassId) (am : Nat → Nat)  (Mm : ModS)  (out : Int32) (h : f_X9_isWell Mm = some out) : OK l D cy yX9_isWell wsX9_isWell rm_X9_isWell [.ref (am 0)] [(sMod cy am Mm)] (some (.int out)) [(sMod cy am Mm)] := by
  refine OKx.of (cc := cX9_isWell) (maxL := 1) (ret := (some .boolean)) (by decide) rfl (Nat.le_of_ble_eq_true rfl) (fun G F Rq => ?_)
  show Go G 0 0 0 [(0, .ref (am 0))] [] [(sMod cy am Mm)]
  replace F : Fx G cX9_isWell wsX9_isWell RX9 cy 1 (rm_X9_isWell) := F
  replace Rq : Rx G "isWell" (some .boolean) (some (.int out)) (fun z => z = [(sMod cy am Mm)]) 0 0 := Rq
  unfold f_X9_isWell at h
  refine g_aload_n F dX9_isWell_0 rfl 0 rfl ?_
  refine g_get F (C := RX9) (T := TX9) (N := 36) (ci := 9) (v := .int (Mm 7)) hi_X9_isWell_X9 0 0 7 dX9_isWell_1 rfl rfl (by decide) fl_X9_isWell_102 rfl ?_
  refine g_if_ge F 11 h dX9_isWell_4 (by decide) (fun h => ?_) (fun h => ?_)
  · refine g_iconst F (v := (0 : Int32)) dX9_isWell_11 (by decide) ?_
    obtain rfl := Option.some.inj h
    exact g_zret F Rq rfl rfl dX9_isWell_12
  · refine g_iconst F (v := (1 : Int32)) dX9_isWell_7 (by decide) ?_
    refine g_goto F 12 dX9_isWell_8 (by decide) ?_
    obtain rfl := Option.some.inj h
    exact g_zret F Rq rfl rfl dX9_isWell_12
theorem hi_X9_takes_X9 : ∀ w ∈ u_ws RX9 TX9 36, w ∈ wsX9_takes := by decide +kernel
theorem fl_X9_takes_99 : Cond.fieldLink RX9 99 "ArcOrderModel" "value" "I" ∈ wsX9_takes := by decide +kernel
theorem fl_X9_takes_93 : Cond.fieldLink RX9 93 "ArcOrderModel" "start" "I" ∈ wsX9_takes := by decide +kernel
theorem fl_X9_takes_102 : Cond.fieldLink RX9 102 "ArcOrderModel" "fault" "I" ∈ wsX9_takes := by decide +kernel
abbrev rm_X9_takes : Room := { frames := 2, cells := 0, slots := 0, locals := 43 }
set_option maxHeartbeats 4000000 in
set_option maxRecDepth 100000 in
theorem ok_X9_takes (l : Launch) (D : va_G) (cy : Nat → ClassId) (am : Nat → Nat)  (Mm : ModS) (m_text : (Nat → Int32)) (x1 : Int32) (out : Int32 × ModS) (h : f_X9_takes Mm m_text x1 = some out) : OK l D cy yX9_takes wsX9_takes rm_X9_takes [.ref (am 0), .int x1] [(sMod cy am Mm), (sI cy (am 2) 120 m_text)] (some (.int out.1)) [(sMod cy am out.2), (sI cy (am 2) 120 m_text)] := by
  refine OKx.of (cc := cX9_takes) (maxL := 3) (ret := (some .int)) (by decide) rfl (Nat.le_of_ble_eq_true rfl) (fun G F Rq => ?_)
  show Go G 0 0 0 [(0, .ref (am 0)), (1, .int x1)] [] [(sMod cy am Mm), (sI cy (am 2) 120 m_text)]
  replace F : Fx G cX9_takes wsX9_takes RX9 cy 3 (rm_X9_takes) := F
  replace Rq : Rx G "takes" (some .int) (some (.int out.1)) (fun z => z = [(sMod cy am out.2), (sI cy (am 2) 120 m_text)]) 0 0 := Rq
  unfold f_X9_takes at h
  refine g_aload_n F dX9_takes_0 rfl 0 rfl ?_
  obtain ⟨r1, hr1, h⟩ := bnd h
  refine g_cV F [] 0 0 (ok_X9_isWell (gl G) (gD G) cy am Mm r1 hr1) dX9_takes_1 rfl rfl gX9_takes_X9_isWell rfl ⟨rfl, cd_X9_isWell⟩ (by decide) rfl (Nat.le_of_ble_eq_true rfl) [0] (by decide) rfl rfl (sg' := [(sMod cy am Mm), (sI cy (am 2) 120 m_text)]) (st' := [.int r1]) rfl rfl ?_
  refine g_if_ne F 9 h dX9_takes_4 (by decide) (fun h => ?_) (fun h => ?_)
  · refine g_iload_n F dX9_takes_9 rfl 1 rfl ?_
    refine g_if_ne F 23 h dX9_takes_10 (by decide) (fun h => ?_) (fun h => ?_)
    · refine g_aload_n F dX9_takes_23 rfl 0 rfl ?_
      refine g_get F (C := RX9) (T := TX9) (N := 36) (ci := 9) (v := .int (Mm 6)) hi_X9_takes_X9 0 0 6 dX9_takes_24 rfl rfl (by decide) fl_X9_takes_99 rfl ?_
      refine g_istore_n F (lv' := [(2, .int (Mm 6)), (0, .ref (am 0)), (1, .int x1)]) dX9_takes_27 rfl (by decide) rfl ?_
      refine g_aload_n F dX9_takes_28 rfl 1 rfl ?_
      obtain ⟨r2, hr2, h⟩ := bnd h
      refine g_cV F [] 0 0 (ok_X9_advances (gl G) (gD G) cy am Mm m_text r2 hr2) dX9_takes_29 rfl rfl gX9_takes_X9_advances rfl ⟨rfl, cd_X9_advances⟩ (by decide) rfl (Nat.le_of_ble_eq_true rfl) [0, 1] (by decide) rfl rfl (sg' := [(sMod cy am r2), (sI cy (am 2) 120 m_text)]) (st' := []) rfl rfl ?_
      refine g_iload_n F dX9_takes_32 rfl 0 rfl ?_
      obtain rfl := Option.some.inj h
      exact g_iret F Rq rfl dX9_takes_33
    · refine g_aload_n F dX9_takes_13 rfl 0 rfl ?_
      refine g_aload_n F dX9_takes_14 rfl 0 rfl ?_
      refine g_get F (C := RX9) (T := TX9) (N := 36) (ci := 9) (v := .int (Mm 5)) hi_X9_takes_X9 0 0 5 dX9_takes_15 rfl rfl (by decide) fl_X9_takes_93 rfl ?_
      refine g_put F (C := RX9) (T := TX9) (N := 36) (ci := 9) (v := .int (Mm 5)) (ty := .int) (sg' := [(sMod cy am (upd Mm 7 (Mm 5))), (sI cy (am 2) 120 m_text)]) hi_X9_takes_X9 tyX9 tyX9_ok nmX9 0 0 7 dX9_takes_18 rfl rfl (by decide) fl_X9_takes_102 rfl rfl rfl rfl (Nat.le_of_ble_eq_true rfl) rfl ?_
      refine g_iconst F (v := (0 : Int32)) dX9_takes_21 (by decide) ?_
      obtain rfl := Option.some.inj h
      exact g_iret F Rq rfl dX9_takes_22
  · refine g_iconst F (v := (0 : Int32)) dX9_takes_7 (by decide) ?_
    obtain rfl := Option.some.inj h
    exact g_iret F Rq rfl dX9_takes_8
theorem hi_X9_isNumber_X9 : ∀ w ∈ u_ws RX9 TX9 36, w ∈ wsX9_isNumber := by decide +kernel
theorem fl_X9_isNumber_96 : Cond.fieldLink RX9 96 "ArcOrderModel" "token" "I" ∈ wsX9_isNumber := by decide +kernel
theorem fl_X9_isNumber_99 : Cond.fieldLink RX9 99 "ArcOrderModel" "value" "I" ∈ wsX9_isNumber := by decide +kernel
abbrev rm_X9_isNumber : Room := { frames := 1, cells := 0, slots := 0, locals := 22 }
set_option maxHeartbeats 4000000 in
set_option maxRecDepth 100000 in
theorem ok_X9_isNumber (l : Launch) (D : va_G) (cy : Nat → ClassId) (am : Nat → Nat)  (Mm : ModS) (x1 : Int32) (x2 : Int32) (out : Int32) (h : f_X9_isNumber Mm x1 x2 = some out) : OK l D cy yX9_isNumber wsX9_isNumber rm_X9_isNumber [.ref (am 0), .int x1, .int x2] [(sMod cy am Mm)] (some (.int out)) [(sMod cy am Mm)] := by
  refine OKx.of (cc := cX9_isNumber) (maxL := 3) (ret := (some .boolean)) (by decide) rfl (Nat.le_of_ble_eq_true rfl) (fun G F Rq => ?_)
  show Go G 0 0 0 [(0, .ref (am 0)), (1, .int x1), (2, .int x2)] [] [(sMod cy am Mm)]
  replace F : Fx G cX9_isNumber wsX9_isNumber RX9 cy 3 (rm_X9_isNumber) := F
  replace Rq : Rx G "isNumber" (some .boolean) (some (.int out)) (fun z => z = [(sMod cy am Mm)]) 0 0 := Rq
  unfold f_X9_isNumber at h
  refine g_aload_n F dX9_isNumber_0 rfl 0 rfl ?_
  refine g_get F (C := RX9) (T := TX9) (N := 36) (ci := 9) (v := .int (Mm 4)) hi_X9_isNumber_X9 0 0 4 dX9_isNumber_1 rfl rfl (by decide) fl_X9_isNumber_96 rfl ?_
  refine g_iconst F (v := (2 : Int32)) dX9_isNumber_4 (by decide) ?_
  refine g_icmp_ne F 24 h dX9_isNumber_5 (by decide) (fun h => ?_) (fun h => ?_)
  · refine g_iconst F (v := (0 : Int32)) dX9_isNumber_24 (by decide) ?_
    obtain rfl := Option.some.inj h
    exact g_zret F Rq rfl rfl dX9_isNumber_25
  · refine g_aload_n F dX9_isNumber_8 rfl 0 rfl ?_
    refine g_get F (C := RX9) (T := TX9) (N := 36) (ci := 9) (v := .int (Mm 6)) hi_X9_isNumber_X9 0 0 6 dX9_isNumber_9 rfl rfl (by decide) fl_X9_isNumber_99 rfl ?_
    refine g_iload_n F dX9_isNumber_12 rfl 1 rfl ?_
    refine g_iload_n F dX9_isNumber_13 rfl 2 rfl ?_
    obtain ⟨r1, hr1, h⟩ := bnd h
    refine g_cS F [.int (Mm 6), .int x1, .int x2] (ok_X9_in (gl G) (gD G) cy (Mm 6) x1 x2 r1 hr1) dX9_isNumber_14 gX9_isNumber_X9_in rfl cd_X9_in (by decide) rfl (Nat.le_of_ble_eq_true rfl) [] (by decide) rfl rfl (sg' := [(sMod cy am Mm)]) (st' := [.int r1]) rfl rfl ?_
    refine g_if_eq F 24 h dX9_isNumber_17 (by decide) (fun h => ?_) (fun h => ?_)
    · refine g_iconst F (v := (0 : Int32)) dX9_isNumber_24 (by decide) ?_
      obtain rfl := Option.some.inj h
      exact g_zret F Rq rfl rfl dX9_isNumber_25
    · refine g_iconst F (v := (1 : Int32)) dX9_isNumber_20 (by decide) ?_
      refine g_goto F 25 dX9_isNumber_21 (by decide) ?_
      obtain rfl := Option.some.inj h
      exact g_zret F Rq rfl rfl dX9_isNumber_25
theorem hi_X9_begins_X9 : ∀ w ∈ u_ws RX9 TX9 36, w ∈ wsX9_begins := by decide +kernel
theorem fl_X9_begins_112 : Cond.fieldLink RX9 112 "ArcOrderModel" "draftItems" "I" ∈ wsX9_begins := by decide +kernel
theorem fl_X9_begins_13 : Cond.fieldLink RX9 13 "ArcOrderModel" "draft" "[I" ∈ wsX9_begins := by decide +kernel
abbrev rm_X9_begins : Room := { frames := 0, cells := 0, slots := 0, locals := 0 }
set_option maxHeartbeats 4000000 in
set_option maxRecDepth 100000 in
theorem k_X9_begins_7_ok {G : GX} {cy : Nat → ClassId} (am : Nat → Nat)   (Mm : ModS) {out : ModS × (Nat → Int32)} (F : Fx G cX9_begins wsX9_begins RX9 cy 2 (rm_X9_begins)) (Rq : Rx G "begins" none none (fun z => z = [(sMod cy am out.1), (sI cy (am 11) 24 out.2)]) 0 0) (ke : (Nat → Int32) → Option (ModS × (Nat → Int32))) (hke : ∀  (m_draft : (Nat → Int32)), ke m_draft = some out → Go G 0 0 38 [] [] [(sMod cy am Mm), (sI cy (am 11) 24 m_draft)]) : ∀ (n : Nat) (x1 : Int32) (m_draft : (Nat → Int32)), k_X9_begins_7 Mm ke n x1 m_draft = some out → Go G 0 0 7 [(0, .ref (am 0)), (1, .int x1)] [] [(sMod cy am Mm), (sI cy (am 11) 24 m_draft)] := by
  intro n
  induction n with
  | zero =>
    intro x1 m_draft h
    exact nosome h
  | succ n ih =>
    intro x1 m_draft h
    rw [k_X9_begins_7.eq_2] at h
    refine g_iload_n F dX9_begins_7 rfl 1 rfl ?_
    refine g_bipush F (v := (12 : Int32)) dX9_begins_8 (by decide) ?_
    refine g_icmp_ge F 38 h dX9_begins_10 (by decide) (fun h => ?_) (fun h => ?_)
    · refine Go.sub (lv' := []) [] rfl ?_
      exact hke m_draft h
    · refine g_aload_n F dX9_begins_13 rfl 0 rfl ?_
      refine g_get F (C := RX9) (T := TX9) (N := 36) (ci := 9) (v := .ref (am 11)) hi_X9_begins_X9 0 0 10 dX9_begins_14 rfl rfl (by decide) fl_X9_begins_13 rfl ?_
      refine g_iconst F (v := (0 : Int32)) dX9_begins_17 (by decide) ?_
      refine g_iload_n F dX9_begins_18 rfl 1 rfl ?_
      refine g_iadd F dX9_begins_19 ?_
      refine g_iconst F (v := (0 : Int32)) dX9_begins_20 (by decide) ?_
      refine g_iastore F h (sg' := [(sMod cy am Mm), (sI cy (am 11) 24 (upd m_draft (((0 : Int32) + x1)).toNatClampNeg (0 : Int32)))]) 1 0 dX9_begins_21 rfl rfl (fun h => ?_)
      refine g_aload_n F dX9_begins_22 rfl 0 rfl ?_
      refine g_get F (C := RX9) (T := TX9) (N := 36) (ci := 9) (v := .ref (am 11)) hi_X9_begins_X9 0 0 10 dX9_begins_23 rfl rfl (by decide) fl_X9_begins_13 rfl ?_
      refine g_bipush F (v := (12 : Int32)) dX9_begins_26 (by decide) ?_
      refine g_iload_n F dX9_begins_28 rfl 1 rfl ?_
      refine g_iadd F dX9_begins_29 ?_
      refine g_iload_n F dX9_begins_30 rfl 1 rfl ?_
      refine g_iastore F h (sg' := [(sMod cy am Mm), (sI cy (am 11) 24 (upd (upd m_draft (((0 : Int32) + x1)).toNatClampNeg (0 : Int32)) (((12 : Int32) + x1)).toNatClampNeg x1))]) 1 0 dX9_begins_31 rfl rfl (fun h => ?_)
      refine g_iinc F (v := (x1 + 1)) (lv' := [(1, .int (x1 + 1)), (0, .ref (am 0))]) dX9_begins_32 1 rfl rfl (by decide) rfl ?_
      refine g_goto F 7 dX9_begins_35 (by decide) ?_
      refine Go.sub (lv' := [(0, .ref (am 0)), (1, .int (x1 + 1))]) [1, 0] rfl ?_
      exact ih (x1 + 1) (upd (upd m_draft (((0 : Int32) + x1)).toNatClampNeg (0 : Int32)) (((12 : Int32) + x1)).toNatClampNeg x1) h
set_option maxHeartbeats 4000000 in
set_option maxRecDepth 100000 in
theorem ok_X9_begins (l : Launch) (D : va_G) (cy : Nat → ClassId) (am : Nat → Nat)  (Mm : ModS) (m_draft : (Nat → Int32))  (out : ModS × (Nat → Int32)) (h : f_X9_begins Mm m_draft = some out) : OK l D cy yX9_begins wsX9_begins rm_X9_begins [.ref (am 0)] [(sMod cy am Mm), (sI cy (am 11) 24 m_draft)] none [(sMod cy am out.1), (sI cy (am 11) 24 out.2)] := by
  refine OKx.of (cc := cX9_begins) (maxL := 2) (ret := none) (by decide) rfl (Nat.le_of_ble_eq_true rfl) (fun G F Rq => ?_)
  show Go G 0 0 0 [(0, .ref (am 0))] [] [(sMod cy am Mm), (sI cy (am 11) 24 m_draft)]
  replace F : Fx G cX9_begins wsX9_begins RX9 cy 2 (rm_X9_begins) := F
  replace Rq : Rx G "begins" none none (fun z => z = [(sMod cy am out.1), (sI cy (am 11) 24 out.2)]) 0 0 := Rq
  unfold f_X9_begins at h
  refine g_aload_n F dX9_begins_0 rfl 0 rfl ?_
  refine g_iconst F (v := (4 : Int32)) dX9_begins_1 (by decide) ?_
  refine g_put F (C := RX9) (T := TX9) (N := 36) (ci := 9) (v := .int (4 : Int32)) (ty := .int) (sg' := [(sMod cy am (upd Mm 9 (4 : Int32))), (sI cy (am 11) 24 m_draft)]) hi_X9_begins_X9 tyX9 tyX9_ok nmX9 0 0 9 dX9_begins_2 rfl rfl (by decide) fl_X9_begins_112 rfl rfl rfl rfl (Nat.le_of_ble_eq_true rfl) rfl ?_
  refine g_iconst F (v := (0 : Int32)) dX9_begins_5 (by decide) ?_
  refine g_istore_n F (lv' := [(1, .int (0 : Int32)), (0, .ref (am 0))]) dX9_begins_6 rfl (by decide) rfl ?_
  refine Go.sub (lv' := [(0, .ref (am 0)), (1, .int (0 : Int32))]) [1, 0] rfl ?_
  refine k_X9_begins_7_ok am (upd Mm 9 (4 : Int32)) F Rq _ (fun m_draft_1 h => ?_) _ (0 : Int32) m_draft h
  obtain rfl := Option.some.inj h
  exact g_vret F Rq rfl dX9_begins_38
theorem hi_X9_looks_X9 : ∀ w ∈ u_ws RX9 TX9 36, w ∈ wsX9_looks := by decide +kernel
theorem fl_X9_looks_164 : Cond.fieldLink RX9 164 "ArcOrderModel" "before" "I" ∈ wsX9_looks := by decide +kernel
theorem fl_X9_looks_167 : Cond.fieldLink RX9 167 "ArcOrderModel" "after" "I" ∈ wsX9_looks := by decide +kernel
theorem fl_X9_looks_126 : Cond.fieldLink RX9 126 "ArcOrderModel" "closes" "Z" ∈ wsX9_looks := by decide +kernel
abbrev rm_X9_looks : Room := { frames := 1, cells := 0, slots := 0, locals := 22 }
set_option maxHeartbeats 4000000 in
set_option maxRecDepth 100000 in
theorem k_X9_looks_38_ok {G : GX} {cy : Nat → ClassId} (am : Nat → Nat) (h1 : Nat)  (x2 : Int32) (x3 : Int32) (x4 : Int32) (Mm : ModS) (A1 : (Nat → Int32)) {out : ModS} (F : Fx G cX9_looks wsX9_looks RX9 cy 8 (rm_X9_looks)) (Rq : Rx G "looks" none none (fun z => z = [(sMod cy am out), (sI cy h1 24 A1)]) 0 0) (ke : Int32 → Option (ModS)) (hke : ∀ (x5 : Int32) , ke x5 = some out → Go G 0 0 89 [(0, .ref (am 0)), (1, .ref h1), (2, .int x2), (3, .int x3), (4, .int x4), (5, .int x5)] [] [(sMod cy am Mm), (sI cy h1 24 A1)]) : ∀ (n : Nat) (x5 : Int32) (x6 : Int32) , k_X9_looks_38 x2 x3 x4 Mm A1 ke n x5 x6 = some out → Go G 0 0 38 [(0, .ref (am 0)), (1, .ref h1), (2, .int x2), (3, .int x3), (4, .int x4), (5, .int x5), (6, .int x6)] [] [(sMod cy am Mm), (sI cy h1 24 A1)] := by
  intro n
  induction n with
  | zero =>
    intro x5 x6 h
    exact nosome h
  | succ n ih =>
    intro x5 x6 h
    rw [k_X9_looks_38.eq_2] at h
    refine g_iload F dX9_looks_38 6 rfl ?_
    refine g_iload_n F dX9_looks_40 rfl 2 rfl ?_
    refine g_icmp_ge F 89 h dX9_looks_41 (by decide) (fun h => ?_) (fun h => ?_)
    · refine Go.sub (lv' := [(0, .ref (am 0)), (1, .ref h1), (2, .int x2), (3, .int x3), (4, .int x4), (5, .int x5)]) [0, 1, 2, 3, 4, 5] rfl ?_
      exact hke x5 h
    · refine g_iload F dX9_looks_44 5 rfl ?_
      refine g_aload_n F dX9_looks_46 rfl 1 rfl ?_
      refine g_bipush F (v := (12 : Int32)) dX9_looks_47 (by decide) ?_
      refine g_iload F dX9_looks_49 6 rfl ?_
      refine g_iadd F dX9_looks_51 ?_
      refine g_iaload F h 1 0 dX9_looks_52 rfl (fun h => ?_)
      refine g_aload_n F dX9_looks_53 rfl 1 rfl ?_
      refine g_bipush F (v := (12 : Int32)) dX9_looks_54 (by decide) ?_
      refine g_iload F dX9_looks_56 4 rfl ?_
      refine g_iadd F dX9_looks_58 ?_
      refine g_iaload F h 1 0 dX9_looks_59 rfl (fun h => ?_)
      refine g_aload_n F dX9_looks_60 rfl 1 rfl ?_
      refine g_bipush F (v := (12 : Int32)) dX9_looks_61 (by decide) ?_
      refine g_iload_n F dX9_looks_63 rfl 3 rfl ?_
      refine g_iadd F dX9_looks_64 ?_
      refine g_iaload F h 1 0 dX9_looks_65 rfl (fun h => ?_)
      obtain ⟨r1, hr1, h⟩ := bnd h
      refine g_cS F [.int (A1 (((12 : Int32) + x6)).toNatClampNeg), .int (A1 (((12 : Int32) + x4)).toNatClampNeg), .int (A1 (((12 : Int32) + x3)).toNatClampNeg)] (ok_X9_in (gl G) (gD G) cy (A1 (((12 : Int32) + x6)).toNatClampNeg) (A1 (((12 : Int32) + x4)).toNatClampNeg) (A1 (((12 : Int32) + x3)).toNatClampNeg) r1 hr1) dX9_looks_66 gX9_looks_X9_in rfl cd_X9_in (by decide) rfl (Nat.le_of_ble_eq_true rfl) [] (by decide) rfl rfl (sg' := [(sMod cy am Mm), (sI cy h1 24 A1)]) (st' := [.int r1, .int x5]) rfl rfl ?_
      refine g_if_eq F 79 h dX9_looks_69 (by decide) (fun h => ?_) (fun h => ?_)
      · refine g_iconst F (v := (0 : Int32)) dX9_looks_79 (by decide) ?_
        refine g_ior F dX9_looks_80 ?_
        refine g_istore F (lv' := [(5, .int (x5 ||| (0 : Int32))), (0, .ref (am 0)), (1, .ref h1), (2, .int x2), (3, .int x3), (4, .int x4), (6, .int x6)]) dX9_looks_81 (by decide) rfl ?_
        refine g_iinc F (v := (x6 + 1)) (lv' := [(6, .int (x6 + 1)), (5, .int (x5 ||| (0 : Int32))), (0, .ref (am 0)), (1, .ref h1), (2, .int x2), (3, .int x3), (4, .int x4)]) dX9_looks_83 6 rfl rfl (by decide) rfl ?_
        refine g_goto F 38 dX9_looks_86 (by decide) ?_
        refine Go.sub (lv' := [(0, .ref (am 0)), (1, .ref h1), (2, .int x2), (3, .int x3), (4, .int x4), (5, .int (x5 ||| (0 : Int32))), (6, .int (x6 + 1))]) [2, 3, 4, 5, 6, 1, 0] rfl ?_
        exact ih (x5 ||| (0 : Int32)) (x6 + 1) h
      · refine g_iconst F (v := (1 : Int32)) dX9_looks_72 (by decide) ?_
        refine g_iload F dX9_looks_73 6 rfl ?_
        refine g_ishl F dX9_looks_75 ?_
        refine g_goto F 80 dX9_looks_76 (by decide) ?_
        refine g_ior F dX9_looks_80 ?_
        refine g_istore F (lv' := [(5, .int (x5 ||| ((1 : Int32) <<< (x6 &&& 31)))), (0, .ref (am 0)), (1, .ref h1), (2, .int x2), (3, .int x3), (4, .int x4), (6, .int x6)]) dX9_looks_81 (by decide) rfl ?_
        refine g_iinc F (v := (x6 + 1)) (lv' := [(6, .int (x6 + 1)), (5, .int (x5 ||| ((1 : Int32) <<< (x6 &&& 31)))), (0, .ref (am 0)), (1, .ref h1), (2, .int x2), (3, .int x3), (4, .int x4)]) dX9_looks_83 6 rfl rfl (by decide) rfl ?_
        refine g_goto F 38 dX9_looks_86 (by decide) ?_
        refine Go.sub (lv' := [(0, .ref (am 0)), (1, .ref h1), (2, .int x2), (3, .int x3), (4, .int x4), (5, .int (x5 ||| ((1 : Int32) <<< (x6 &&& 31)))), (6, .int (x6 + 1))]) [2, 3, 4, 5, 6, 1, 0] rfl ?_
        exact ih (x5 ||| ((1 : Int32) <<< (x6 &&& 31))) (x6 + 1) h
set_option maxHeartbeats 4000000 in
set_option maxRecDepth 100000 in
theorem k_X9_looks_116_ok {G : GX} {cy : Nat → ClassId} (am : Nat → Nat) (h1 : Nat)  (x2 : Int32) (x3 : Int32) (x5 : Int32) (x6 : Int32) (A1 : (Nat → Int32)) {out : ModS} (F : Fx G cX9_looks wsX9_looks RX9 cy 8 (rm_X9_looks)) (Rq : Rx G "looks" none none (fun z => z = [(sMod cy am out), (sI cy h1 24 A1)]) 0 0) (ke : ModS → Option (ModS)) (hke : ∀  (Mm : ModS), ke Mm = some out → Go G 0 0 203 [(0, .ref (am 0)), (1, .ref h1), (2, .int x2), (3, .int x3), (5, .int x5), (6, .int x6)] [] [(sMod cy am Mm), (sI cy h1 24 A1)]) : ∀ (n : Nat) (x7 : Int32) (Mm : ModS), k_X9_looks_116 x2 x3 x5 x6 A1 ke n x7 Mm = some out → Go G 0 0 116 [(0, .ref (am 0)), (1, .ref h1), (2, .int x2), (3, .int x3), (5, .int x5), (6, .int x6), (7, .int x7)] [] [(sMod cy am Mm), (sI cy h1 24 A1)] := by
  intro n
  induction n with
  | zero =>
    intro x7 Mm h
    exact nosome h
  | succ n ih =>
    intro x7 Mm h
    rw [k_X9_looks_116.eq_2] at h
    refine g_iload F dX9_looks_116 6 rfl ?_
    refine g_iload_n F dX9_looks_118 rfl 2 rfl ?_
    refine g_icmp_ge F 203 h dX9_looks_119 (by decide) (fun h => ?_) (fun h => ?_)
    · refine Go.sub (lv' := [(0, .ref (am 0)), (1, .ref h1), (2, .int x2), (3, .int x3), (5, .int x5), (6, .int x6)]) [0, 1, 2, 3, 4, 5] rfl ?_
      exact hke Mm h
    · refine g_aload_n F dX9_looks_122 rfl 0 rfl ?_
      refine g_dup F dX9_looks_123 rfl ?_
      refine g_get F (C := RX9) (T := TX9) (N := 36) (ci := 9) (v := .int (Mm 27)) hi_X9_looks_X9 0 0 27 dX9_looks_124 rfl rfl (by decide) fl_X9_looks_167 rfl ?_
      refine g_aload_n F dX9_looks_127 rfl 0 rfl ?_
      refine g_get F (C := RX9) (T := TX9) (N := 36) (ci := 9) (v := .int (Mm 27)) hi_X9_looks_X9 0 0 27 dX9_looks_128 rfl rfl (by decide) fl_X9_looks_167 rfl ?_
      refine g_iload F dX9_looks_131 6 rfl ?_
      obtain ⟨r3, hr3, h⟩ := bnd h
      refine g_cS F [.int (Mm 27), .int x7] (ok_X9_has (gl G) (gD G) cy (Mm 27) x7 r3 hr3) dX9_looks_133 gX9_looks_X9_has rfl cd_X9_has (by decide) rfl (Nat.le_of_ble_eq_true rfl) [] (by decide) rfl rfl (sg' := [(sMod cy am Mm), (sI cy h1 24 A1)]) (st' := [.int r3, .int (Mm 27), .ref (am 0)]) rfl rfl ?_
      refine g_if_eq F 151 h dX9_looks_136 (by decide) (fun h => ?_) (fun h => ?_)
      · refine g_iconst F (v := (0 : Int32)) dX9_looks_151 (by decide) ?_
        refine g_ior F dX9_looks_152 ?_
        refine g_put F (C := RX9) (T := TX9) (N := 36) (ci := 9) (v := .int ((Mm 27) ||| (0 : Int32))) (ty := .int) (sg' := [(sMod cy am (upd Mm 27 ((Mm 27) ||| (0 : Int32)))), (sI cy h1 24 A1)]) hi_X9_looks_X9 tyX9 tyX9_ok nmX9 0 0 27 dX9_looks_153 rfl rfl (by decide) fl_X9_looks_167 rfl rfl rfl rfl (Nat.le_of_ble_eq_true rfl) rfl ?_
        refine g_aload_n F dX9_looks_156 rfl 0 rfl ?_
        refine g_dup F dX9_looks_157 rfl ?_
        refine g_get F (C := RX9) (T := TX9) (N := 36) (ci := 9) (v := .int (Mm 26)) hi_X9_looks_X9 0 0 26 dX9_looks_158 rfl rfl (by decide) fl_X9_looks_164 rfl ?_
        refine g_aload_n F dX9_looks_161 rfl 1 rfl ?_
        refine g_iconst F (v := (0 : Int32)) dX9_looks_162 (by decide) ?_
        refine g_iload F dX9_looks_163 6 rfl ?_
        refine g_iadd F dX9_looks_165 ?_
        refine g_iaload F h 1 0 dX9_looks_166 rfl (fun h => ?_)
        refine g_aload_n F dX9_looks_167 rfl 0 rfl ?_
        refine g_get F (C := RX9) (T := TX9) (N := 36) (ci := 9) (v := .int (Mm 26)) hi_X9_looks_X9 0 0 26 dX9_looks_168 rfl rfl (by decide) fl_X9_looks_164 rfl ?_
        refine g_iand F dX9_looks_171 ?_
        refine g_if_eq F 192 h dX9_looks_172 (by decide) (fun h => ?_) (fun h => ?_)
        · refine g_iconst F (v := (0 : Int32)) dX9_looks_192 (by decide) ?_
          refine g_ior F dX9_looks_193 ?_
          refine g_put F (C := RX9) (T := TX9) (N := 36) (ci := 9) (v := .int ((Mm 26) ||| (0 : Int32))) (ty := .int) (sg' := [(sMod cy am (upd (upd Mm 27 ((Mm 27) ||| (0 : Int32))) 26 ((Mm 26) ||| (0 : Int32)))), (sI cy h1 24 A1)]) hi_X9_looks_X9 tyX9 tyX9_ok nmX9 0 0 26 dX9_looks_194 rfl rfl (by decide) fl_X9_looks_164 rfl rfl rfl rfl (Nat.le_of_ble_eq_true rfl) rfl ?_
          refine g_iinc F (v := (x7 + 1)) (lv' := [(7, .int (x7 + 1)), (0, .ref (am 0)), (1, .ref h1), (2, .int x2), (3, .int x3), (5, .int x5), (6, .int x6)]) dX9_looks_197 6 rfl rfl (by decide) rfl ?_
          refine g_goto F 116 dX9_looks_200 (by decide) ?_
          refine Go.sub (lv' := [(0, .ref (am 0)), (1, .ref h1), (2, .int x2), (3, .int x3), (5, .int x5), (6, .int x6), (7, .int (x7 + 1))]) [1, 2, 3, 4, 5, 6, 0] rfl ?_
          exact ih (x7 + 1) (upd (upd Mm 27 ((Mm 27) ||| (0 : Int32))) 26 ((Mm 26) ||| (0 : Int32))) h
        · refine g_iload F dX9_looks_175 4 rfl ?_
          refine g_iload F dX9_looks_177 6 rfl ?_
          obtain ⟨r4, hr4, h⟩ := bnd h
          refine g_cS F [.int x5, .int x7] (ok_X9_has (gl G) (gD G) cy x5 x7 r4 hr4) dX9_looks_179 gX9_looks_X9_has rfl cd_X9_has (by decide) rfl (Nat.le_of_ble_eq_true rfl) [] (by decide) rfl rfl (sg' := [(sMod cy am (upd Mm 27 ((Mm 27) ||| (0 : Int32)))), (sI cy h1 24 A1)]) (st' := [.int r4, .int (Mm 26), .ref (am 0)]) rfl rfl ?_
          refine g_if_eq F 192 h dX9_looks_182 (by decide) (fun h => ?_) (fun h => ?_)
          · refine g_iconst F (v := (0 : Int32)) dX9_looks_192 (by decide) ?_
            refine g_ior F dX9_looks_193 ?_
            refine g_put F (C := RX9) (T := TX9) (N := 36) (ci := 9) (v := .int ((Mm 26) ||| (0 : Int32))) (ty := .int) (sg' := [(sMod cy am (upd (upd Mm 27 ((Mm 27) ||| (0 : Int32))) 26 ((Mm 26) ||| (0 : Int32)))), (sI cy h1 24 A1)]) hi_X9_looks_X9 tyX9 tyX9_ok nmX9 0 0 26 dX9_looks_194 rfl rfl (by decide) fl_X9_looks_164 rfl rfl rfl rfl (Nat.le_of_ble_eq_true rfl) rfl ?_
            refine g_iinc F (v := (x7 + 1)) (lv' := [(7, .int (x7 + 1)), (0, .ref (am 0)), (1, .ref h1), (2, .int x2), (3, .int x3), (5, .int x5), (6, .int x6)]) dX9_looks_197 6 rfl rfl (by decide) rfl ?_
            refine g_goto F 116 dX9_looks_200 (by decide) ?_
            refine Go.sub (lv' := [(0, .ref (am 0)), (1, .ref h1), (2, .int x2), (3, .int x3), (5, .int x5), (6, .int x6), (7, .int (x7 + 1))]) [1, 2, 3, 4, 5, 6, 0] rfl ?_
            exact ih (x7 + 1) (upd (upd Mm 27 ((Mm 27) ||| (0 : Int32))) 26 ((Mm 26) ||| (0 : Int32))) h
          · refine g_iconst F (v := (1 : Int32)) dX9_looks_185 (by decide) ?_
            refine g_iload F dX9_looks_186 6 rfl ?_
            refine g_ishl F dX9_looks_188 ?_
            refine g_goto F 193 dX9_looks_189 (by decide) ?_
            refine g_ior F dX9_looks_193 ?_
            refine g_put F (C := RX9) (T := TX9) (N := 36) (ci := 9) (v := .int ((Mm 26) ||| ((1 : Int32) <<< (x7 &&& 31)))) (ty := .int) (sg' := [(sMod cy am (upd (upd Mm 27 ((Mm 27) ||| (0 : Int32))) 26 ((Mm 26) ||| ((1 : Int32) <<< (x7 &&& 31))))), (sI cy h1 24 A1)]) hi_X9_looks_X9 tyX9 tyX9_ok nmX9 0 0 26 dX9_looks_194 rfl rfl (by decide) fl_X9_looks_164 rfl rfl rfl rfl (Nat.le_of_ble_eq_true rfl) rfl ?_
            refine g_iinc F (v := (x7 + 1)) (lv' := [(7, .int (x7 + 1)), (0, .ref (am 0)), (1, .ref h1), (2, .int x2), (3, .int x3), (5, .int x5), (6, .int x6)]) dX9_looks_197 6 rfl rfl (by decide) rfl ?_
            refine g_goto F 116 dX9_looks_200 (by decide) ?_
            refine Go.sub (lv' := [(0, .ref (am 0)), (1, .ref h1), (2, .int x2), (3, .int x3), (5, .int x5), (6, .int x6), (7, .int (x7 + 1))]) [1, 2, 3, 4, 5, 6, 0] rfl ?_
            exact ih (x7 + 1) (upd (upd Mm 27 ((Mm 27) ||| (0 : Int32))) 26 ((Mm 26) ||| ((1 : Int32) <<< (x7 &&& 31)))) h
      · refine g_aload_n F dX9_looks_139 rfl 1 rfl ?_
        refine g_iconst F (v := (0 : Int32)) dX9_looks_140 (by decide) ?_
        refine g_iload F dX9_looks_141 6 rfl ?_
        refine g_iadd F dX9_looks_143 ?_
        refine g_iaload F h 1 0 dX9_looks_144 rfl (fun h => ?_)
        refine g_iload F dX9_looks_145 4 rfl ?_
        refine g_iand F dX9_looks_147 ?_
        refine g_goto F 152 dX9_looks_148 (by decide) ?_
        refine g_ior F dX9_looks_152 ?_
        refine g_put F (C := RX9) (T := TX9) (N := 36) (ci := 9) (v := .int ((Mm 27) ||| ((A1 (((0 : Int32) + x7)).toNatClampNeg) &&& x5))) (ty := .int) (sg' := [(sMod cy am (upd Mm 27 ((Mm 27) ||| ((A1 (((0 : Int32) + x7)).toNatClampNeg) &&& x5)))), (sI cy h1 24 A1)]) hi_X9_looks_X9 tyX9 tyX9_ok nmX9 0 0 27 dX9_looks_153 rfl rfl (by decide) fl_X9_looks_167 rfl rfl rfl rfl (Nat.le_of_ble_eq_true rfl) rfl ?_
        refine g_aload_n F dX9_looks_156 rfl 0 rfl ?_
        refine g_dup F dX9_looks_157 rfl ?_
        refine g_get F (C := RX9) (T := TX9) (N := 36) (ci := 9) (v := .int (Mm 26)) hi_X9_looks_X9 0 0 26 dX9_looks_158 rfl rfl (by decide) fl_X9_looks_164 rfl ?_
        refine g_aload_n F dX9_looks_161 rfl 1 rfl ?_
        refine g_iconst F (v := (0 : Int32)) dX9_looks_162 (by decide) ?_
        refine g_iload F dX9_looks_163 6 rfl ?_
        refine g_iadd F dX9_looks_165 ?_
        refine g_iaload F h 1 0 dX9_looks_166 rfl (fun h => ?_)
        refine g_aload_n F dX9_looks_167 rfl 0 rfl ?_
        refine g_get F (C := RX9) (T := TX9) (N := 36) (ci := 9) (v := .int (Mm 26)) hi_X9_looks_X9 0 0 26 dX9_looks_168 rfl rfl (by decide) fl_X9_looks_164 rfl ?_
        refine g_iand F dX9_looks_171 ?_
        refine g_if_eq F 192 h dX9_looks_172 (by decide) (fun h => ?_) (fun h => ?_)
        · refine g_iconst F (v := (0 : Int32)) dX9_looks_192 (by decide) ?_
          refine g_ior F dX9_looks_193 ?_
          refine g_put F (C := RX9) (T := TX9) (N := 36) (ci := 9) (v := .int ((Mm 26) ||| (0 : Int32))) (ty := .int) (sg' := [(sMod cy am (upd (upd Mm 27 ((Mm 27) ||| ((A1 (((0 : Int32) + x7)).toNatClampNeg) &&& x5))) 26 ((Mm 26) ||| (0 : Int32)))), (sI cy h1 24 A1)]) hi_X9_looks_X9 tyX9 tyX9_ok nmX9 0 0 26 dX9_looks_194 rfl rfl (by decide) fl_X9_looks_164 rfl rfl rfl rfl (Nat.le_of_ble_eq_true rfl) rfl ?_
          refine g_iinc F (v := (x7 + 1)) (lv' := [(7, .int (x7 + 1)), (0, .ref (am 0)), (1, .ref h1), (2, .int x2), (3, .int x3), (5, .int x5), (6, .int x6)]) dX9_looks_197 6 rfl rfl (by decide) rfl ?_
          refine g_goto F 116 dX9_looks_200 (by decide) ?_
          refine Go.sub (lv' := [(0, .ref (am 0)), (1, .ref h1), (2, .int x2), (3, .int x3), (5, .int x5), (6, .int x6), (7, .int (x7 + 1))]) [1, 2, 3, 4, 5, 6, 0] rfl ?_
          exact ih (x7 + 1) (upd (upd Mm 27 ((Mm 27) ||| ((A1 (((0 : Int32) + x7)).toNatClampNeg) &&& x5))) 26 ((Mm 26) ||| (0 : Int32))) h
        · refine g_iload F dX9_looks_175 4 rfl ?_
          refine g_iload F dX9_looks_177 6 rfl ?_
          obtain ⟨r5, hr5, h⟩ := bnd h
          refine g_cS F [.int x5, .int x7] (ok_X9_has (gl G) (gD G) cy x5 x7 r5 hr5) dX9_looks_179 gX9_looks_X9_has rfl cd_X9_has (by decide) rfl (Nat.le_of_ble_eq_true rfl) [] (by decide) rfl rfl (sg' := [(sMod cy am (upd Mm 27 ((Mm 27) ||| ((A1 (((0 : Int32) + x7)).toNatClampNeg) &&& x5)))), (sI cy h1 24 A1)]) (st' := [.int r5, .int (Mm 26), .ref (am 0)]) rfl rfl ?_
          refine g_if_eq F 192 h dX9_looks_182 (by decide) (fun h => ?_) (fun h => ?_)
          · refine g_iconst F (v := (0 : Int32)) dX9_looks_192 (by decide) ?_
            refine g_ior F dX9_looks_193 ?_
            refine g_put F (C := RX9) (T := TX9) (N := 36) (ci := 9) (v := .int ((Mm 26) ||| (0 : Int32))) (ty := .int) (sg' := [(sMod cy am (upd (upd Mm 27 ((Mm 27) ||| ((A1 (((0 : Int32) + x7)).toNatClampNeg) &&& x5))) 26 ((Mm 26) ||| (0 : Int32)))), (sI cy h1 24 A1)]) hi_X9_looks_X9 tyX9 tyX9_ok nmX9 0 0 26 dX9_looks_194 rfl rfl (by decide) fl_X9_looks_164 rfl rfl rfl rfl (Nat.le_of_ble_eq_true rfl) rfl ?_
            refine g_iinc F (v := (x7 + 1)) (lv' := [(7, .int (x7 + 1)), (0, .ref (am 0)), (1, .ref h1), (2, .int x2), (3, .int x3), (5, .int x5), (6, .int x6)]) dX9_looks_197 6 rfl rfl (by decide) rfl ?_
            refine g_goto F 116 dX9_looks_200 (by decide) ?_
            refine Go.sub (lv' := [(0, .ref (am 0)), (1, .ref h1), (2, .int x2), (3, .int x3), (5, .int x5), (6, .int x6), (7, .int (x7 + 1))]) [1, 2, 3, 4, 5, 6, 0] rfl ?_
            exact ih (x7 + 1) (upd (upd Mm 27 ((Mm 27) ||| ((A1 (((0 : Int32) + x7)).toNatClampNeg) &&& x5))) 26 ((Mm 26) ||| (0 : Int32))) h
          · refine g_iconst F (v := (1 : Int32)) dX9_looks_185 (by decide) ?_
            refine g_iload F dX9_looks_186 6 rfl ?_
            refine g_ishl F dX9_looks_188 ?_
            refine g_goto F 193 dX9_looks_189 (by decide) ?_
            refine g_ior F dX9_looks_193 ?_
            refine g_put F (C := RX9) (T := TX9) (N := 36) (ci := 9) (v := .int ((Mm 26) ||| ((1 : Int32) <<< (x7 &&& 31)))) (ty := .int) (sg' := [(sMod cy am (upd (upd Mm 27 ((Mm 27) ||| ((A1 (((0 : Int32) + x7)).toNatClampNeg) &&& x5))) 26 ((Mm 26) ||| ((1 : Int32) <<< (x7 &&& 31))))), (sI cy h1 24 A1)]) hi_X9_looks_X9 tyX9 tyX9_ok nmX9 0 0 26 dX9_looks_194 rfl rfl (by decide) fl_X9_looks_164 rfl rfl rfl rfl (Nat.le_of_ble_eq_true rfl) rfl ?_
            refine g_iinc F (v := (x7 + 1)) (lv' := [(7, .int (x7 + 1)), (0, .ref (am 0)), (1, .ref h1), (2, .int x2), (3, .int x3), (5, .int x5), (6, .int x6)]) dX9_looks_197 6 rfl rfl (by decide) rfl ?_
            refine g_goto F 116 dX9_looks_200 (by decide) ?_
            refine Go.sub (lv' := [(0, .ref (am 0)), (1, .ref h1), (2, .int x2), (3, .int x3), (5, .int x5), (6, .int x6), (7, .int (x7 + 1))]) [1, 2, 3, 4, 5, 6, 0] rfl ?_
            exact ih (x7 + 1) (upd (upd Mm 27 ((Mm 27) ||| ((A1 (((0 : Int32) + x7)).toNatClampNeg) &&& x5))) 26 ((Mm 26) ||| ((1 : Int32) <<< (x7 &&& 31)))) h
set_option maxHeartbeats 4000000 in
set_option maxRecDepth 100000 in
theorem k_X9_looks_107_ok {G : GX} {cy : Nat → ClassId} (am : Nat → Nat) (h1 : Nat)  (x2 : Int32) (x3 : Int32) (x5 : Int32) (A1 : (Nat → Int32)) {out : ModS} (F : Fx G cX9_looks wsX9_looks RX9 cy 8 (rm_X9_looks)) (Rq : Rx G "looks" none none (fun z => z = [(sMod cy am out), (sI cy h1 24 A1)]) 0 0) (ke : ModS → Option (ModS)) (hke : ∀  (Mm : ModS), ke Mm = some out → Go G 0 0 209 [(0, .ref (am 0)), (3, .int x3)] [] [(sMod cy am Mm), (sI cy h1 24 A1)]) : ∀ (n : Nat) (x6 : Int32) (Mm : ModS), k_X9_looks_107 x2 x3 x5 A1 ke n x6 Mm = some out → Go G 0 0 107 [(0, .ref (am 0)), (1, .ref h1), (2, .int x2), (3, .int x3), (5, .int x5), (6, .int x6)] [] [(sMod cy am Mm), (sI cy h1 24 A1)] := by
  intro n
  induction n with
  | zero =>
    intro x6 Mm h
    exact nosome h
  | succ n ih =>
    intro x6 Mm h
    rw [k_X9_looks_107.eq_2] at h
    refine g_iload F dX9_looks_107 5 rfl ?_
    refine g_iload_n F dX9_looks_109 rfl 2 rfl ?_
    refine g_icmp_ge F 209 h dX9_looks_110 (by decide) (fun h => ?_) (fun h => ?_)
    · refine Go.sub (lv' := [(0, .ref (am 0)), (3, .int x3)]) [0, 3] rfl ?_
      exact hke Mm h
    · refine g_iconst F (v := (0 : Int32)) dX9_looks_113 (by decide) ?_
      refine g_istore F (lv' := [(7, .int (0 : Int32)), (0, .ref (am 0)), (1, .ref h1), (2, .int x2), (3, .int x3), (5, .int x5), (6, .int x6)]) dX9_looks_114 (by decide) rfl ?_
      refine Go.sub (lv' := [(0, .ref (am 0)), (1, .ref h1), (2, .int x2), (3, .int x3), (5, .int x5), (6, .int x6), (7, .int (0 : Int32))]) [1, 2, 3, 4, 5, 6, 0] rfl ?_
      refine k_X9_looks_116_ok am h1 x2 x3 x5 x6 A1 F Rq _ (fun Mm_6 h => ?_) _ (0 : Int32) Mm h
      refine g_iinc F (v := (x6 + 1)) (lv' := [(6, .int (x6 + 1)), (0, .ref (am 0)), (1, .ref h1), (2, .int x2), (3, .int x3), (5, .int x5)]) dX9_looks_203 5 rfl rfl (by decide) rfl ?_
      refine g_goto F 107 dX9_looks_206 (by decide) ?_
      refine Go.sub (lv' := [(0, .ref (am 0)), (1, .ref h1), (2, .int x2), (3, .int x3), (5, .int x5), (6, .int (x6 + 1))]) [1, 2, 3, 4, 5, 0] rfl ?_
      exact ih (x6 + 1) Mm_6 h
set_option maxHeartbeats 4000000 in
set_option maxRecDepth 100000 in
theorem ok_X9_looks (l : Launch) (D : va_G) (cy : Nat → ClassId) (am : Nat → Nat) (h1 : Nat)  (Mm : ModS) (A1 : (Nat → Int32)) (x2 : Int32) (x3 : Int32) (x4 : Int32) (out : ModS) (h : f_X9_looks Mm A1 x2 x3 x4 = some out) : OK l D cy yX9_looks wsX9_looks rm_X9_looks [.ref (am 0), .ref h1, .int x2, .int x3, .int x4] [(sMod cy am Mm), (sI cy h1 24 A1)] none [(sMod cy am out), (sI cy h1 24 A1)] := by
  refine OKx.of (cc := cX9_looks) (maxL := 8) (ret := none) (by decide) rfl (Nat.le_of_ble_eq_true rfl) (fun G F Rq => ?_)
  show Go G 0 0 0 [(0, .ref (am 0)), (1, .ref h1), (2, .int x2), (3, .int x3), (4, .int x4)] [] [(sMod cy am Mm), (sI cy h1 24 A1)]
  replace F : Fx G cX9_looks wsX9_looks RX9 cy 8 (rm_X9_looks) := F
  replace Rq : Rx G "looks" none none (fun z => z = [(sMod cy am out), (sI cy h1 24 A1)]) 0 0 := Rq
  unfold f_X9_looks at h
  refine g_aload_n F dX9_looks_0 rfl 0 rfl ?_
  refine g_iconst F (v := (0 : Int32)) dX9_looks_1 (by decide) ?_
  refine g_put F (C := RX9) (T := TX9) (N := 36) (ci := 9) (v := .int (0 : Int32)) (ty := .int) (sg' := [(sMod cy am (upd Mm 26 (0 : Int32))), (sI cy h1 24 A1)]) hi_X9_looks_X9 tyX9 tyX9_ok nmX9 0 0 26 dX9_looks_2 rfl rfl (by decide) fl_X9_looks_164 rfl rfl rfl rfl (Nat.le_of_ble_eq_true rfl) rfl ?_
  refine g_aload_n F dX9_looks_5 rfl 0 rfl ?_
  refine g_iconst F (v := (0 : Int32)) dX9_looks_6 (by decide) ?_
  refine g_put F (C := RX9) (T := TX9) (N := 36) (ci := 9) (v := .int (0 : Int32)) (ty := .int) (sg' := [(sMod cy am (upd (upd Mm 26 (0 : Int32)) 27 (0 : Int32))), (sI cy h1 24 A1)]) hi_X9_looks_X9 tyX9 tyX9_ok nmX9 0 0 27 dX9_looks_7 rfl rfl (by decide) fl_X9_looks_167 rfl rfl rfl rfl (Nat.le_of_ble_eq_true rfl) rfl ?_
  refine g_aload_n F dX9_looks_10 rfl 0 rfl ?_
  refine g_iconst F (v := (0 : Int32)) dX9_looks_11 (by decide) ?_
  refine g_put F (C := RX9) (T := TX9) (N := 36) (ci := 9) (v := .int (0 : Int32)) (ty := .boolean) (sg' := [(sMod cy am (upd (upd (upd Mm 26 (0 : Int32)) 27 (0 : Int32)) 28 (0 : Int32))), (sI cy h1 24 A1)]) hi_X9_looks_X9 tyX9 tyX9_ok nmX9 0 0 28 dX9_looks_12 rfl rfl (by decide) fl_X9_looks_126 rfl rfl rfl rfl (Nat.le_of_ble_eq_true rfl) rfl ?_
  refine g_aload_n F dX9_looks_15 rfl 1 rfl ?_
  refine g_bipush F (v := (12 : Int32)) dX9_looks_16 (by decide) ?_
  refine g_iload_n F dX9_looks_18 rfl 3 rfl ?_
  refine g_iadd F dX9_looks_19 ?_
  refine g_iaload F h 1 0 dX9_looks_20 rfl (fun h => ?_)
  refine g_aload_n F dX9_looks_21 rfl 1 rfl ?_
  refine g_bipush F (v := (12 : Int32)) dX9_looks_22 (by decide) ?_
  refine g_iload F dX9_looks_24 4 rfl ?_
  refine g_iadd F dX9_looks_26 ?_
  refine g_iaload F h 1 0 dX9_looks_27 rfl (fun h => ?_)
  refine g_icmp_ge F 32 h dX9_looks_28 (by decide) (fun h => ?_) (fun h => ?_)
  · refine g_iconst F (v := (0 : Int32)) dX9_looks_32 (by decide) ?_
    refine g_istore F (lv' := [(5, .int (0 : Int32)), (0, .ref (am 0)), (1, .ref h1), (2, .int x2), (3, .int x3), (4, .int x4)]) dX9_looks_33 (by decide) rfl ?_
    refine g_iconst F (v := (0 : Int32)) dX9_looks_35 (by decide) ?_
    refine g_istore F (lv' := [(6, .int (0 : Int32)), (5, .int (0 : Int32)), (0, .ref (am 0)), (1, .ref h1), (2, .int x2), (3, .int x3), (4, .int x4)]) dX9_looks_36 (by decide) rfl ?_
    refine Go.sub (lv' := [(0, .ref (am 0)), (1, .ref h1), (2, .int x2), (3, .int x3), (4, .int x4), (5, .int (0 : Int32)), (6, .int (0 : Int32))]) [2, 3, 4, 5, 6, 1, 0] rfl ?_
    refine k_X9_looks_38_ok am h1 x2 x3 x4 (upd (upd (upd Mm 26 (0 : Int32)) 27 (0 : Int32)) 28 (0 : Int32)) A1 F Rq _ (fun x5_2 h => ?_) _ (0 : Int32) (0 : Int32) h
    refine g_aload_n F dX9_looks_89 rfl 0 rfl ?_
    refine g_iconst F (v := (1 : Int32)) dX9_looks_90 (by decide) ?_
    refine g_iload F dX9_looks_91 4 rfl ?_
    refine g_ishl F dX9_looks_93 ?_
    refine g_put F (C := RX9) (T := TX9) (N := 36) (ci := 9) (v := .int ((1 : Int32) <<< (x4 &&& 31))) (ty := .int) (sg' := [(sMod cy am (upd (upd (upd Mm 26 (0 : Int32)) 28 (0 : Int32)) 27 ((1 : Int32) <<< (x4 &&& 31)))), (sI cy h1 24 A1)]) hi_X9_looks_X9 tyX9 tyX9_ok nmX9 0 0 27 dX9_looks_94 rfl rfl (by decide) fl_X9_looks_167 rfl rfl rfl rfl (Nat.le_of_ble_eq_true rfl) rfl ?_
    refine g_aload_n F dX9_looks_97 rfl 0 rfl ?_
    refine g_iconst F (v := (1 : Int32)) dX9_looks_98 (by decide) ?_
    refine g_iload_n F dX9_looks_99 rfl 3 rfl ?_
    refine g_ishl F dX9_looks_100 ?_
    refine g_put F (C := RX9) (T := TX9) (N := 36) (ci := 9) (v := .int ((1 : Int32) <<< (x3 &&& 31))) (ty := .int) (sg' := [(sMod cy am (upd (upd (upd Mm 28 (0 : Int32)) 27 ((1 : Int32) <<< (x4 &&& 31))) 26 ((1 : Int32) <<< (x3 &&& 31)))), (sI cy h1 24 A1)]) hi_X9_looks_X9 tyX9 tyX9_ok nmX9 0 0 26 dX9_looks_101 rfl rfl (by decide) fl_X9_looks_164 rfl rfl rfl rfl (Nat.le_of_ble_eq_true rfl) rfl ?_
    refine g_iconst F (v := (0 : Int32)) dX9_looks_104 (by decide) ?_
    refine g_istore F (lv' := [(6, .int (0 : Int32)), (0, .ref (am 0)), (1, .ref h1), (2, .int x2), (3, .int x3), (4, .int x4), (5, .int x5_2)]) dX9_looks_105 (by decide) rfl ?_
    refine Go.sub (lv' := [(0, .ref (am 0)), (1, .ref h1), (2, .int x2), (3, .int x3), (5, .int x5_2), (6, .int (0 : Int32))]) [1, 2, 3, 4, 6, 0] rfl ?_
    refine k_X9_looks_107_ok am h1 x2 x3 x5_2 A1 F Rq _ (fun Mm_7 h => ?_) _ (0 : Int32) (upd (upd (upd Mm 28 (0 : Int32)) 27 ((1 : Int32) <<< (x4 &&& 31))) 26 ((1 : Int32) <<< (x3 &&& 31))) h
    refine g_aload_n F dX9_looks_209 rfl 0 rfl ?_
    refine g_aload_n F dX9_looks_210 rfl 0 rfl ?_
    refine g_get F (C := RX9) (T := TX9) (N := 36) (ci := 9) (v := .int (Mm_7 27)) hi_X9_looks_X9 0 0 27 dX9_looks_211 rfl rfl (by decide) fl_X9_looks_167 rfl ?_
    refine g_iload_n F dX9_looks_214 rfl 1 rfl ?_
    obtain ⟨r8, hr8, h⟩ := bnd h
    refine g_cS F [.int (Mm_7 27), .int x3] (ok_X9_has (gl G) (gD G) cy (Mm_7 27) x3 r8 hr8) dX9_looks_215 gX9_looks_X9_has rfl cd_X9_has (by decide) rfl (Nat.le_of_ble_eq_true rfl) [] (by decide) rfl rfl (sg' := [(sMod cy am Mm_7), (sI cy h1 24 A1)]) (st' := [.int r8, .ref (am 0)]) rfl rfl ?_
    obtain ⟨z9, h⟩ := grd h
    refine g_put F (C := RX9) (T := TX9) (N := 36) (ci := 9) (v := .int r8) (ty := .boolean) (sg' := [(sMod cy am (upd Mm_7 28 r8)), (sI cy h1 24 A1)]) hi_X9_looks_X9 tyX9 tyX9_ok nmX9 0 0 28 dX9_looks_218 rfl rfl (by decide) fl_X9_looks_126 rfl rfl (isZ_n z9) (isZ_f z9) (Nat.le_of_ble_eq_true rfl) rfl ?_
    obtain rfl := Option.some.inj h
    exact g_vret F Rq rfl dX9_looks_221
  · obtain rfl := Option.some.inj h
    exact g_vret F Rq rfl dX9_looks_31
theorem hi_X9_canBe_X9 : ∀ w ∈ u_ws RX9 TX9 36, w ∈ wsX9_canBe := by decide +kernel
theorem fl_X9_canBe_112 : Cond.fieldLink RX9 112 "ArcOrderModel" "draftItems" "I" ∈ wsX9_canBe := by decide +kernel
theorem fl_X9_canBe_99 : Cond.fieldLink RX9 99 "ArcOrderModel" "value" "I" ∈ wsX9_canBe := by decide +kernel
theorem fl_X9_canBe_13 : Cond.fieldLink RX9 13 "ArcOrderModel" "draft" "[I" ∈ wsX9_canBe := by decide +kernel
theorem fl_X9_canBe_126 : Cond.fieldLink RX9 126 "ArcOrderModel" "closes" "Z" ∈ wsX9_canBe := by decide +kernel
abbrev rm_X9_canBe : Room := { frames := 2, cells := 0, slots := 0, locals := 49 }
set_option maxHeartbeats 4000000 in
set_option maxRecDepth 100000 in
theorem ok_X9_canBe (l : Launch) (D : va_G) (cy : Nat → ClassId) (am : Nat → Nat)  (Mm : ModS) (m_draft : (Nat → Int32)) (x1 : Int32) (out : Int32 × ModS) (h : f_X9_canBe Mm m_draft x1 = some out) : OK l D cy yX9_canBe wsX9_canBe rm_X9_canBe [.ref (am 0), .int x1] [(sMod cy am Mm), (sI cy (am 11) 24 m_draft)] (some (.int out.1)) [(sMod cy am out.2), (sI cy (am 11) 24 m_draft)] := by
  refine OKx.of (cc := cX9_canBe) (maxL := 2) (ret := (some .boolean)) (by decide) rfl (Nat.le_of_ble_eq_true rfl) (fun G F Rq => ?_)
  show Go G 0 0 0 [(0, .ref (am 0)), (1, .int x1)] [] [(sMod cy am Mm), (sI cy (am 11) 24 m_draft)]
  replace F : Fx G cX9_canBe wsX9_canBe RX9 cy 2 (rm_X9_canBe) := F
  replace Rq : Rx G "canBe" (some .boolean) (some (.int out.1)) (fun z => z = [(sMod cy am out.2), (sI cy (am 11) 24 m_draft)]) 0 0 := Rq
  unfold f_X9_canBe at h
  refine g_aload_n F dX9_canBe_0 rfl 0 rfl ?_
  refine g_iconst F (v := (0 : Int32)) dX9_canBe_1 (by decide) ?_
  refine g_aload_n F dX9_canBe_2 rfl 0 rfl ?_
  refine g_get F (C := RX9) (T := TX9) (N := 36) (ci := 9) (v := .int (Mm 9)) hi_X9_canBe_X9 0 0 9 dX9_canBe_3 rfl rfl (by decide) fl_X9_canBe_112 rfl ?_
  refine g_iconst F (v := (1 : Int32)) dX9_canBe_6 (by decide) ?_
  refine g_isub F dX9_canBe_7 ?_
  obtain ⟨r1, hr1, h⟩ := bnd h
  refine g_cV F [.int (0 : Int32), .int ((Mm 9) - (1 : Int32))] 0 0 (ok_X9_isNumber (gl G) (gD G) cy am Mm (0 : Int32) ((Mm 9) - (1 : Int32)) r1 hr1) dX9_canBe_8 rfl rfl gX9_canBe_X9_isNumber rfl ⟨rfl, cd_X9_isNumber⟩ (by decide) rfl (Nat.le_of_ble_eq_true rfl) [0] (by decide) rfl rfl (sg' := [(sMod cy am Mm), (sI cy (am 11) 24 m_draft)]) (st' := [.int r1]) rfl rfl ?_
  refine g_if_eq F 40 h dX9_canBe_11 (by decide) (fun h => ?_) (fun h => ?_)
  · refine g_iconst F (v := (0 : Int32)) dX9_canBe_40 (by decide) ?_
    obtain rfl := Option.some.inj h
    exact g_zret F Rq rfl rfl dX9_canBe_41
  · refine g_aload_n F dX9_canBe_14 rfl 0 rfl ?_
    refine g_get F (C := RX9) (T := TX9) (N := 36) (ci := 9) (v := .int (Mm 6)) hi_X9_canBe_X9 0 0 6 dX9_canBe_15 rfl rfl (by decide) fl_X9_canBe_99 rfl ?_
    refine g_iload_n F dX9_canBe_18 rfl 1 rfl ?_
    refine g_icmp_eq F 40 h dX9_canBe_19 (by decide) (fun h => ?_) (fun h => ?_)
    · refine g_iconst F (v := (0 : Int32)) dX9_canBe_40 (by decide) ?_
      obtain rfl := Option.some.inj h
      exact g_zret F Rq rfl rfl dX9_canBe_41
    · refine g_aload_n F dX9_canBe_22 rfl 0 rfl ?_
      refine g_get F (C := RX9) (T := TX9) (N := 36) (ci := 9) (v := .ref (am 11)) hi_X9_canBe_X9 0 0 10 dX9_canBe_23 rfl rfl (by decide) fl_X9_canBe_13 rfl ?_
      refine g_iconst F (v := (0 : Int32)) dX9_canBe_26 (by decide) ?_
      refine g_iload_n F dX9_canBe_27 rfl 1 rfl ?_
      refine g_iadd F dX9_canBe_28 ?_
      refine g_iaload F h 1 0 dX9_canBe_29 rfl (fun h => ?_)
      refine g_aload_n F dX9_canBe_30 rfl 0 rfl ?_
      refine g_get F (C := RX9) (T := TX9) (N := 36) (ci := 9) (v := .int (Mm 6)) hi_X9_canBe_X9 0 0 6 dX9_canBe_31 rfl rfl (by decide) fl_X9_canBe_99 rfl ?_
      obtain ⟨r2, hr2, h⟩ := bnd h
      refine g_cS F [.int (m_draft (((0 : Int32) + x1)).toNatClampNeg), .int (Mm 6)] (ok_X9_has (gl G) (gD G) cy (m_draft (((0 : Int32) + x1)).toNatClampNeg) (Mm 6) r2 hr2) dX9_canBe_34 gX9_canBe_X9_has rfl cd_X9_has (by decide) rfl (Nat.le_of_ble_eq_true rfl) [] (by decide) rfl rfl (sg' := [(sMod cy am Mm), (sI cy (am 11) 24 m_draft)]) (st' := [.int r2]) rfl rfl ?_
      refine g_if_eq F 42 h dX9_canBe_37 (by decide) (fun h => ?_) (fun h => ?_)
      · refine g_aload_n F dX9_canBe_42 rfl 0 rfl ?_
        refine g_aload_n F dX9_canBe_43 rfl 0 rfl ?_
        refine g_get F (C := RX9) (T := TX9) (N := 36) (ci := 9) (v := .ref (am 11)) hi_X9_canBe_X9 0 0 10 dX9_canBe_44 rfl rfl (by decide) fl_X9_canBe_13 rfl ?_
        refine g_aload_n F dX9_canBe_47 rfl 0 rfl ?_
        refine g_get F (C := RX9) (T := TX9) (N := 36) (ci := 9) (v := .int (Mm 9)) hi_X9_canBe_X9 0 0 9 dX9_canBe_48 rfl rfl (by decide) fl_X9_canBe_112 rfl ?_
        refine g_iload_n F dX9_canBe_51 rfl 1 rfl ?_
        refine g_aload_n F dX9_canBe_52 rfl 0 rfl ?_
        refine g_get F (C := RX9) (T := TX9) (N := 36) (ci := 9) (v := .int (Mm 6)) hi_X9_canBe_X9 0 0 6 dX9_canBe_53 rfl rfl (by decide) fl_X9_canBe_99 rfl ?_
        obtain ⟨r3, hr3, h⟩ := bnd h
        refine g_cV F [.ref (am 11), .int (Mm 9), .int x1, .int (Mm 6)] 0 0 (ok_X9_looks (gl G) (gD G) cy am (am 11) Mm m_draft (Mm 9) x1 (Mm 6) r3 hr3) dX9_canBe_56 rfl rfl gX9_canBe_X9_looks rfl ⟨rfl, cd_X9_looks⟩ (by decide) rfl (Nat.le_of_ble_eq_true rfl) [0, 1] (by decide) rfl rfl (sg' := [(sMod cy am r3), (sI cy (am 11) 24 m_draft)]) (st' := []) rfl rfl ?_
        refine g_aload_n F dX9_canBe_59 rfl 0 rfl ?_
        refine g_get F (C := RX9) (T := TX9) (N := 36) (ci := 9) (v := .int (r3 28)) hi_X9_canBe_X9 0 0 28 dX9_canBe_60 rfl rfl (by decide) fl_X9_canBe_126 rfl ?_
        refine g_if_ne F 70 h dX9_canBe_63 (by decide) (fun h => ?_) (fun h => ?_)
        · refine g_iconst F (v := (0 : Int32)) dX9_canBe_70 (by decide) ?_
          obtain rfl := Option.some.inj h
          exact g_zret F Rq rfl rfl dX9_canBe_71
        · refine g_iconst F (v := (1 : Int32)) dX9_canBe_66 (by decide) ?_
          refine g_goto F 71 dX9_canBe_67 (by decide) ?_
          obtain rfl := Option.some.inj h
          exact g_zret F Rq rfl rfl dX9_canBe_71
      · refine g_iconst F (v := (0 : Int32)) dX9_canBe_40 (by decide) ?_
        obtain rfl := Option.some.inj h
        exact g_zret F Rq rfl rfl dX9_canBe_41
abbrev rm_X9_itemAt : Room := { frames := 0, cells := 0, slots := 0, locals := 0 }
set_option maxHeartbeats 4000000 in
set_option maxRecDepth 100000 in
theorem k_X9_itemAt_2_ok {G : GX} {cy : Nat → ClassId} (h0 : Nat)  (x2 : Int32) (A0 : (Nat → Int32)) {out : Int32} (F : Fx G cX9_itemAt wsX9_itemAt RX9 cy 4 (rm_X9_itemAt)) (Rq : Rx G "itemAt" (some .int) (some (.int out)) (fun z => z = [(sI cy h0 24 A0)]) 0 0) (ke : Int32 → Option (Int32)) (hke : ∀ (x3 : Int32) , ke x3 = some out → Go G 0 0 18 [(3, .int x3)] [] [(sI cy h0 24 A0)]) : ∀ (n : Nat) (x3 : Int32) , k_X9_itemAt_2 x2 A0 ke n x3 = some out → Go G 0 0 2 [(0, .ref h0), (2, .int x2), (3, .int x3)] [] [(sI cy h0 24 A0)] := by
  intro n
  induction n with
  | zero =>
    intro x3 h
    exact nosome h
  | succ n ih =>
    intro x3 h
    rw [k_X9_itemAt_2.eq_2] at h
    refine g_aload_n F dX9_itemAt_2 rfl 0 rfl ?_
    refine g_bipush F (v := (12 : Int32)) dX9_itemAt_3 (by decide) ?_
    refine g_iload_n F dX9_itemAt_5 rfl 2 rfl ?_
    refine g_iadd F dX9_itemAt_6 ?_
    refine g_iaload F h 0 0 dX9_itemAt_7 rfl (fun h => ?_)
    refine g_iload_n F dX9_itemAt_8 rfl 1 rfl ?_
    refine g_icmp_eq F 18 h dX9_itemAt_9 (by decide) (fun h => ?_) (fun h => ?_)
    · refine Go.sub (lv' := [(3, .int x3)]) [2] rfl ?_
      exact hke x3 h
    · refine g_iinc F (v := (x3 + 1)) (lv' := [(3, .int (x3 + 1)), (0, .ref h0), (2, .int x2)]) dX9_itemAt_12 2 rfl rfl (by decide) rfl ?_
      refine g_goto F 2 dX9_itemAt_15 (by decide) ?_
      refine Go.sub (lv' := [(0, .ref h0), (2, .int x2), (3, .int (x3 + 1))]) [1, 2, 0] rfl ?_
      exact ih (x3 + 1) h
set_option maxHeartbeats 4000000 in
set_option maxRecDepth 100000 in
theorem ok_X9_itemAt (l : Launch) (D : va_G) (cy : Nat → ClassId) (h0 : Nat)  (A0 : (Nat → Int32)) (x1 : Int32) (x2 : Int32) (out : Int32) (h : f_X9_itemAt A0 x1 x2 = some out) : OK l D cy yX9_itemAt wsX9_itemAt rm_X9_itemAt [.ref h0, .int x1, .int x2] [(sI cy h0 24 A0)] (some (.int out)) [(sI cy h0 24 A0)] := by
  refine OKx.of (cc := cX9_itemAt) (maxL := 4) (ret := (some .int)) (by decide) rfl (Nat.le_of_ble_eq_true rfl) (fun G F Rq => ?_)
  show Go G 0 0 0 [(0, .ref h0), (1, .int x1), (2, .int x2)] [] [(sI cy h0 24 A0)]
  replace F : Fx G cX9_itemAt wsX9_itemAt RX9 cy 4 (rm_X9_itemAt) := F
  replace Rq : Rx G "itemAt" (some .int) (some (.int out)) (fun z => z = [(sI cy h0 24 A0)]) 0 0 := Rq
  unfold f_X9_itemAt at h
  refine g_iconst F (v := (0 : Int32)) dX9_itemAt_0 (by decide) ?_
  refine g_istore_n F (lv' := [(3, .int (0 : Int32)), (0, .ref h0), (1, .int x1), (2, .int x2)]) dX9_itemAt_1 rfl (by decide) rfl ?_
  refine Go.sub (lv' := [(0, .ref h0), (2, .int x2), (3, .int (0 : Int32))]) [1, 3, 0] rfl ?_
  refine k_X9_itemAt_2_ok h0 x2 A0 F Rq _ (fun x3_1 h => ?_) _ (0 : Int32) h
  refine g_iload_n F dX9_itemAt_18 rfl 0 rfl ?_
  obtain rfl := Option.some.inj h
  exact g_iret F Rq rfl dX9_itemAt_19
theorem hi_X9_moves_X9 : ∀ w ∈ u_ws RX9 TX9 36, w ∈ wsX9_moves := by decide +kernel
theorem fl_X9_moves_164 : Cond.fieldLink RX9 164 "ArcOrderModel" "before" "I" ∈ wsX9_moves := by decide +kernel
theorem fl_X9_moves_167 : Cond.fieldLink RX9 167 "ArcOrderModel" "after" "I" ∈ wsX9_moves := by decide +kernel
theorem fl_X9_moves_60 : Cond.fieldLink RX9 60 "ArcOrderModel" "order" "[I" ∈ wsX9_moves := by decide +kernel
theorem fl_X9_moves_19 : Cond.fieldLink RX9 19 "ArcOrderModel" "w" "[I" ∈ wsX9_moves := by decide +kernel
abbrev rm_X9_moves : Room := { frames := 1, cells := 0, slots := 0, locals := 23 }
set_option maxHeartbeats 4000000 in
set_option maxRecDepth 100000 in
theorem k_X9_moves_25_ok {G : GX} {cy : Nat → ClassId} (am : Nat → Nat) (h1 : Nat)  (x2 : Int32) (x3 : Int32) (x5 : Int32) (Mm : ModS) (m_w : (Nat → Int32)) (A1 : (Nat → Int32)) {out : (Nat → Int32) × (Nat → Int32) × (Nat → Int32)} (F : Fx G cX9_moves wsX9_moves RX9 cy 8 (rm_X9_moves)) (Rq : Rx G "moves" none none (fun z => z = [(sMod cy am Mm), (sI cy (am 13) 24 out.1), (sI cy (am 33) 12 out.2.1), (sI cy h1 24 out.2.2)]) 0 0) (ke : Int32 → (Nat → Int32) → Option ((Nat → Int32) × (Nat → Int32) × (Nat → Int32))) (hke : ∀ (x4 : Int32) (m_order : (Nat → Int32)), ke x4 m_order = some out → Go G 0 0 82 [(0, .ref (am 0)), (1, .ref h1), (2, .int x2), (3, .int x3), (4, .int x4), (5, .int x5)] [] [(sMod cy am Mm), (sI cy (am 13) 24 m_w), (sI cy (am 33) 12 m_order), (sI cy h1 24 A1)]) : ∀ (n : Nat) (x4 : Int32) (x6 : Int32) (m_order : (Nat → Int32)), k_X9_moves_25 x2 x3 x5 Mm m_w A1 ke n x4 x6 m_order = some out → Go G 0 0 25 [(0, .ref (am 0)), (1, .ref h1), (2, .int x2), (3, .int x3), (4, .int x4), (5, .int x5), (6, .int x6)] [] [(sMod cy am Mm), (sI cy (am 13) 24 m_w), (sI cy (am 33) 12 m_order), (sI cy h1 24 A1)] := by
  intro n
  induction n with
  | zero =>
    intro x4 x6 m_order h
    exact nosome h
  | succ n ih =>
    intro x4 x6 m_order h
    rw [k_X9_moves_25.eq_2] at h
    refine g_iload F dX9_moves_25 6 rfl ?_
    refine g_iload_n F dX9_moves_27 rfl 2 rfl ?_
    refine g_icmp_ge F 82 h dX9_moves_28 (by decide) (fun h => ?_) (fun h => ?_)
    · refine Go.sub (lv' := [(0, .ref (am 0)), (1, .ref h1), (2, .int x2), (3, .int x3), (4, .int x4), (5, .int x5)]) [0, 1, 2, 3, 4, 5] rfl ?_
      exact hke x4 m_order h
    · refine g_aload_n F dX9_moves_31 rfl 1 rfl ?_
      refine g_iload_n F dX9_moves_32 rfl 2 rfl ?_
      refine g_iload F dX9_moves_33 6 rfl ?_
      obtain ⟨r1, hr1, h⟩ := bnd h
      refine g_cS F [.ref h1, .int x2, .int x6] (ok_X9_itemAt (gl G) (gD G) cy h1 A1 x2 x6 r1 hr1) dX9_moves_35 gX9_moves_X9_itemAt rfl cd_X9_itemAt (by decide) rfl (Nat.le_of_ble_eq_true rfl) [3] (by decide) rfl rfl (sg' := [(sMod cy am Mm), (sI cy (am 13) 24 m_w), (sI cy (am 33) 12 m_order), (sI cy h1 24 A1)]) (st' := [.int r1]) rfl rfl ?_
      refine g_istore F (lv' := [(7, .int r1), (0, .ref (am 0)), (1, .ref h1), (2, .int x2), (3, .int x3), (4, .int x4), (5, .int x5), (6, .int x6)]) dX9_moves_38 (by decide) rfl ?_
      refine g_iload F dX9_moves_40 6 rfl ?_
      refine g_if_ne F 52 h dX9_moves_42 (by decide) (fun h => ?_) (fun h => ?_)
      · refine g_aload_n F dX9_moves_52 rfl 1 rfl ?_
        refine g_get F (C := RX9) (T := TX9) (N := 36) (ci := 9) (v := .int (Mm 27)) hi_X9_moves_X9 0 0 27 dX9_moves_53 rfl rfl (by decide) fl_X9_moves_167 rfl ?_
        refine g_iload F dX9_moves_56 0 rfl ?_
        obtain ⟨r2, hr2, h⟩ := bnd h
        refine g_cS F [.int (Mm 27), .int r1] (ok_X9_has (gl G) (gD G) cy (Mm 27) r1 r2 hr2) dX9_moves_58 gX9_moves_X9_has rfl cd_X9_has (by decide) rfl (Nat.le_of_ble_eq_true rfl) [] (by decide) rfl rfl (sg' := [(sMod cy am Mm), (sI cy (am 13) 24 m_w), (sI cy (am 33) 12 m_order), (sI cy h1 24 A1)]) (st' := [.int r2]) rfl rfl ?_
        refine g_if_eq F 76 h dX9_moves_61 (by decide) (fun h => ?_) (fun h => ?_)
        · refine g_iinc F (v := (x6 + 1)) (lv' := [(6, .int (x6 + 1)), (7, .int r1), (0, .ref (am 0)), (1, .ref h1), (2, .int x2), (3, .int x3), (4, .int x4), (5, .int x5)]) dX9_moves_76 7 rfl rfl (by decide) rfl ?_
          refine g_goto F 25 dX9_moves_79 (by decide) ?_
          refine Go.sub (lv' := [(0, .ref (am 0)), (1, .ref h1), (2, .int x2), (3, .int x3), (4, .int x4), (5, .int x5), (6, .int (x6 + 1))]) [2, 3, 4, 5, 6, 7, 0] rfl ?_
          exact ih x4 (x6 + 1) m_order h
        · refine g_aload_n F dX9_moves_64 rfl 1 rfl ?_
          refine g_get F (C := RX9) (T := TX9) (N := 36) (ci := 9) (v := .ref (am 33)) hi_X9_moves_X9 0 0 32 dX9_moves_65 rfl rfl (by decide) fl_X9_moves_60 rfl ?_
          refine g_iload F dX9_moves_68 5 rfl ?_
          refine g_iload F dX9_moves_70 0 rfl ?_
          refine g_iastore F h (sg' := [(sMod cy am Mm), (sI cy (am 13) 24 m_w), (sI cy (am 33) 12 (upd m_order (x4).toNatClampNeg r1)), (sI cy h1 24 A1)]) 2 0 dX9_moves_72 rfl rfl (fun h => ?_)
          refine g_iinc F (v := (x4 + 1)) (lv' := [(4, .int (x4 + 1)), (7, .int r1), (0, .ref (am 0)), (1, .ref h1), (2, .int x2), (3, .int x3), (5, .int x5), (6, .int x6)]) dX9_moves_73 5 rfl rfl (by decide) rfl ?_
          refine g_iinc F (v := (x6 + 1)) (lv' := [(6, .int (x6 + 1)), (4, .int (x4 + 1)), (7, .int r1), (0, .ref (am 0)), (1, .ref h1), (2, .int x2), (3, .int x3), (5, .int x5)]) dX9_moves_76 7 rfl rfl (by decide) rfl ?_
          refine g_goto F 25 dX9_moves_79 (by decide) ?_
          refine Go.sub (lv' := [(0, .ref (am 0)), (1, .ref h1), (2, .int x2), (3, .int x3), (4, .int (x4 + 1)), (5, .int x5), (6, .int (x6 + 1))]) [3, 4, 5, 6, 1, 7, 0] rfl ?_
          exact ih (x4 + 1) (x6 + 1) (upd m_order (x4).toNatClampNeg r1) h
      · refine g_aload_n F dX9_moves_45 rfl 1 rfl ?_
        refine g_get F (C := RX9) (T := TX9) (N := 36) (ci := 9) (v := .int (Mm 26)) hi_X9_moves_X9 0 0 26 dX9_moves_46 rfl rfl (by decide) fl_X9_moves_164 rfl ?_
        refine g_goto F 56 dX9_moves_49 (by decide) ?_
        refine g_iload F dX9_moves_56 0 rfl ?_
        obtain ⟨r3, hr3, h⟩ := bnd h
        refine g_cS F [.int (Mm 26), .int r1] (ok_X9_has (gl G) (gD G) cy (Mm 26) r1 r3 hr3) dX9_moves_58 gX9_moves_X9_has rfl cd_X9_has (by decide) rfl (Nat.le_of_ble_eq_true rfl) [] (by decide) rfl rfl (sg' := [(sMod cy am Mm), (sI cy (am 13) 24 m_w), (sI cy (am 33) 12 m_order), (sI cy h1 24 A1)]) (st' := [.int r3]) rfl rfl ?_
        refine g_if_eq F 76 h dX9_moves_61 (by decide) (fun h => ?_) (fun h => ?_)
        · refine g_iinc F (v := (x6 + 1)) (lv' := [(6, .int (x6 + 1)), (7, .int r1), (0, .ref (am 0)), (1, .ref h1), (2, .int x2), (3, .int x3), (4, .int x4), (5, .int x5)]) dX9_moves_76 7 rfl rfl (by decide) rfl ?_
          refine g_goto F 25 dX9_moves_79 (by decide) ?_
          refine Go.sub (lv' := [(0, .ref (am 0)), (1, .ref h1), (2, .int x2), (3, .int x3), (4, .int x4), (5, .int x5), (6, .int (x6 + 1))]) [2, 3, 4, 5, 6, 7, 0] rfl ?_
          exact ih x4 (x6 + 1) m_order h
        · refine g_aload_n F dX9_moves_64 rfl 1 rfl ?_
          refine g_get F (C := RX9) (T := TX9) (N := 36) (ci := 9) (v := .ref (am 33)) hi_X9_moves_X9 0 0 32 dX9_moves_65 rfl rfl (by decide) fl_X9_moves_60 rfl ?_
          refine g_iload F dX9_moves_68 5 rfl ?_
          refine g_iload F dX9_moves_70 0 rfl ?_
          refine g_iastore F h (sg' := [(sMod cy am Mm), (sI cy (am 13) 24 m_w), (sI cy (am 33) 12 (upd m_order (x4).toNatClampNeg r1)), (sI cy h1 24 A1)]) 2 0 dX9_moves_72 rfl rfl (fun h => ?_)
          refine g_iinc F (v := (x4 + 1)) (lv' := [(4, .int (x4 + 1)), (7, .int r1), (0, .ref (am 0)), (1, .ref h1), (2, .int x2), (3, .int x3), (5, .int x5), (6, .int x6)]) dX9_moves_73 5 rfl rfl (by decide) rfl ?_
          refine g_iinc F (v := (x6 + 1)) (lv' := [(6, .int (x6 + 1)), (4, .int (x4 + 1)), (7, .int r1), (0, .ref (am 0)), (1, .ref h1), (2, .int x2), (3, .int x3), (5, .int x5)]) dX9_moves_76 7 rfl rfl (by decide) rfl ?_
          refine g_goto F 25 dX9_moves_79 (by decide) ?_
          refine Go.sub (lv' := [(0, .ref (am 0)), (1, .ref h1), (2, .int x2), (3, .int x3), (4, .int (x4 + 1)), (5, .int x5), (6, .int (x6 + 1))]) [3, 4, 5, 6, 1, 7, 0] rfl ?_
          exact ih (x4 + 1) (x6 + 1) (upd m_order (x4).toNatClampNeg r1) h
set_option maxHeartbeats 4000000 in
set_option maxRecDepth 100000 in
theorem k_X9_moves_16_ok {G : GX} {cy : Nat → ClassId} (am : Nat → Nat) (h1 : Nat)  (x2 : Int32) (x3 : Int32) (Mm : ModS) (m_w : (Nat → Int32)) (A1 : (Nat → Int32)) {out : (Nat → Int32) × (Nat → Int32) × (Nat → Int32)} (F : Fx G cX9_moves wsX9_moves RX9 cy 8 (rm_X9_moves)) (Rq : Rx G "moves" none none (fun z => z = [(sMod cy am Mm), (sI cy (am 13) 24 out.1), (sI cy (am 33) 12 out.2.1), (sI cy h1 24 out.2.2)]) 0 0) (ke : (Nat → Int32) → Option ((Nat → Int32) × (Nat → Int32) × (Nat → Int32))) (hke : ∀  (m_order : (Nat → Int32)), ke m_order = some out → Go G 0 0 88 [(0, .ref (am 0)), (1, .ref h1), (2, .int x2), (3, .int x3)] [] [(sMod cy am Mm), (sI cy (am 13) 24 m_w), (sI cy (am 33) 12 m_order), (sI cy h1 24 A1)]) : ∀ (n : Nat) (x4 : Int32) (x5 : Int32) (m_order : (Nat → Int32)), k_X9_moves_16 x2 x3 Mm m_w A1 ke n x4 x5 m_order = some out → Go G 0 0 16 [(0, .ref (am 0)), (1, .ref h1), (2, .int x2), (3, .int x3), (4, .int x4), (5, .int x5)] [] [(sMod cy am Mm), (sI cy (am 13) 24 m_w), (sI cy (am 33) 12 m_order), (sI cy h1 24 A1)] := by
  intro n
  induction n with
  | zero =>
    intro x4 x5 m_order h
    exact nosome h
  | succ n ih =>
    intro x4 x5 m_order h
    rw [k_X9_moves_16.eq_2] at h
    refine g_iload F dX9_moves_16 5 rfl ?_
    refine g_iconst F (v := (2 : Int32)) dX9_moves_18 (by decide) ?_
    refine g_icmp_ge F 88 h dX9_moves_19 (by decide) (fun h => ?_) (fun h => ?_)
    · refine Go.sub (lv' := [(0, .ref (am 0)), (1, .ref h1), (2, .int x2), (3, .int x3)]) [0, 1, 2, 3] rfl ?_
      exact hke m_order h
    · refine g_iconst F (v := (0 : Int32)) dX9_moves_22 (by decide) ?_
      refine g_istore F (lv' := [(6, .int (0 : Int32)), (0, .ref (am 0)), (1, .ref h1), (2, .int x2), (3, .int x3), (4, .int x4), (5, .int x5)]) dX9_moves_23 (by decide) rfl ?_
      refine Go.sub (lv' := [(0, .ref (am 0)), (1, .ref h1), (2, .int x2), (3, .int x3), (4, .int x4), (5, .int x5), (6, .int (0 : Int32))]) [1, 2, 3, 4, 5, 6, 0] rfl ?_
      refine k_X9_moves_25_ok am h1 x2 x3 x5 Mm m_w A1 F Rq _ (fun x4_4 m_order_4 h => ?_) _ x4 (0 : Int32) m_order h
      refine g_iinc F (v := (x5 + 1)) (lv' := [(5, .int (x5 + 1)), (0, .ref (am 0)), (1, .ref h1), (2, .int x2), (3, .int x3), (4, .int x4_4)]) dX9_moves_82 5 rfl rfl (by decide) rfl ?_
      refine g_goto F 16 dX9_moves_85 (by decide) ?_
      refine Go.sub (lv' := [(0, .ref (am 0)), (1, .ref h1), (2, .int x2), (3, .int x3), (4, .int x4_4), (5, .int (x5 + 1))]) [1, 2, 3, 4, 5, 0] rfl ?_
      exact ih x4_4 (x5 + 1) m_order_4 h
set_option maxHeartbeats 4000000 in
set_option maxRecDepth 100000 in
theorem k_X9_moves_94_ok {G : GX} {cy : Nat → ClassId} (am : Nat → Nat) (h1 : Nat)  (x2 : Int32) (x3 : Int32) (x4 : Int32) (Mm : ModS) (m_order : (Nat → Int32)) (A1 : (Nat → Int32)) {out : (Nat → Int32) × (Nat → Int32) × (Nat → Int32)} (F : Fx G cX9_moves wsX9_moves RX9 cy 8 (rm_X9_moves)) (Rq : Rx G "moves" none none (fun z => z = [(sMod cy am Mm), (sI cy (am 13) 24 out.1), (sI cy (am 33) 12 out.2.1), (sI cy h1 24 out.2.2)]) 0 0) (ke : (Nat → Int32) → Option ((Nat → Int32) × (Nat → Int32) × (Nat → Int32))) (hke : ∀  (m_w : (Nat → Int32)), ke m_w = some out → Go G 0 0 122 [(0, .ref (am 0)), (1, .ref h1), (2, .int x2), (3, .int x3), (4, .int x4)] [] [(sMod cy am Mm), (sI cy (am 13) 24 m_w), (sI cy (am 33) 12 m_order), (sI cy h1 24 A1)]) : ∀ (n : Nat) (x5 : Int32) (m_w : (Nat → Int32)), k_X9_moves_94 x2 x3 x4 Mm m_order A1 ke n x5 m_w = some out → Go G 0 0 94 [(0, .ref (am 0)), (1, .ref h1), (2, .int x2), (3, .int x3), (4, .int x4), (5, .int x5)] [] [(sMod cy am Mm), (sI cy (am 13) 24 m_w), (sI cy (am 33) 12 m_order), (sI cy h1 24 A1)] := by
  intro n
  induction n with
  | zero =>
    intro x5 m_w h
    exact nosome h
  | succ n ih =>
    intro x5 m_w h
    rw [k_X9_moves_94.eq_2] at h
    refine g_iload F dX9_moves_94 5 rfl ?_
    refine g_iload_n F dX9_moves_96 rfl 2 rfl ?_
    refine g_icmp_ge F 122 h dX9_moves_97 (by decide) (fun h => ?_) (fun h => ?_)
    · refine Go.sub (lv' := [(0, .ref (am 0)), (1, .ref h1), (2, .int x2), (3, .int x3), (4, .int x4)]) [0, 1, 2, 3, 4] rfl ?_
      exact hke m_w h
    · refine g_aload_n F dX9_moves_100 rfl 0 rfl ?_
      refine g_get F (C := RX9) (T := TX9) (N := 36) (ci := 9) (v := .ref (am 13)) hi_X9_moves_X9 0 0 12 dX9_moves_101 rfl rfl (by decide) fl_X9_moves_19 rfl ?_
      refine g_iconst F (v := (0 : Int32)) dX9_moves_104 (by decide) ?_
      refine g_iload F dX9_moves_105 5 rfl ?_
      refine g_iadd F dX9_moves_107 ?_
      refine g_aload_n F dX9_moves_108 rfl 1 rfl ?_
      refine g_iload_n F dX9_moves_109 rfl 2 rfl ?_
      refine g_iload F dX9_moves_110 5 rfl ?_
      obtain ⟨r6, hr6, h⟩ := bnd h
      refine g_cS F [.ref h1, .int x2, .int x5] (ok_X9_itemAt (gl G) (gD G) cy h1 A1 x2 x5 r6 hr6) dX9_moves_112 gX9_moves_X9_itemAt rfl cd_X9_itemAt (by decide) rfl (Nat.le_of_ble_eq_true rfl) [3] (by decide) rfl rfl (sg' := [(sMod cy am Mm), (sI cy (am 13) 24 m_w), (sI cy (am 33) 12 m_order), (sI cy h1 24 A1)]) (st' := [.int r6, .int ((0 : Int32) + x5), .ref (am 13)]) rfl rfl ?_
      refine g_iastore F h (sg' := [(sMod cy am Mm), (sI cy (am 13) 24 (upd m_w (((0 : Int32) + x5)).toNatClampNeg r6)), (sI cy (am 33) 12 m_order), (sI cy h1 24 A1)]) 1 0 dX9_moves_115 rfl rfl (fun h => ?_)
      refine g_iinc F (v := (x5 + 1)) (lv' := [(5, .int (x5 + 1)), (0, .ref (am 0)), (1, .ref h1), (2, .int x2), (3, .int x3), (4, .int x4)]) dX9_moves_116 5 rfl rfl (by decide) rfl ?_
      refine g_goto F 94 dX9_moves_119 (by decide) ?_
      refine Go.sub (lv' := [(0, .ref (am 0)), (1, .ref h1), (2, .int x2), (3, .int x3), (4, .int x4), (5, .int (x5 + 1))]) [1, 2, 3, 4, 5, 0] rfl ?_
      exact ih (x5 + 1) (upd m_w (((0 : Int32) + x5)).toNatClampNeg r6) h
set_option maxHeartbeats 4000000 in
set_option maxRecDepth 100000 in
theorem k_X9_moves_125_ok {G : GX} {cy : Nat → ClassId} (am : Nat → Nat) (h1 : Nat)  (x2 : Int32) (x3 : Int32) (Mm : ModS) (m_w : (Nat → Int32)) (m_order : (Nat → Int32)) {out : (Nat → Int32) × (Nat → Int32) × (Nat → Int32)} (F : Fx G cX9_moves wsX9_moves RX9 cy 8 (rm_X9_moves)) (Rq : Rx G "moves" none none (fun z => z = [(sMod cy am Mm), (sI cy (am 13) 24 out.1), (sI cy (am 33) 12 out.2.1), (sI cy h1 24 out.2.2)]) 0 0) (ke : (Nat → Int32) → Option ((Nat → Int32) × (Nat → Int32) × (Nat → Int32))) (hke : ∀  (A1 : (Nat → Int32)), ke A1 = some out → Go G 0 0 170 [] [] [(sMod cy am Mm), (sI cy (am 13) 24 m_w), (sI cy (am 33) 12 m_order), (sI cy h1 24 A1)]) : ∀ (n : Nat) (x4 : Int32) (x5 : Int32) (A1 : (Nat → Int32)), k_X9_moves_125 x2 x3 Mm m_w m_order ke n x4 x5 A1 = some out → Go G 0 0 125 [(0, .ref (am 0)), (1, .ref h1), (2, .int x2), (3, .int x3), (4, .int x4), (5, .int x5)] [] [(sMod cy am Mm), (sI cy (am 13) 24 m_w), (sI cy (am 33) 12 m_order), (sI cy h1 24 A1)] := by
  intro n
  induction n with
  | zero =>
    intro x4 x5 A1 h
    exact nosome h
  | succ n ih =>
    intro x4 x5 A1 h
    rw [k_X9_moves_125.eq_2] at h
    refine g_iload F dX9_moves_125 5 rfl ?_
    refine g_iload_n F dX9_moves_127 rfl 2 rfl ?_
    refine g_icmp_ge F 170 h dX9_moves_128 (by decide) (fun h => ?_) (fun h => ?_)
    · refine Go.sub (lv' := []) [] rfl ?_
      exact hke A1 h
    · refine g_iload_n F dX9_moves_131 rfl 3 rfl ?_
      refine g_aload_n F dX9_moves_132 rfl 0 rfl ?_
      refine g_get F (C := RX9) (T := TX9) (N := 36) (ci := 9) (v := .ref (am 13)) hi_X9_moves_X9 0 0 12 dX9_moves_133 rfl rfl (by decide) fl_X9_moves_19 rfl ?_
      refine g_iconst F (v := (0 : Int32)) dX9_moves_136 (by decide) ?_
      refine g_iload F dX9_moves_137 5 rfl ?_
      refine g_iadd F dX9_moves_139 ?_
      refine g_iaload F h 1 0 dX9_moves_140 rfl (fun h => ?_)
      obtain ⟨r8, hr8, h⟩ := bnd h
      refine g_cS F [.int x3, .int (m_w (((0 : Int32) + x5)).toNatClampNeg)] (ok_X9_has (gl G) (gD G) cy x3 (m_w (((0 : Int32) + x5)).toNatClampNeg) r8 hr8) dX9_moves_141 gX9_moves_X9_has rfl cd_X9_has (by decide) rfl (Nat.le_of_ble_eq_true rfl) [] (by decide) rfl rfl (sg' := [(sMod cy am Mm), (sI cy (am 13) 24 m_w), (sI cy (am 33) 12 m_order), (sI cy h1 24 A1)]) (st' := [.int r8]) rfl rfl ?_
      refine g_if_eq F 164 h dX9_moves_144 (by decide) (fun h => ?_) (fun h => ?_)
      · refine g_iinc F (v := (x5 + 1)) (lv' := [(5, .int (x5 + 1)), (0, .ref (am 0)), (1, .ref h1), (2, .int x2), (3, .int x3), (4, .int x4)]) dX9_moves_164 5 rfl rfl (by decide) rfl ?_
        refine g_goto F 125 dX9_moves_167 (by decide) ?_
        refine Go.sub (lv' := [(0, .ref (am 0)), (1, .ref h1), (2, .int x2), (3, .int x3), (4, .int x4), (5, .int (x5 + 1))]) [1, 2, 3, 4, 5, 0] rfl ?_
        exact ih x4 (x5 + 1) A1 h
      · refine g_aload_n F dX9_moves_147 rfl 1 rfl ?_
        refine g_bipush F (v := (12 : Int32)) dX9_moves_148 (by decide) ?_
        refine g_aload_n F dX9_moves_150 rfl 0 rfl ?_
        refine g_get F (C := RX9) (T := TX9) (N := 36) (ci := 9) (v := .ref (am 33)) hi_X9_moves_X9 0 0 32 dX9_moves_151 rfl rfl (by decide) fl_X9_moves_60 rfl ?_
        refine g_iload F dX9_moves_154 4 rfl ?_
        refine g_iaload F h 2 0 dX9_moves_156 rfl (fun h => ?_)
        refine g_iadd F dX9_moves_157 ?_
        refine g_iload F dX9_moves_158 5 rfl ?_
        refine g_iastore F h (sg' := [(sMod cy am Mm), (sI cy (am 13) 24 m_w), (sI cy (am 33) 12 m_order), (sI cy h1 24 (upd A1 (((12 : Int32) + (m_order (x4).toNatClampNeg))).toNatClampNeg x5))]) 3 0 dX9_moves_160 rfl rfl (fun h => ?_)
        refine g_iinc F (v := (x4 + 1)) (lv' := [(4, .int (x4 + 1)), (0, .ref (am 0)), (1, .ref h1), (2, .int x2), (3, .int x3), (5, .int x5)]) dX9_moves_161 4 rfl rfl (by decide) rfl ?_
        refine g_iinc F (v := (x5 + 1)) (lv' := [(5, .int (x5 + 1)), (4, .int (x4 + 1)), (0, .ref (am 0)), (1, .ref h1), (2, .int x2), (3, .int x3)]) dX9_moves_164 5 rfl rfl (by decide) rfl ?_
        refine g_goto F 125 dX9_moves_167 (by decide) ?_
        refine Go.sub (lv' := [(0, .ref (am 0)), (1, .ref h1), (2, .int x2), (3, .int x3), (4, .int (x4 + 1)), (5, .int (x5 + 1))]) [2, 3, 4, 5, 1, 0] rfl ?_
        exact ih (x4 + 1) (x5 + 1) (upd A1 (((12 : Int32) + (m_order (x4).toNatClampNeg))).toNatClampNeg x5) h
set_option maxHeartbeats 4000000 in
set_option maxRecDepth 100000 in
theorem ok_X9_moves (l : Launch) (D : va_G) (cy : Nat → ClassId) (am : Nat → Nat) (h1 : Nat)  (Mm : ModS) (m_w : (Nat → Int32)) (m_order : (Nat → Int32)) (A1 : (Nat → Int32)) (x2 : Int32) (out : (Nat → Int32) × (Nat → Int32) × (Nat → Int32)) (h : f_X9_moves Mm m_w m_order A1 x2 = some out) : OK l D cy yX9_moves wsX9_moves rm_X9_moves [.ref (am 0), .ref h1, .int x2] [(sMod cy am Mm), (sI cy (am 13) 24 m_w), (sI cy (am 33) 12 m_order), (sI cy h1 24 A1)] none [(sMod cy am Mm), (sI cy (am 13) 24 out.1), (sI cy (am 33) 12 out.2.1), (sI cy h1 24 out.2.2)] := by
  refine OKx.of (cc := cX9_moves) (maxL := 8) (ret := none) (by decide) rfl (Nat.le_of_ble_eq_true rfl) (fun G F Rq => ?_)
  show Go G 0 0 0 [(0, .ref (am 0)), (1, .ref h1), (2, .int x2)] [] [(sMod cy am Mm), (sI cy (am 13) 24 m_w), (sI cy (am 33) 12 m_order), (sI cy h1 24 A1)]
  replace F : Fx G cX9_moves wsX9_moves RX9 cy 8 (rm_X9_moves) := F
  replace Rq : Rx G "moves" none none (fun z => z = [(sMod cy am Mm), (sI cy (am 13) 24 out.1), (sI cy (am 33) 12 out.2.1), (sI cy h1 24 out.2.2)]) 0 0 := Rq
  unfold f_X9_moves at h
  refine g_aload_n F dX9_moves_0 rfl 0 rfl ?_
  refine g_get F (C := RX9) (T := TX9) (N := 36) (ci := 9) (v := .int (Mm 26)) hi_X9_moves_X9 0 0 26 dX9_moves_1 rfl rfl (by decide) fl_X9_moves_164 rfl ?_
  refine g_aload_n F dX9_moves_4 rfl 0 rfl ?_
  refine g_get F (C := RX9) (T := TX9) (N := 36) (ci := 9) (v := .int (Mm 27)) hi_X9_moves_X9 0 0 27 dX9_moves_5 rfl rfl (by decide) fl_X9_moves_167 rfl ?_
  refine g_ior F dX9_moves_8 ?_
  refine g_istore_n F (lv' := [(3, .int ((Mm 26) ||| (Mm 27))), (0, .ref (am 0)), (1, .ref h1), (2, .int x2)]) dX9_moves_9 rfl (by decide) rfl ?_
  refine g_iconst F (v := (0 : Int32)) dX9_moves_10 (by decide) ?_
  refine g_istore F (lv' := [(4, .int (0 : Int32)), (3, .int ((Mm 26) ||| (Mm 27))), (0, .ref (am 0)), (1, .ref h1), (2, .int x2)]) dX9_moves_11 (by decide) rfl ?_
  refine g_iconst F (v := (0 : Int32)) dX9_moves_13 (by decide) ?_
  refine g_istore F (lv' := [(5, .int (0 : Int32)), (4, .int (0 : Int32)), (3, .int ((Mm 26) ||| (Mm 27))), (0, .ref (am 0)), (1, .ref h1), (2, .int x2)]) dX9_moves_14 (by decide) rfl ?_
  refine Go.sub (lv' := [(0, .ref (am 0)), (1, .ref h1), (2, .int x2), (3, .int ((Mm 26) ||| (Mm 27))), (4, .int (0 : Int32)), (5, .int (0 : Int32))]) [3, 4, 5, 2, 1, 0] rfl ?_
  refine k_X9_moves_16_ok am h1 x2 ((Mm 26) ||| (Mm 27)) Mm m_w A1 F Rq _ (fun m_order_5 h => ?_) _ (0 : Int32) (0 : Int32) m_order h
  refine g_iconst F (v := (0 : Int32)) dX9_moves_88 (by decide) ?_
  refine g_istore F (lv' := [(4, .int (0 : Int32)), (0, .ref (am 0)), (1, .ref h1), (2, .int x2), (3, .int ((Mm 26) ||| (Mm 27)))]) dX9_moves_89 (by decide) rfl ?_
  refine g_iconst F (v := (0 : Int32)) dX9_moves_91 (by decide) ?_
  refine g_istore F (lv' := [(5, .int (0 : Int32)), (4, .int (0 : Int32)), (0, .ref (am 0)), (1, .ref h1), (2, .int x2), (3, .int ((Mm 26) ||| (Mm 27)))]) dX9_moves_92 (by decide) rfl ?_
  refine Go.sub (lv' := [(0, .ref (am 0)), (1, .ref h1), (2, .int x2), (3, .int ((Mm 26) ||| (Mm 27))), (4, .int (0 : Int32)), (5, .int (0 : Int32))]) [2, 3, 4, 5, 1, 0] rfl ?_
  refine k_X9_moves_94_ok am h1 x2 ((Mm 26) ||| (Mm 27)) (0 : Int32) Mm m_order_5 A1 F Rq _ (fun m_w_7 h => ?_) _ (0 : Int32) m_w h
  refine g_iconst F (v := (0 : Int32)) dX9_moves_122 (by decide) ?_
  refine g_istore F (lv' := [(5, .int (0 : Int32)), (0, .ref (am 0)), (1, .ref h1), (2, .int x2), (3, .int ((Mm 26) ||| (Mm 27))), (4, .int (0 : Int32))]) dX9_moves_123 (by decide) rfl ?_
  refine Go.sub (lv' := [(0, .ref (am 0)), (1, .ref h1), (2, .int x2), (3, .int ((Mm 26) ||| (Mm 27))), (4, .int (0 : Int32)), (5, .int (0 : Int32))]) [1, 2, 3, 4, 5, 0] rfl ?_
  refine k_X9_moves_125_ok am h1 x2 ((Mm 26) ||| (Mm 27)) Mm m_w_7 m_order_5 F Rq _ (fun A1_9 h => ?_) _ (0 : Int32) (0 : Int32) A1 h
  obtain rfl := Option.some.inj h
  exact g_vret F Rq rfl dX9_moves_170
theorem hi_X9_lays_X9 : ∀ w ∈ u_ws RX9 TX9 36, w ∈ wsX9_lays := by decide +kernel
theorem fl_X9_lays_164 : Cond.fieldLink RX9 164 "ArcOrderModel" "before" "I" ∈ wsX9_lays := by decide +kernel
abbrev rm_X9_lays : Room := { frames := 2, cells := 0, slots := 0, locals := 50 }
set_option maxHeartbeats 4000000 in
set_option maxRecDepth 100000 in
theorem ok_X9_lays (l : Launch) (D : va_G) (cy : Nat → ClassId) (am : Nat → Nat) (h1 : Nat)  (Mm : ModS) (m_w : (Nat → Int32)) (m_order : (Nat → Int32)) (A1 : (Nat → Int32)) (x2 : Int32) (x3 : Int32) (x4 : Int32) (out : ModS × (Nat → Int32) × (Nat → Int32) × (Nat → Int32)) (h : f_X9_lays Mm m_w m_order A1 x2 x3 x4 = some out) : OK l D cy yX9_lays wsX9_lays rm_X9_lays [.ref (am 0), .ref h1, .int x2, .int x3, .int x4] [(sMod cy am Mm), (sI cy (am 13) 24 m_w), (sI cy (am 33) 12 m_order), (sI cy h1 24 A1)] none [(sMod cy am out.1), (sI cy (am 13) 24 out.2.1), (sI cy (am 33) 12 out.2.2.1), (sI cy h1 24 out.2.2.2)] := by
  refine OKx.of (cc := cX9_lays) (maxL := 5) (ret := none) (by decide) rfl (Nat.le_of_ble_eq_true rfl) (fun G F Rq => ?_)
  show Go G 0 0 0 [(0, .ref (am 0)), (1, .ref h1), (2, .int x2), (3, .int x3), (4, .int x4)] [] [(sMod cy am Mm), (sI cy (am 13) 24 m_w), (sI cy (am 33) 12 m_order), (sI cy h1 24 A1)]
  replace F : Fx G cX9_lays wsX9_lays RX9 cy 5 (rm_X9_lays) := F
  replace Rq : Rx G "lays" none none (fun z => z = [(sMod cy am out.1), (sI cy (am 13) 24 out.2.1), (sI cy (am 33) 12 out.2.2.1), (sI cy h1 24 out.2.2.2)]) 0 0 := Rq
  unfold f_X9_lays at h
  refine g_aload_n F dX9_lays_0 rfl 0 rfl ?_
  refine g_aload_n F dX9_lays_1 rfl 1 rfl ?_
  refine g_iload_n F dX9_lays_2 rfl 2 rfl ?_
  refine g_iload_n F dX9_lays_3 rfl 3 rfl ?_
  refine g_iload F dX9_lays_4 4 rfl ?_
  obtain ⟨r1, hr1, h⟩ := bnd h
  refine g_cV F [.ref h1, .int x2, .int x3, .int x4] 0 0 (ok_X9_looks (gl G) (gD G) cy am h1 Mm A1 x2 x3 x4 r1 hr1) dX9_lays_6 rfl rfl gX9_lays_X9_looks rfl ⟨rfl, cd_X9_looks⟩ (by decide) rfl (Nat.le_of_ble_eq_true rfl) [0, 3] (by decide) rfl rfl (sg' := [(sMod cy am r1), (sI cy (am 13) 24 m_w), (sI cy (am 33) 12 m_order), (sI cy h1 24 A1)]) (st' := []) rfl rfl ?_
  refine g_aload_n F dX9_lays_9 rfl 0 rfl ?_
  refine g_get F (C := RX9) (T := TX9) (N := 36) (ci := 9) (v := .int (r1 26)) hi_X9_lays_X9 0 0 26 dX9_lays_10 rfl rfl (by decide) fl_X9_lays_164 rfl ?_
  refine g_if_eq F 22 h dX9_lays_13 (by decide) (fun h => ?_) (fun h => ?_)
  · refine g_aload_n F dX9_lays_22 rfl 1 rfl ?_
    refine g_iconst F (v := (0 : Int32)) dX9_lays_23 (by decide) ?_
    refine g_iload_n F dX9_lays_24 rfl 3 rfl ?_
    refine g_iadd F dX9_lays_25 ?_
    refine g_dup2 F dX9_lays_26 rfl rfl ?_
    refine g_iaload F h 3 0 dX9_lays_27 rfl (fun h => ?_)
    refine g_iconst F (v := (1 : Int32)) dX9_lays_28 (by decide) ?_
    refine g_iload F dX9_lays_29 4 rfl ?_
    refine g_ishl F dX9_lays_31 ?_
    refine g_ior F dX9_lays_32 ?_
    refine g_iastore F h (sg' := [(sMod cy am r1), (sI cy (am 13) 24 m_w), (sI cy (am 33) 12 m_order), (sI cy h1 24 (upd A1 (((0 : Int32) + x3)).toNatClampNeg ((A1 (((0 : Int32) + x3)).toNatClampNeg) ||| ((1 : Int32) <<< (x4 &&& 31)))))]) 3 0 dX9_lays_33 rfl rfl (fun h => ?_)
    obtain rfl := Option.some.inj h
    exact g_vret F Rq rfl dX9_lays_34
  · refine g_aload_n F dX9_lays_16 rfl 0 rfl ?_
    refine g_aload_n F dX9_lays_17 rfl 1 rfl ?_
    refine g_iload_n F dX9_lays_18 rfl 2 rfl ?_
    obtain ⟨r2, hr2, h⟩ := bnd h
    refine g_cV F [.ref h1, .int x2] 0 0 (ok_X9_moves (gl G) (gD G) cy am h1 r1 m_w m_order A1 x2 r2 hr2) dX9_lays_19 rfl rfl gX9_lays_X9_moves rfl ⟨rfl, cd_X9_moves⟩ (by decide) rfl (Nat.le_of_ble_eq_true rfl) [0, 1, 2, 3] (by decide) rfl rfl (sg' := [(sMod cy am r1), (sI cy (am 13) 24 r2.1), (sI cy (am 33) 12 r2.2.1), (sI cy h1 24 r2.2.2)]) (st' := []) rfl rfl ?_
    refine g_aload_n F dX9_lays_22 rfl 1 rfl ?_
    refine g_iconst F (v := (0 : Int32)) dX9_lays_23 (by decide) ?_
    refine g_iload_n F dX9_lays_24 rfl 3 rfl ?_
    refine g_iadd F dX9_lays_25 ?_
    refine g_dup2 F dX9_lays_26 rfl rfl ?_
    refine g_iaload F h 3 0 dX9_lays_27 rfl (fun h => ?_)
    refine g_iconst F (v := (1 : Int32)) dX9_lays_28 (by decide) ?_
    refine g_iload F dX9_lays_29 4 rfl ?_
    refine g_ishl F dX9_lays_31 ?_
    refine g_ior F dX9_lays_32 ?_
    refine g_iastore F h (sg' := [(sMod cy am r1), (sI cy (am 13) 24 r2.1), (sI cy (am 33) 12 r2.2.1), (sI cy h1 24 (upd r2.2.2 (((0 : Int32) + x3)).toNatClampNeg ((r2.2.2 (((0 : Int32) + x3)).toNatClampNeg) ||| ((1 : Int32) <<< (x4 &&& 31)))))]) 3 0 dX9_lays_33 rfl rfl (fun h => ?_)
    obtain rfl := Option.some.inj h
    exact g_vret F Rq rfl dX9_lays_34
theorem hi_X9_readsEntry_X9 : ∀ w ∈ u_ws RX9 TX9 36, w ∈ wsX9_readsEntry := by decide +kernel
theorem fl_X9_readsEntry_112 : Cond.fieldLink RX9 112 "ArcOrderModel" "draftItems" "I" ∈ wsX9_readsEntry := by decide +kernel
theorem fl_X9_readsEntry_13 : Cond.fieldLink RX9 13 "ArcOrderModel" "draft" "[I" ∈ wsX9_readsEntry := by decide +kernel
abbrev rm_X9_readsEntry : Room := { frames := 3, cells := 0, slots := 0, locals := 74 }
set_option maxHeartbeats 4000000 in
set_option maxRecDepth 100000 in
theorem ok_X9_readsEntry (l : Launch) (D : va_G) (cy : Nat → ClassId) (am : Nat → Nat)  (Mm : ModS) (m_text : (Nat → Int32)) (m_draft : (Nat → Int32)) (m_w : (Nat → Int32)) (m_order : (Nat → Int32)) (x1 : Int32) (out : ModS × (Nat → Int32) × (Nat → Int32) × (Nat → Int32)) (h : f_X9_readsEntry Mm m_text m_draft m_w m_order x1 = some out) : OK l D cy yX9_readsEntry wsX9_readsEntry rm_X9_readsEntry [.ref (am 0), .int x1] [(sMod cy am Mm), (sI cy (am 2) 120 m_text), (sI cy (am 11) 24 m_draft), (sI cy (am 13) 24 m_w), (sI cy (am 33) 12 m_order)] none [(sMod cy am out.1), (sI cy (am 2) 120 m_text), (sI cy (am 11) 24 out.2.1), (sI cy (am 13) 24 out.2.2.1), (sI cy (am 33) 12 out.2.2.2)] := by
  refine OKx.of (cc := cX9_readsEntry) (maxL := 4) (ret := none) (by decide) rfl (Nat.le_of_ble_eq_true rfl) (fun G F Rq => ?_)
  show Go G 0 0 0 [(0, .ref (am 0)), (1, .int x1)] [] [(sMod cy am Mm), (sI cy (am 2) 120 m_text), (sI cy (am 11) 24 m_draft), (sI cy (am 13) 24 m_w), (sI cy (am 33) 12 m_order)]
  replace F : Fx G cX9_readsEntry wsX9_readsEntry RX9 cy 4 (rm_X9_readsEntry) := F
  replace Rq : Rx G "readsEntry" none none (fun z => z = [(sMod cy am out.1), (sI cy (am 2) 120 m_text), (sI cy (am 11) 24 out.2.1), (sI cy (am 13) 24 out.2.2.1), (sI cy (am 33) 12 out.2.2.2)]) 0 0 := Rq
  unfold f_X9_readsEntry at h
  refine g_iload_n F dX9_readsEntry_0 rfl 1 rfl ?_
  refine g_bipush F (v := (110 : Int32)) dX9_readsEntry_1 (by decide) ?_
  refine g_icmp_ne F 22 h dX9_readsEntry_3 (by decide) (fun h => ?_) (fun h => ?_)
  · refine g_aload_n F dX9_readsEntry_22 rfl 0 rfl ?_
    refine g_aload_n F dX9_readsEntry_23 rfl 0 rfl ?_
    refine g_iconst F (v := (0 : Int32)) dX9_readsEntry_24 (by decide) ?_
    refine g_aload_n F dX9_readsEntry_25 rfl 0 rfl ?_
    refine g_get F (C := RX9) (T := TX9) (N := 36) (ci := 9) (v := .int (Mm 9)) hi_X9_readsEntry_X9 0 0 9 dX9_readsEntry_26 rfl rfl (by decide) fl_X9_readsEntry_112 rfl ?_
    refine g_iconst F (v := (1 : Int32)) dX9_readsEntry_29 (by decide) ?_
    refine g_isub F dX9_readsEntry_30 ?_
    obtain ⟨r1, hr1, h⟩ := bnd h
    refine g_cV F [.int (0 : Int32), .int ((Mm 9) - (1 : Int32))] 0 0 (ok_X9_isNumber (gl G) (gD G) cy am Mm (0 : Int32) ((Mm 9) - (1 : Int32)) r1 hr1) dX9_readsEntry_31 rfl rfl gX9_readsEntry_X9_isNumber rfl ⟨rfl, cd_X9_isNumber⟩ (by decide) rfl (Nat.le_of_ble_eq_true rfl) [0] (by decide) rfl rfl (sg' := [(sMod cy am Mm), (sI cy (am 2) 120 m_text), (sI cy (am 11) 24 m_draft), (sI cy (am 13) 24 m_w), (sI cy (am 33) 12 m_order)]) (st' := [.int r1, .ref (am 0)]) rfl rfl ?_
    obtain ⟨r2, hr2, h⟩ := bnd h
    refine g_cV F [.int r1] 0 0 (ok_X9_takes (gl G) (gD G) cy am Mm m_text r1 r2 hr2) dX9_readsEntry_34 rfl rfl gX9_readsEntry_X9_takes rfl ⟨rfl, cd_X9_takes⟩ (by decide) rfl (Nat.le_of_ble_eq_true rfl) [0, 1] (by decide) rfl rfl (sg' := [(sMod cy am r2.2), (sI cy (am 2) 120 m_text), (sI cy (am 11) 24 m_draft), (sI cy (am 13) 24 m_w), (sI cy (am 33) 12 m_order)]) (st' := [.int r2.1]) rfl rfl ?_
    refine g_istore_n F (lv' := [(2, .int r2.1), (0, .ref (am 0)), (1, .int x1)]) dX9_readsEntry_37 rfl (by decide) rfl ?_
    refine g_aload_n F dX9_readsEntry_38 rfl 1 rfl ?_
    refine g_aload_n F dX9_readsEntry_39 rfl 1 rfl ?_
    obtain ⟨r3, hr3, h⟩ := bnd h
    refine g_cV F [] 0 0 (ok_X9_isWell (gl G) (gD G) cy am r2.2 r3 hr3) dX9_readsEntry_40 rfl rfl gX9_readsEntry_X9_isWell rfl ⟨rfl, cd_X9_isWell⟩ (by decide) rfl (Nat.le_of_ble_eq_true rfl) [0] (by decide) rfl rfl (sg' := [(sMod cy am r2.2), (sI cy (am 2) 120 m_text), (sI cy (am 11) 24 m_draft), (sI cy (am 13) 24 m_w), (sI cy (am 33) 12 m_order)]) (st' := [.int r3, .ref (am 0)]) rfl rfl ?_
    refine g_if_eq F 58 h dX9_readsEntry_43 (by decide) (fun h => ?_) (fun h => ?_)
    · refine g_iconst F (v := (0 : Int32)) dX9_readsEntry_58 (by decide) ?_
      obtain ⟨r4, hr4, h⟩ := bnd h
      refine g_cV F [.int (0 : Int32)] 0 0 (ok_X9_takes (gl G) (gD G) cy am r2.2 m_text (0 : Int32) r4 hr4) dX9_readsEntry_59 rfl rfl gX9_readsEntry_X9_takes rfl ⟨rfl, cd_X9_takes⟩ (by decide) rfl (Nat.le_of_ble_eq_true rfl) [0, 1] (by decide) rfl rfl (sg' := [(sMod cy am r4.2), (sI cy (am 2) 120 m_text), (sI cy (am 11) 24 m_draft), (sI cy (am 13) 24 m_w), (sI cy (am 33) 12 m_order)]) (st' := [.int r4.1]) rfl rfl ?_
      refine g_istore_n F (lv' := [(3, .int r4.1), (2, .int r2.1), (0, .ref (am 0)), (1, .int x1)]) dX9_readsEntry_62 rfl (by decide) rfl ?_
      refine g_aload_n F dX9_readsEntry_63 rfl 2 rfl ?_
      obtain ⟨r5, hr5, h⟩ := bnd h
      refine g_cV F [] 0 0 (ok_X9_isWell (gl G) (gD G) cy am r4.2 r5 hr5) dX9_readsEntry_64 rfl rfl gX9_readsEntry_X9_isWell rfl ⟨rfl, cd_X9_isWell⟩ (by decide) rfl (Nat.le_of_ble_eq_true rfl) [0] (by decide) rfl rfl (sg' := [(sMod cy am r4.2), (sI cy (am 2) 120 m_text), (sI cy (am 11) 24 m_draft), (sI cy (am 13) 24 m_w), (sI cy (am 33) 12 m_order)]) (st' := [.int r5]) rfl rfl ?_
      refine g_if_eq F 84 h dX9_readsEntry_67 (by decide) (fun h => ?_) (fun h => ?_)
      · obtain rfl := Option.some.inj h
        exact g_vret F Rq rfl dX9_readsEntry_84
      · refine g_aload_n F dX9_readsEntry_70 rfl 2 rfl ?_
        refine g_aload_n F dX9_readsEntry_71 rfl 2 rfl ?_
        refine g_get F (C := RX9) (T := TX9) (N := 36) (ci := 9) (v := .ref (am 11)) hi_X9_readsEntry_X9 0 0 10 dX9_readsEntry_72 rfl rfl (by decide) fl_X9_readsEntry_13 rfl ?_
        refine g_aload_n F dX9_readsEntry_75 rfl 2 rfl ?_
        refine g_get F (C := RX9) (T := TX9) (N := 36) (ci := 9) (v := .int (r4.2 9)) hi_X9_readsEntry_X9 0 0 9 dX9_readsEntry_76 rfl rfl (by decide) fl_X9_readsEntry_112 rfl ?_
        refine g_iload_n F dX9_readsEntry_79 rfl 1 rfl ?_
        refine g_iload_n F dX9_readsEntry_80 rfl 0 rfl ?_
        obtain ⟨r6, hr6, h⟩ := bnd h
        refine g_cV F [.ref (am 11), .int (r4.2 9), .int r2.1, .int r4.1] 0 0 (ok_X9_lays (gl G) (gD G) cy am (am 11) r4.2 m_w m_order m_draft (r4.2 9) r2.1 r4.1 r6 hr6) dX9_readsEntry_81 rfl rfl gX9_readsEntry_X9_lays rfl ⟨rfl, cd_X9_lays⟩ (by decide) rfl (Nat.le_of_ble_eq_true rfl) [0, 3, 4, 2] (by decide) rfl rfl (sg' := [(sMod cy am r6.1), (sI cy (am 2) 120 m_text), (sI cy (am 11) 24 r6.2.2.2), (sI cy (am 13) 24 r6.2.1), (sI cy (am 33) 12 r6.2.2.1)]) (st' := []) rfl rfl ?_
        obtain rfl := Option.some.inj h
        exact g_vret F Rq rfl dX9_readsEntry_84
    · refine g_aload_n F dX9_readsEntry_46 rfl 1 rfl ?_
      refine g_iload_n F dX9_readsEntry_47 rfl 0 rfl ?_
      obtain ⟨r7, hr7, h⟩ := bnd h
      refine g_cV F [.int r2.1] 0 0 (ok_X9_canBe (gl G) (gD G) cy am r2.2 m_draft r2.1 r7 hr7) dX9_readsEntry_48 rfl rfl gX9_readsEntry_X9_canBe rfl ⟨rfl, cd_X9_canBe⟩ (by decide) rfl (Nat.le_of_ble_eq_true rfl) [0, 2] (by decide) rfl rfl (sg' := [(sMod cy am r7.2), (sI cy (am 2) 120 m_text), (sI cy (am 11) 24 m_draft), (sI cy (am 13) 24 m_w), (sI cy (am 33) 12 m_order)]) (st' := [.int r7.1, .ref (am 0)]) rfl rfl ?_
      refine g_if_eq F 58 h dX9_readsEntry_51 (by decide) (fun h => ?_) (fun h => ?_)
      · refine g_iconst F (v := (0 : Int32)) dX9_readsEntry_58 (by decide) ?_
        obtain ⟨r8, hr8, h⟩ := bnd h
        refine g_cV F [.int (0 : Int32)] 0 0 (ok_X9_takes (gl G) (gD G) cy am r7.2 m_text (0 : Int32) r8 hr8) dX9_readsEntry_59 rfl rfl gX9_readsEntry_X9_takes rfl ⟨rfl, cd_X9_takes⟩ (by decide) rfl (Nat.le_of_ble_eq_true rfl) [0, 1] (by decide) rfl rfl (sg' := [(sMod cy am r8.2), (sI cy (am 2) 120 m_text), (sI cy (am 11) 24 m_draft), (sI cy (am 13) 24 m_w), (sI cy (am 33) 12 m_order)]) (st' := [.int r8.1]) rfl rfl ?_
        refine g_istore_n F (lv' := [(3, .int r8.1), (2, .int r2.1), (0, .ref (am 0)), (1, .int x1)]) dX9_readsEntry_62 rfl (by decide) rfl ?_
        refine g_aload_n F dX9_readsEntry_63 rfl 2 rfl ?_
        obtain ⟨r9, hr9, h⟩ := bnd h
        refine g_cV F [] 0 0 (ok_X9_isWell (gl G) (gD G) cy am r8.2 r9 hr9) dX9_readsEntry_64 rfl rfl gX9_readsEntry_X9_isWell rfl ⟨rfl, cd_X9_isWell⟩ (by decide) rfl (Nat.le_of_ble_eq_true rfl) [0] (by decide) rfl rfl (sg' := [(sMod cy am r8.2), (sI cy (am 2) 120 m_text), (sI cy (am 11) 24 m_draft), (sI cy (am 13) 24 m_w), (sI cy (am 33) 12 m_order)]) (st' := [.int r9]) rfl rfl ?_
        refine g_if_eq F 84 h dX9_readsEntry_67 (by decide) (fun h => ?_) (fun h => ?_)
        · obtain rfl := Option.some.inj h
          exact g_vret F Rq rfl dX9_readsEntry_84
        · refine g_aload_n F dX9_readsEntry_70 rfl 2 rfl ?_
          refine g_aload_n F dX9_readsEntry_71 rfl 2 rfl ?_
          refine g_get F (C := RX9) (T := TX9) (N := 36) (ci := 9) (v := .ref (am 11)) hi_X9_readsEntry_X9 0 0 10 dX9_readsEntry_72 rfl rfl (by decide) fl_X9_readsEntry_13 rfl ?_
          refine g_aload_n F dX9_readsEntry_75 rfl 2 rfl ?_
          refine g_get F (C := RX9) (T := TX9) (N := 36) (ci := 9) (v := .int (r8.2 9)) hi_X9_readsEntry_X9 0 0 9 dX9_readsEntry_76 rfl rfl (by decide) fl_X9_readsEntry_112 rfl ?_
          refine g_iload_n F dX9_readsEntry_79 rfl 1 rfl ?_
          refine g_iload_n F dX9_readsEntry_80 rfl 0 rfl ?_
          obtain ⟨r10, hr10, h⟩ := bnd h
          refine g_cV F [.ref (am 11), .int (r8.2 9), .int r2.1, .int r8.1] 0 0 (ok_X9_lays (gl G) (gD G) cy am (am 11) r8.2 m_w m_order m_draft (r8.2 9) r2.1 r8.1 r10 hr10) dX9_readsEntry_81 rfl rfl gX9_readsEntry_X9_lays rfl ⟨rfl, cd_X9_lays⟩ (by decide) rfl (Nat.le_of_ble_eq_true rfl) [0, 3, 4, 2] (by decide) rfl rfl (sg' := [(sMod cy am r10.1), (sI cy (am 2) 120 m_text), (sI cy (am 11) 24 r10.2.2.2), (sI cy (am 13) 24 r10.2.1), (sI cy (am 33) 12 r10.2.2.1)]) (st' := []) rfl rfl ?_
          obtain rfl := Option.some.inj h
          exact g_vret F Rq rfl dX9_readsEntry_84
      · refine g_iconst F (v := (1 : Int32)) dX9_readsEntry_54 (by decide) ?_
        refine g_goto F 59 dX9_readsEntry_55 (by decide) ?_
        obtain ⟨r11, hr11, h⟩ := bnd h
        refine g_cV F [.int (1 : Int32)] 0 0 (ok_X9_takes (gl G) (gD G) cy am r7.2 m_text (1 : Int32) r11 hr11) dX9_readsEntry_59 rfl rfl gX9_readsEntry_X9_takes rfl ⟨rfl, cd_X9_takes⟩ (by decide) rfl (Nat.le_of_ble_eq_true rfl) [0, 1] (by decide) rfl rfl (sg' := [(sMod cy am r11.2), (sI cy (am 2) 120 m_text), (sI cy (am 11) 24 m_draft), (sI cy (am 13) 24 m_w), (sI cy (am 33) 12 m_order)]) (st' := [.int r11.1]) rfl rfl ?_
        refine g_istore_n F (lv' := [(3, .int r11.1), (2, .int r2.1), (0, .ref (am 0)), (1, .int x1)]) dX9_readsEntry_62 rfl (by decide) rfl ?_
        refine g_aload_n F dX9_readsEntry_63 rfl 2 rfl ?_
        obtain ⟨r12, hr12, h⟩ := bnd h
        refine g_cV F [] 0 0 (ok_X9_isWell (gl G) (gD G) cy am r11.2 r12 hr12) dX9_readsEntry_64 rfl rfl gX9_readsEntry_X9_isWell rfl ⟨rfl, cd_X9_isWell⟩ (by decide) rfl (Nat.le_of_ble_eq_true rfl) [0] (by decide) rfl rfl (sg' := [(sMod cy am r11.2), (sI cy (am 2) 120 m_text), (sI cy (am 11) 24 m_draft), (sI cy (am 13) 24 m_w), (sI cy (am 33) 12 m_order)]) (st' := [.int r12]) rfl rfl ?_
        refine g_if_eq F 84 h dX9_readsEntry_67 (by decide) (fun h => ?_) (fun h => ?_)
        · obtain rfl := Option.some.inj h
          exact g_vret F Rq rfl dX9_readsEntry_84
        · refine g_aload_n F dX9_readsEntry_70 rfl 2 rfl ?_
          refine g_aload_n F dX9_readsEntry_71 rfl 2 rfl ?_
          refine g_get F (C := RX9) (T := TX9) (N := 36) (ci := 9) (v := .ref (am 11)) hi_X9_readsEntry_X9 0 0 10 dX9_readsEntry_72 rfl rfl (by decide) fl_X9_readsEntry_13 rfl ?_
          refine g_aload_n F dX9_readsEntry_75 rfl 2 rfl ?_
          refine g_get F (C := RX9) (T := TX9) (N := 36) (ci := 9) (v := .int (r11.2 9)) hi_X9_readsEntry_X9 0 0 9 dX9_readsEntry_76 rfl rfl (by decide) fl_X9_readsEntry_112 rfl ?_
          refine g_iload_n F dX9_readsEntry_79 rfl 1 rfl ?_
          refine g_iload_n F dX9_readsEntry_80 rfl 0 rfl ?_
          obtain ⟨r13, hr13, h⟩ := bnd h
          refine g_cV F [.ref (am 11), .int (r11.2 9), .int r2.1, .int r11.1] 0 0 (ok_X9_lays (gl G) (gD G) cy am (am 11) r11.2 m_w m_order m_draft (r11.2 9) r2.1 r11.1 r13 hr13) dX9_readsEntry_81 rfl rfl gX9_readsEntry_X9_lays rfl ⟨rfl, cd_X9_lays⟩ (by decide) rfl (Nat.le_of_ble_eq_true rfl) [0, 3, 4, 2] (by decide) rfl rfl (sg' := [(sMod cy am r13.1), (sI cy (am 2) 120 m_text), (sI cy (am 11) 24 r13.2.2.2), (sI cy (am 13) 24 r13.2.1), (sI cy (am 33) 12 r13.2.2.1)]) (st' := []) rfl rfl ?_
          obtain rfl := Option.some.inj h
          exact g_vret F Rq rfl dX9_readsEntry_84
  · refine g_aload_n F dX9_readsEntry_6 rfl 0 rfl ?_
    refine g_aload_n F dX9_readsEntry_7 rfl 0 rfl ?_
    refine g_aload_n F dX9_readsEntry_8 rfl 0 rfl ?_
    refine g_iconst F (v := (1 : Int32)) dX9_readsEntry_9 (by decide) ?_
    refine g_bipush F (v := (12 : Int32)) dX9_readsEntry_10 (by decide) ?_
    obtain ⟨r14, hr14, h⟩ := bnd h
    refine g_cV F [.int (1 : Int32), .int (12 : Int32)] 0 0 (ok_X9_isNumber (gl G) (gD G) cy am Mm (1 : Int32) (12 : Int32) r14 hr14) dX9_readsEntry_12 rfl rfl gX9_readsEntry_X9_isNumber rfl ⟨rfl, cd_X9_isNumber⟩ (by decide) rfl (Nat.le_of_ble_eq_true rfl) [0] (by decide) rfl rfl (sg' := [(sMod cy am Mm), (sI cy (am 2) 120 m_text), (sI cy (am 11) 24 m_draft), (sI cy (am 13) 24 m_w), (sI cy (am 33) 12 m_order)]) (st' := [.int r14, .ref (am 0), .ref (am 0)]) rfl rfl ?_
    obtain ⟨r15, hr15, h⟩ := bnd h
    refine g_cV F [.int r14] 0 0 (ok_X9_takes (gl G) (gD G) cy am Mm m_text r14 r15 hr15) dX9_readsEntry_15 rfl rfl gX9_readsEntry_X9_takes rfl ⟨rfl, cd_X9_takes⟩ (by decide) rfl (Nat.le_of_ble_eq_true rfl) [0, 1] (by decide) rfl rfl (sg' := [(sMod cy am r15.2), (sI cy (am 2) 120 m_text), (sI cy (am 11) 24 m_draft), (sI cy (am 13) 24 m_w), (sI cy (am 33) 12 m_order)]) (st' := [.int r15.1, .ref (am 0)]) rfl rfl ?_
    refine g_put F (C := RX9) (T := TX9) (N := 36) (ci := 9) (v := .int r15.1) (ty := .int) (sg' := [(sMod cy am (upd r15.2 9 r15.1)), (sI cy (am 2) 120 m_text), (sI cy (am 11) 24 m_draft), (sI cy (am 13) 24 m_w), (sI cy (am 33) 12 m_order)]) hi_X9_readsEntry_X9 tyX9 tyX9_ok nmX9 0 0 9 dX9_readsEntry_18 rfl rfl (by decide) fl_X9_readsEntry_112 rfl rfl rfl rfl (Nat.le_of_ble_eq_true rfl) rfl ?_
    obtain rfl := Option.some.inj h
    exact g_vret F Rq rfl dX9_readsEntry_21
abbrev rm_X9_copies : Room := { frames := 0, cells := 0, slots := 0, locals := 0 }
set_option maxHeartbeats 4000000 in
set_option maxRecDepth 100000 in
theorem k_X9_copies_2_ok {G : GX} {cy : Nat → ClassId} (h0 : Nat) (h1 : Nat)   (A0 : (Nat → Int32)) {out : (Nat → Int32)} (F : Fx G cX9_copies wsX9_copies RX9 cy 3 (rm_X9_copies)) (Rq : Rx G "copies" none none (fun z => z = [(sI cy h0 24 A0), (sI cy h1 24 out)]) 0 0) (ke : (Nat → Int32) → Option ((Nat → Int32))) (hke : ∀  (A1 : (Nat → Int32)), ke A1 = some out → Go G 0 0 20 [] [] [(sI cy h0 24 A0), (sI cy h1 24 A1)]) : ∀ (n : Nat) (x2 : Int32) (A1 : (Nat → Int32)), k_X9_copies_2 A0 ke n x2 A1 = some out → Go G 0 0 2 [(0, .ref h0), (1, .ref h1), (2, .int x2)] [] [(sI cy h0 24 A0), (sI cy h1 24 A1)] := by
  intro n
  induction n with
  | zero =>
    intro x2 A1 h
    exact nosome h
  | succ n ih =>
    intro x2 A1 h
    rw [k_X9_copies_2.eq_2] at h
    refine g_iload_n F dX9_copies_2 rfl 2 rfl ?_
    refine g_bipush F (v := (24 : Int32)) dX9_copies_3 (by decide) ?_
    refine g_icmp_ge F 20 h dX9_copies_5 (by decide) (fun h => ?_) (fun h => ?_)
    · refine Go.sub (lv' := []) [] rfl ?_
      exact hke A1 h
    · refine g_aload_n F dX9_copies_8 rfl 1 rfl ?_
      refine g_iload_n F dX9_copies_9 rfl 2 rfl ?_
      refine g_aload_n F dX9_copies_10 rfl 0 rfl ?_
      refine g_iload_n F dX9_copies_11 rfl 2 rfl ?_
      refine g_iaload F h 0 0 dX9_copies_12 rfl (fun h => ?_)
      refine g_iastore F h (sg' := [(sI cy h0 24 A0), (sI cy h1 24 (upd A1 (x2).toNatClampNeg (A0 (x2).toNatClampNeg)))]) 1 0 dX9_copies_13 rfl rfl (fun h => ?_)
      refine g_iinc F (v := (x2 + 1)) (lv' := [(2, .int (x2 + 1)), (0, .ref h0), (1, .ref h1)]) dX9_copies_14 2 rfl rfl (by decide) rfl ?_
      refine g_goto F 2 dX9_copies_17 (by decide) ?_
      refine Go.sub (lv' := [(0, .ref h0), (1, .ref h1), (2, .int (x2 + 1))]) [1, 2, 0] rfl ?_
      exact ih (x2 + 1) (upd A1 (x2).toNatClampNeg (A0 (x2).toNatClampNeg)) h
set_option maxHeartbeats 4000000 in
set_option maxRecDepth 100000 in
theorem ok_X9_copies (l : Launch) (D : va_G) (cy : Nat → ClassId) (h0 : Nat) (h1 : Nat)  (A0 : (Nat → Int32)) (A1 : (Nat → Int32))  (out : (Nat → Int32)) (h : f_X9_copies A0 A1 = some out) : OK l D cy yX9_copies wsX9_copies rm_X9_copies [.ref h0, .ref h1] [(sI cy h0 24 A0), (sI cy h1 24 A1)] none [(sI cy h0 24 A0), (sI cy h1 24 out)] := by
  refine OKx.of (cc := cX9_copies) (maxL := 3) (ret := none) (by decide) rfl (Nat.le_of_ble_eq_true rfl) (fun G F Rq => ?_)
  show Go G 0 0 0 [(0, .ref h0), (1, .ref h1)] [] [(sI cy h0 24 A0), (sI cy h1 24 A1)]
  replace F : Fx G cX9_copies wsX9_copies RX9 cy 3 (rm_X9_copies) := F
  replace Rq : Rx G "copies" none none (fun z => z = [(sI cy h0 24 A0), (sI cy h1 24 out)]) 0 0 := Rq
  unfold f_X9_copies at h
  refine g_iconst F (v := (0 : Int32)) dX9_copies_0 (by decide) ?_
  refine g_istore_n F (lv' := [(2, .int (0 : Int32)), (0, .ref h0), (1, .ref h1)]) dX9_copies_1 rfl (by decide) rfl ?_
  refine Go.sub (lv' := [(0, .ref h0), (1, .ref h1), (2, .int (0 : Int32))]) [1, 2, 0] rfl ?_
  refine k_X9_copies_2_ok h0 h1 A0 F Rq _ (fun A1_1 h => ?_) _ (0 : Int32) A1 h
  obtain rfl := Option.some.inj h
  exact g_vret F Rq rfl dX9_copies_20
theorem hi_X9_settles_X9 : ∀ w ∈ u_ws RX9 TX9 36, w ∈ wsX9_settles := by decide +kernel
theorem fl_X9_settles_112 : Cond.fieldLink RX9 112 "ArcOrderModel" "draftItems" "I" ∈ wsX9_settles := by decide +kernel
theorem fl_X9_settles_145 : Cond.fieldLink RX9 145 "ArcOrderModel" "items" "I" ∈ wsX9_settles := by decide +kernel
theorem fl_X9_settles_13 : Cond.fieldLink RX9 13 "ArcOrderModel" "draft" "[I" ∈ wsX9_settles := by decide +kernel
theorem fl_X9_settles_16 : Cond.fieldLink RX9 16 "ArcOrderModel" "s" "[I" ∈ wsX9_settles := by decide +kernel
theorem fl_X9_settles_83 : Cond.fieldLink RX9 83 "ArcOrderModel" "typed" "I" ∈ wsX9_settles := by decide +kernel
theorem fl_X9_settles_152 : Cond.fieldLink RX9 152 "ArcOrderModel" "listed" "I" ∈ wsX9_settles := by decide +kernel
theorem fl_X9_settles_155 : Cond.fieldLink RX9 155 "ArcOrderModel" "seenMany" "I" ∈ wsX9_settles := by decide +kernel
theorem fl_X9_settles_158 : Cond.fieldLink RX9 158 "ArcOrderModel" "undoMany" "I" ∈ wsX9_settles := by decide +kernel
theorem fl_X9_settles_28 : Cond.fieldLink RX9 28 "ArcOrderModel" "isKept" "[Z" ∈ wsX9_settles := by decide +kernel
abbrev rm_X9_settles : Room := { frames := 1, cells := 0, slots := 0, locals := 22 }
set_option maxHeartbeats 4000000 in
set_option maxRecDepth 100000 in
theorem ok_X9_settles (l : Launch) (D : va_G) (cy : Nat → ClassId) (am : Nat → Nat)  (Mm : ModS) (m_draft : (Nat → Int32)) (m_s : (Nat → Int32)) (m_isKept : (Nat → Int32))  (out : ModS × (Nat → Int32) × (Nat → Int32)) (h : f_X9_settles Mm m_draft m_s m_isKept = some out) : OK l D cy yX9_settles wsX9_settles rm_X9_settles [.ref (am 0)] [(sMod cy am Mm), (sI cy (am 11) 24 m_draft), (sI cy (am 12) 24 m_s), (sZ cy (am 16) 2 m_isKept)] none [(sMod cy am out.1), (sI cy (am 11) 24 m_draft), (sI cy (am 12) 24 out.2.1), (sZ cy (am 16) 2 out.2.2)] := by
  refine OKx.of (cc := cX9_settles) (maxL := 1) (ret := none) (by decide) rfl (Nat.le_of_ble_eq_true rfl) (fun G F Rq => ?_)
  show Go G 0 0 0 [(0, .ref (am 0))] [] [(sMod cy am Mm), (sI cy (am 11) 24 m_draft), (sI cy (am 12) 24 m_s), (sZ cy (am 16) 2 m_isKept)]
  replace F : Fx G cX9_settles wsX9_settles RX9 cy 1 (rm_X9_settles) := F
  replace Rq : Rx G "settles" none none (fun z => z = [(sMod cy am out.1), (sI cy (am 11) 24 m_draft), (sI cy (am 12) 24 out.2.1), (sZ cy (am 16) 2 out.2.2)]) 0 0 := Rq
  unfold f_X9_settles at h
  refine g_aload_n F dX9_settles_0 rfl 0 rfl ?_
  refine g_aload_n F dX9_settles_1 rfl 0 rfl ?_
  refine g_get F (C := RX9) (T := TX9) (N := 36) (ci := 9) (v := .int (Mm 9)) hi_X9_settles_X9 0 0 9 dX9_settles_2 rfl rfl (by decide) fl_X9_settles_112 rfl ?_
  refine g_put F (C := RX9) (T := TX9) (N := 36) (ci := 9) (v := .int (Mm 9)) (ty := .int) (sg' := [(sMod cy am (upd Mm 8 (Mm 9))), (sI cy (am 11) 24 m_draft), (sI cy (am 12) 24 m_s), (sZ cy (am 16) 2 m_isKept)]) hi_X9_settles_X9 tyX9 tyX9_ok nmX9 0 0 8 dX9_settles_5 rfl rfl (by decide) fl_X9_settles_145 rfl rfl rfl rfl (Nat.le_of_ble_eq_true rfl) rfl ?_
  refine g_aload_n F dX9_settles_8 rfl 0 rfl ?_
  refine g_get F (C := RX9) (T := TX9) (N := 36) (ci := 9) (v := .ref (am 11)) hi_X9_settles_X9 0 0 10 dX9_settles_9 rfl rfl (by decide) fl_X9_settles_13 rfl ?_
  refine g_aload_n F dX9_settles_12 rfl 0 rfl ?_
  refine g_get F (C := RX9) (T := TX9) (N := 36) (ci := 9) (v := .ref (am 12)) hi_X9_settles_X9 0 0 11 dX9_settles_13 rfl rfl (by decide) fl_X9_settles_16 rfl ?_
  obtain ⟨r1, hr1, h⟩ := bnd h
  refine g_cS F [.ref (am 11), .ref (am 12)] (ok_X9_copies (gl G) (gD G) cy (am 11) (am 12) m_draft m_s r1 hr1) dX9_settles_16 gX9_settles_X9_copies rfl cd_X9_copies (by decide) rfl (Nat.le_of_ble_eq_true rfl) [1, 2] (by decide) rfl rfl (sg' := [(sMod cy am (upd Mm 8 (Mm 9))), (sI cy (am 11) 24 m_draft), (sI cy (am 12) 24 r1), (sZ cy (am 16) 2 m_isKept)]) (st' := []) rfl rfl ?_
  refine g_aload_n F dX9_settles_19 rfl 0 rfl ?_
  refine g_iconst F (v := (0 : Int32)) dX9_settles_20 (by decide) ?_
  refine g_put F (C := RX9) (T := TX9) (N := 36) (ci := 9) (v := .int (0 : Int32)) (ty := .int) (sg' := [(sMod cy am (upd (upd Mm 8 (Mm 9)) 2 (0 : Int32))), (sI cy (am 11) 24 m_draft), (sI cy (am 12) 24 r1), (sZ cy (am 16) 2 m_isKept)]) hi_X9_settles_X9 tyX9 tyX9_ok nmX9 0 0 2 dX9_settles_21 rfl rfl (by decide) fl_X9_settles_83 rfl rfl rfl rfl (Nat.le_of_ble_eq_true rfl) rfl ?_
  refine g_aload_n F dX9_settles_24 rfl 0 rfl ?_
  refine g_iconst F (v := (0 : Int32)) dX9_settles_25 (by decide) ?_
  refine g_put F (C := RX9) (T := TX9) (N := 36) (ci := 9) (v := .int (0 : Int32)) (ty := .int) (sg' := [(sMod cy am (upd (upd (upd Mm 8 (Mm 9)) 2 (0 : Int32)) 20 (0 : Int32))), (sI cy (am 11) 24 m_draft), (sI cy (am 12) 24 r1), (sZ cy (am 16) 2 m_isKept)]) hi_X9_settles_X9 tyX9 tyX9_ok nmX9 0 0 20 dX9_settles_26 rfl rfl (by decide) fl_X9_settles_152 rfl rfl rfl rfl (Nat.le_of_ble_eq_true rfl) rfl ?_
  refine g_aload_n F dX9_settles_29 rfl 0 rfl ?_
  refine g_iconst F (v := (0 : Int32)) dX9_settles_30 (by decide) ?_
  refine g_put F (C := RX9) (T := TX9) (N := 36) (ci := 9) (v := .int (0 : Int32)) (ty := .int) (sg' := [(sMod cy am (upd (upd (upd (upd Mm 8 (Mm 9)) 2 (0 : Int32)) 20 (0 : Int32)) 25 (0 : Int32))), (sI cy (am 11) 24 m_draft), (sI cy (am 12) 24 r1), (sZ cy (am 16) 2 m_isKept)]) hi_X9_settles_X9 tyX9 tyX9_ok nmX9 0 0 25 dX9_settles_31 rfl rfl (by decide) fl_X9_settles_155 rfl rfl rfl rfl (Nat.le_of_ble_eq_true rfl) rfl ?_
  refine g_aload_n F dX9_settles_34 rfl 0 rfl ?_
  refine g_iconst F (v := (0 : Int32)) dX9_settles_35 (by decide) ?_
  refine g_put F (C := RX9) (T := TX9) (N := 36) (ci := 9) (v := .int (0 : Int32)) (ty := .int) (sg' := [(sMod cy am (upd (upd (upd (upd (upd Mm 8 (Mm 9)) 2 (0 : Int32)) 20 (0 : Int32)) 25 (0 : Int32)) 17 (0 : Int32))), (sI cy (am 11) 24 m_draft), (sI cy (am 12) 24 r1), (sZ cy (am 16) 2 m_isKept)]) hi_X9_settles_X9 tyX9 tyX9_ok nmX9 0 0 17 dX9_settles_36 rfl rfl (by decide) fl_X9_settles_158 rfl rfl rfl rfl (Nat.le_of_ble_eq_true rfl) rfl ?_
  refine g_aload_n F dX9_settles_39 rfl 0 rfl ?_
  refine g_get F (C := RX9) (T := TX9) (N := 36) (ci := 9) (v := .ref (am 16)) hi_X9_settles_X9 0 0 15 dX9_settles_40 rfl rfl (by decide) fl_X9_settles_28 rfl ?_
  refine g_iconst F (v := (0 : Int32)) dX9_settles_43 (by decide) ?_
  refine g_iconst F (v := (0 : Int32)) dX9_settles_44 (by decide) ?_
  refine g_zastore F h (sg' := [(sMod cy am (upd (upd (upd (upd (upd Mm 8 (Mm 9)) 2 (0 : Int32)) 20 (0 : Int32)) 25 (0 : Int32)) 17 (0 : Int32))), (sI cy (am 11) 24 m_draft), (sI cy (am 12) 24 r1), (sZ cy (am 16) 2 (upd m_isKept ((0 : Int32)).toNatClampNeg (vp_nar .boolean (0 : Int32))))]) 3 0 dX9_settles_45 rfl rfl (fun h => ?_)
  refine g_aload_n F dX9_settles_46 rfl 0 rfl ?_
  refine g_get F (C := RX9) (T := TX9) (N := 36) (ci := 9) (v := .ref (am 16)) hi_X9_settles_X9 0 0 15 dX9_settles_47 rfl rfl (by decide) fl_X9_settles_28 rfl ?_
  refine g_iconst F (v := (1 : Int32)) dX9_settles_50 (by decide) ?_
  refine g_iconst F (v := (0 : Int32)) dX9_settles_51 (by decide) ?_
  refine g_zastore F h (sg' := [(sMod cy am (upd (upd (upd (upd (upd Mm 8 (Mm 9)) 2 (0 : Int32)) 20 (0 : Int32)) 25 (0 : Int32)) 17 (0 : Int32))), (sI cy (am 11) 24 m_draft), (sI cy (am 12) 24 r1), (sZ cy (am 16) 2 (upd (upd m_isKept ((0 : Int32)).toNatClampNeg (vp_nar .boolean (0 : Int32))) ((1 : Int32)).toNatClampNeg (vp_nar .boolean (0 : Int32))))]) 3 0 dX9_settles_52 rfl rfl (fun h => ?_)
  obtain rfl := Option.some.inj h
  exact g_vret F Rq rfl dX9_settles_53
theorem hi_X9_store_X9 : ∀ w ∈ u_ws RX9 TX9 36, w ∈ wsX9_store := by decide +kernel
theorem fl_X9_store_75 : Cond.fieldLink RX9 75 "ArcOrderModel" "thrown" "I" ∈ wsX9_store := by decide +kernel
theorem fl_X9_store_102 : Cond.fieldLink RX9 102 "ArcOrderModel" "fault" "I" ∈ wsX9_store := by decide +kernel
theorem fl_X9_store_86 : Cond.fieldLink RX9 86 "ArcOrderModel" "spot" "I" ∈ wsX9_store := by decide +kernel
theorem fl_X9_store_96 : Cond.fieldLink RX9 96 "ArcOrderModel" "token" "I" ∈ wsX9_store := by decide +kernel
theorem fl_X9_store_99 : Cond.fieldLink RX9 99 "ArcOrderModel" "value" "I" ∈ wsX9_store := by decide +kernel
abbrev rm_X9_store : Room := { frames := 4, cells := 0, slots := 0, locals := 97 }
set_option maxHeartbeats 4000000 in
set_option maxRecDepth 100000 in
theorem k_X9_store_25_ok {G : GX} {cy : Nat → ClassId} (am : Nat → Nat)   (m_text : (Nat → Int32)) (m_s : (Nat → Int32)) (m_isKept : (Nat → Int32)) {out : Int32 × ModS × (Nat → Int32) × (Nat → Int32) × (Nat → Int32) × (Nat → Int32) × (Nat → Int32)} (F : Fx G cX9_store wsX9_store RX9 cy 3 (rm_X9_store)) (Rq : Rx G "store" (some .int) (some (.int out.1)) (fun z => z = [(sMod cy am out.2.1), (sI cy (am 2) 120 m_text), (sI cy (am 11) 24 out.2.2.1), (sI cy (am 12) 24 out.2.2.2.1), (sI cy (am 13) 24 out.2.2.2.2.1), (sZ cy (am 16) 2 out.2.2.2.2.2.1), (sI cy (am 33) 12 out.2.2.2.2.2.2)]) 0 0) (ke : Int32 → ModS → (Nat → Int32) → (Nat → Int32) → (Nat → Int32) → Option (Int32 × ModS × (Nat → Int32) × (Nat → Int32) × (Nat → Int32) × (Nat → Int32) × (Nat → Int32))) (hke : ∀ (x1 : Int32) (Mm : ModS) (m_draft : (Nat → Int32)) (m_w : (Nat → Int32)) (m_order : (Nat → Int32)), ke x1 Mm m_draft m_w m_order = some out → Go G 0 0 106 [(0, .ref (am 0)), (1, .int x1)] [] [(sMod cy am Mm), (sI cy (am 2) 120 m_text), (sI cy (am 11) 24 m_draft), (sI cy (am 12) 24 m_s), (sI cy (am 13) 24 m_w), (sZ cy (am 16) 2 m_isKept), (sI cy (am 33) 12 m_order)]) : ∀ (n : Nat) (x1 : Int32) (Mm : ModS) (m_draft : (Nat → Int32)) (m_w : (Nat → Int32)) (m_order : (Nat → Int32)), k_X9_store_25 m_text m_s m_isKept ke n x1 Mm m_draft m_w m_order = some out → Go G 0 0 25 [(0, .ref (am 0)), (1, .int x1)] [] [(sMod cy am Mm), (sI cy (am 2) 120 m_text), (sI cy (am 11) 24 m_draft), (sI cy (am 12) 24 m_s), (sI cy (am 13) 24 m_w), (sZ cy (am 16) 2 m_isKept), (sI cy (am 33) 12 m_order)] := by
  intro n
  induction n with
  | zero =>
    intro x1 Mm m_draft m_w m_order h
    exact nosome h
  | succ n ih =>
    intro x1 Mm m_draft m_w m_order h
    rw [k_X9_store_25.eq_2] at h
    refine g_aload_n F dX9_store_25 rfl 0 rfl ?_
    obtain ⟨r3, hr3, h⟩ := bnd h
    refine g_cV F [] 0 0 (ok_X9_isWell (gl G) (gD G) cy am Mm r3 hr3) dX9_store_26 rfl rfl gX9_store_X9_isWell rfl ⟨rfl, cd_X9_isWell⟩ (by decide) rfl (Nat.le_of_ble_eq_true rfl) [0] (by decide) rfl rfl (sg' := [(sMod cy am Mm), (sI cy (am 2) 120 m_text), (sI cy (am 11) 24 m_draft), (sI cy (am 12) 24 m_s), (sI cy (am 13) 24 m_w), (sZ cy (am 16) 2 m_isKept), (sI cy (am 33) 12 m_order)]) (st' := [.int r3]) rfl rfl ?_
    refine g_if_eq F 106 h dX9_store_29 (by decide) (fun h => ?_) (fun h => ?_)
    · refine Go.sub (lv' := [(0, .ref (am 0)), (1, .int x1)]) [0, 1] rfl ?_
      exact hke x1 Mm m_draft m_w m_order h
    · refine g_aload_n F dX9_store_32 rfl 0 rfl ?_
      refine g_get F (C := RX9) (T := TX9) (N := 36) (ci := 9) (v := .int (Mm 4)) hi_X9_store_X9 0 0 4 dX9_store_33 rfl rfl (by decide) fl_X9_store_96 rfl ?_
      refine g_if_eq F 106 h dX9_store_36 (by decide) (fun h => ?_) (fun h => ?_)
      · refine Go.sub (lv' := [(0, .ref (am 0)), (1, .int x1)]) [0, 1] rfl ?_
        exact hke x1 Mm m_draft m_w m_order h
      · refine g_aload_n F dX9_store_39 rfl 0 rfl ?_
        refine g_aload_n F dX9_store_40 rfl 0 rfl ?_
        refine g_get F (C := RX9) (T := TX9) (N := 36) (ci := 9) (v := .int (Mm 4)) hi_X9_store_X9 0 0 4 dX9_store_41 rfl rfl (by decide) fl_X9_store_96 rfl ?_
        refine g_iconst F (v := (1 : Int32)) dX9_store_44 (by decide) ?_
        refine g_icmp_ne F 65 h dX9_store_45 (by decide) (fun h => ?_) (fun h => ?_)
        · refine g_iconst F (v := (0 : Int32)) dX9_store_65 (by decide) ?_
          obtain ⟨r4, hr4, h⟩ := bnd h
          refine g_cV F [.int (0 : Int32)] 0 0 (ok_X9_takes (gl G) (gD G) cy am Mm m_text (0 : Int32) r4 hr4) dX9_store_66 rfl rfl gX9_store_X9_takes rfl ⟨rfl, cd_X9_takes⟩ (by decide) rfl (Nat.le_of_ble_eq_true rfl) [0, 1] (by decide) rfl rfl (sg' := [(sMod cy am r4.2), (sI cy (am 2) 120 m_text), (sI cy (am 11) 24 m_draft), (sI cy (am 12) 24 m_s), (sI cy (am 13) 24 m_w), (sZ cy (am 16) 2 m_isKept), (sI cy (am 33) 12 m_order)]) (st' := [.int r4.1]) rfl rfl ?_
          refine g_istore_n F (lv' := [(2, .int r4.1), (0, .ref (am 0)), (1, .int x1)]) dX9_store_69 rfl (by decide) rfl ?_
          refine g_aload_n F dX9_store_70 rfl 1 rfl ?_
          obtain ⟨r5, hr5, h⟩ := bnd h
          refine g_cV F [] 0 0 (ok_X9_isWell (gl G) (gD G) cy am r4.2 r5 hr5) dX9_store_71 rfl rfl gX9_store_X9_isWell rfl ⟨rfl, cd_X9_isWell⟩ (by decide) rfl (Nat.le_of_ble_eq_true rfl) [0] (by decide) rfl rfl (sg' := [(sMod cy am r4.2), (sI cy (am 2) 120 m_text), (sI cy (am 11) 24 m_draft), (sI cy (am 12) 24 m_s), (sI cy (am 13) 24 m_w), (sZ cy (am 16) 2 m_isKept), (sI cy (am 33) 12 m_order)]) (st' := [.int r5]) rfl rfl ?_
          refine g_if_eq F 82 h dX9_store_74 (by decide) (fun h => ?_) (fun h => ?_)
          · refine g_aload_n F dX9_store_82 rfl 1 rfl ?_
            refine g_aload_n F dX9_store_83 rfl 1 rfl ?_
            refine g_get F (C := RX9) (T := TX9) (N := 36) (ci := 9) (v := .int (r4.2 4)) hi_X9_store_X9 0 0 4 dX9_store_84 rfl rfl (by decide) fl_X9_store_96 rfl ?_
            refine g_iconst F (v := (3 : Int32)) dX9_store_87 (by decide) ?_
            refine g_icmp_ne F 95 h dX9_store_88 (by decide) (fun h => ?_) (fun h => ?_)
            · refine g_iconst F (v := (0 : Int32)) dX9_store_95 (by decide) ?_
              obtain ⟨r6, hr6, h⟩ := bnd h
              refine g_cV F [.int (0 : Int32)] 0 0 (ok_X9_takes (gl G) (gD G) cy am r4.2 m_text (0 : Int32) r6 hr6) dX9_store_96 rfl rfl gX9_store_X9_takes rfl ⟨rfl, cd_X9_takes⟩ (by decide) rfl (Nat.le_of_ble_eq_true rfl) [0, 1] (by decide) rfl rfl (sg' := [(sMod cy am r6.2), (sI cy (am 2) 120 m_text), (sI cy (am 11) 24 m_draft), (sI cy (am 12) 24 m_s), (sI cy (am 13) 24 m_w), (sZ cy (am 16) 2 m_isKept), (sI cy (am 33) 12 m_order)]) (st' := [.int r6.1]) rfl rfl ?_
              refine g_pop F dX9_store_99 rfl ?_
              refine g_iinc F (v := (x1 + 1)) (lv' := [(1, .int (x1 + 1)), (2, .int r4.1), (0, .ref (am 0))]) dX9_store_100 2 rfl rfl (by decide) rfl ?_
              refine g_goto F 25 dX9_store_103 (by decide) ?_
              refine Go.sub (lv' := [(0, .ref (am 0)), (1, .int (x1 + 1))]) [2, 0] rfl ?_
              exact ih (x1 + 1) r6.2 m_draft m_w m_order h
            · refine g_iconst F (v := (1 : Int32)) dX9_store_91 (by decide) ?_
              refine g_goto F 96 dX9_store_92 (by decide) ?_
              obtain ⟨r7, hr7, h⟩ := bnd h
              refine g_cV F [.int (1 : Int32)] 0 0 (ok_X9_takes (gl G) (gD G) cy am r4.2 m_text (1 : Int32) r7 hr7) dX9_store_96 rfl rfl gX9_store_X9_takes rfl ⟨rfl, cd_X9_takes⟩ (by decide) rfl (Nat.le_of_ble_eq_true rfl) [0, 1] (by decide) rfl rfl (sg' := [(sMod cy am r7.2), (sI cy (am 2) 120 m_text), (sI cy (am 11) 24 m_draft), (sI cy (am 12) 24 m_s), (sI cy (am 13) 24 m_w), (sZ cy (am 16) 2 m_isKept), (sI cy (am 33) 12 m_order)]) (st' := [.int r7.1]) rfl rfl ?_
              refine g_pop F dX9_store_99 rfl ?_
              refine g_iinc F (v := (x1 + 1)) (lv' := [(1, .int (x1 + 1)), (2, .int r4.1), (0, .ref (am 0))]) dX9_store_100 2 rfl rfl (by decide) rfl ?_
              refine g_goto F 25 dX9_store_103 (by decide) ?_
              refine Go.sub (lv' := [(0, .ref (am 0)), (1, .int (x1 + 1))]) [2, 0] rfl ?_
              exact ih (x1 + 1) r7.2 m_draft m_w m_order h
          · refine g_aload_n F dX9_store_77 rfl 1 rfl ?_
            refine g_iload_n F dX9_store_78 rfl 0 rfl ?_
            obtain ⟨r8, hr8, h⟩ := bnd h
            refine g_cV F [.int r4.1] 0 0 (ok_X9_readsEntry (gl G) (gD G) cy am r4.2 m_text m_draft m_w m_order r4.1 r8 hr8) dX9_store_79 rfl rfl gX9_store_X9_readsEntry rfl ⟨rfl, cd_X9_readsEntry⟩ (by decide) rfl (Nat.le_of_ble_eq_true rfl) [0, 1, 2, 4, 6] (by decide) rfl rfl (sg' := [(sMod cy am r8.1), (sI cy (am 2) 120 m_text), (sI cy (am 11) 24 r8.2.1), (sI cy (am 12) 24 m_s), (sI cy (am 13) 24 r8.2.2.1), (sZ cy (am 16) 2 m_isKept), (sI cy (am 33) 12 r8.2.2.2)]) (st' := []) rfl rfl ?_
            refine g_aload_n F dX9_store_82 rfl 1 rfl ?_
            refine g_aload_n F dX9_store_83 rfl 1 rfl ?_
            refine g_get F (C := RX9) (T := TX9) (N := 36) (ci := 9) (v := .int (r8.1 4)) hi_X9_store_X9 0 0 4 dX9_store_84 rfl rfl (by decide) fl_X9_store_96 rfl ?_
            refine g_iconst F (v := (3 : Int32)) dX9_store_87 (by decide) ?_
            refine g_icmp_ne F 95 h dX9_store_88 (by decide) (fun h => ?_) (fun h => ?_)
            · refine g_iconst F (v := (0 : Int32)) dX9_store_95 (by decide) ?_
              obtain ⟨r9, hr9, h⟩ := bnd h
              refine g_cV F [.int (0 : Int32)] 0 0 (ok_X9_takes (gl G) (gD G) cy am r8.1 m_text (0 : Int32) r9 hr9) dX9_store_96 rfl rfl gX9_store_X9_takes rfl ⟨rfl, cd_X9_takes⟩ (by decide) rfl (Nat.le_of_ble_eq_true rfl) [0, 1] (by decide) rfl rfl (sg' := [(sMod cy am r9.2), (sI cy (am 2) 120 m_text), (sI cy (am 11) 24 r8.2.1), (sI cy (am 12) 24 m_s), (sI cy (am 13) 24 r8.2.2.1), (sZ cy (am 16) 2 m_isKept), (sI cy (am 33) 12 r8.2.2.2)]) (st' := [.int r9.1]) rfl rfl ?_
              refine g_pop F dX9_store_99 rfl ?_
              refine g_iinc F (v := (x1 + 1)) (lv' := [(1, .int (x1 + 1)), (2, .int r4.1), (0, .ref (am 0))]) dX9_store_100 2 rfl rfl (by decide) rfl ?_
              refine g_goto F 25 dX9_store_103 (by decide) ?_
              refine Go.sub (lv' := [(0, .ref (am 0)), (1, .int (x1 + 1))]) [2, 0] rfl ?_
              exact ih (x1 + 1) r9.2 r8.2.1 r8.2.2.1 r8.2.2.2 h
            · refine g_iconst F (v := (1 : Int32)) dX9_store_91 (by decide) ?_
              refine g_goto F 96 dX9_store_92 (by decide) ?_
              obtain ⟨r10, hr10, h⟩ := bnd h
              refine g_cV F [.int (1 : Int32)] 0 0 (ok_X9_takes (gl G) (gD G) cy am r8.1 m_text (1 : Int32) r10 hr10) dX9_store_96 rfl rfl gX9_store_X9_takes rfl ⟨rfl, cd_X9_takes⟩ (by decide) rfl (Nat.le_of_ble_eq_true rfl) [0, 1] (by decide) rfl rfl (sg' := [(sMod cy am r10.2), (sI cy (am 2) 120 m_text), (sI cy (am 11) 24 r8.2.1), (sI cy (am 12) 24 m_s), (sI cy (am 13) 24 r8.2.2.1), (sZ cy (am 16) 2 m_isKept), (sI cy (am 33) 12 r8.2.2.2)]) (st' := [.int r10.1]) rfl rfl ?_
              refine g_pop F dX9_store_99 rfl ?_
              refine g_iinc F (v := (x1 + 1)) (lv' := [(1, .int (x1 + 1)), (2, .int r4.1), (0, .ref (am 0))]) dX9_store_100 2 rfl rfl (by decide) rfl ?_
              refine g_goto F 25 dX9_store_103 (by decide) ?_
              refine Go.sub (lv' := [(0, .ref (am 0)), (1, .int (x1 + 1))]) [2, 0] rfl ?_
              exact ih (x1 + 1) r10.2 r8.2.1 r8.2.2.1 r8.2.2.2 h
        · refine g_aload_n F dX9_store_48 rfl 0 rfl ?_
          refine g_get F (C := RX9) (T := TX9) (N := 36) (ci := 9) (v := .int (Mm 6)) hi_X9_store_X9 0 0 6 dX9_store_49 rfl rfl (by decide) fl_X9_store_99 rfl ?_
          refine g_bipush F (v := (110 : Int32)) dX9_store_52 (by decide) ?_
          refine g_icmp_ne F 61 h dX9_store_54 (by decide) (fun h => ?_) (fun h => ?_)
          · refine g_iconst F (v := (1 : Int32)) dX9_store_61 (by decide) ?_
            refine g_goto F 66 dX9_store_62 (by decide) ?_
            obtain ⟨r11, hr11, h⟩ := bnd h
            refine g_cV F [.int (1 : Int32)] 0 0 (ok_X9_takes (gl G) (gD G) cy am Mm m_text (1 : Int32) r11 hr11) dX9_store_66 rfl rfl gX9_store_X9_takes rfl ⟨rfl, cd_X9_takes⟩ (by decide) rfl (Nat.le_of_ble_eq_true rfl) [0, 1] (by decide) rfl rfl (sg' := [(sMod cy am r11.2), (sI cy (am 2) 120 m_text), (sI cy (am 11) 24 m_draft), (sI cy (am 12) 24 m_s), (sI cy (am 13) 24 m_w), (sZ cy (am 16) 2 m_isKept), (sI cy (am 33) 12 m_order)]) (st' := [.int r11.1]) rfl rfl ?_
            refine g_istore_n F (lv' := [(2, .int r11.1), (0, .ref (am 0)), (1, .int x1)]) dX9_store_69 rfl (by decide) rfl ?_
            refine g_aload_n F dX9_store_70 rfl 1 rfl ?_
            obtain ⟨r12, hr12, h⟩ := bnd h
            refine g_cV F [] 0 0 (ok_X9_isWell (gl G) (gD G) cy am r11.2 r12 hr12) dX9_store_71 rfl rfl gX9_store_X9_isWell rfl ⟨rfl, cd_X9_isWell⟩ (by decide) rfl (Nat.le_of_ble_eq_true rfl) [0] (by decide) rfl rfl (sg' := [(sMod cy am r11.2), (sI cy (am 2) 120 m_text), (sI cy (am 11) 24 m_draft), (sI cy (am 12) 24 m_s), (sI cy (am 13) 24 m_w), (sZ cy (am 16) 2 m_isKept), (sI cy (am 33) 12 m_order)]) (st' := [.int r12]) rfl rfl ?_
            refine g_if_eq F 82 h dX9_store_74 (by decide) (fun h => ?_) (fun h => ?_)
            · refine g_aload_n F dX9_store_82 rfl 1 rfl ?_
              refine g_aload_n F dX9_store_83 rfl 1 rfl ?_
              refine g_get F (C := RX9) (T := TX9) (N := 36) (ci := 9) (v := .int (r11.2 4)) hi_X9_store_X9 0 0 4 dX9_store_84 rfl rfl (by decide) fl_X9_store_96 rfl ?_
              refine g_iconst F (v := (3 : Int32)) dX9_store_87 (by decide) ?_
              refine g_icmp_ne F 95 h dX9_store_88 (by decide) (fun h => ?_) (fun h => ?_)
              · refine g_iconst F (v := (0 : Int32)) dX9_store_95 (by decide) ?_
                obtain ⟨r13, hr13, h⟩ := bnd h
                refine g_cV F [.int (0 : Int32)] 0 0 (ok_X9_takes (gl G) (gD G) cy am r11.2 m_text (0 : Int32) r13 hr13) dX9_store_96 rfl rfl gX9_store_X9_takes rfl ⟨rfl, cd_X9_takes⟩ (by decide) rfl (Nat.le_of_ble_eq_true rfl) [0, 1] (by decide) rfl rfl (sg' := [(sMod cy am r13.2), (sI cy (am 2) 120 m_text), (sI cy (am 11) 24 m_draft), (sI cy (am 12) 24 m_s), (sI cy (am 13) 24 m_w), (sZ cy (am 16) 2 m_isKept), (sI cy (am 33) 12 m_order)]) (st' := [.int r13.1]) rfl rfl ?_
                refine g_pop F dX9_store_99 rfl ?_
                refine g_iinc F (v := (x1 + 1)) (lv' := [(1, .int (x1 + 1)), (2, .int r11.1), (0, .ref (am 0))]) dX9_store_100 2 rfl rfl (by decide) rfl ?_
                refine g_goto F 25 dX9_store_103 (by decide) ?_
                refine Go.sub (lv' := [(0, .ref (am 0)), (1, .int (x1 + 1))]) [2, 0] rfl ?_
                exact ih (x1 + 1) r13.2 m_draft m_w m_order h
              · refine g_iconst F (v := (1 : Int32)) dX9_store_91 (by decide) ?_
                refine g_goto F 96 dX9_store_92 (by decide) ?_
                obtain ⟨r14, hr14, h⟩ := bnd h
                refine g_cV F [.int (1 : Int32)] 0 0 (ok_X9_takes (gl G) (gD G) cy am r11.2 m_text (1 : Int32) r14 hr14) dX9_store_96 rfl rfl gX9_store_X9_takes rfl ⟨rfl, cd_X9_takes⟩ (by decide) rfl (Nat.le_of_ble_eq_true rfl) [0, 1] (by decide) rfl rfl (sg' := [(sMod cy am r14.2), (sI cy (am 2) 120 m_text), (sI cy (am 11) 24 m_draft), (sI cy (am 12) 24 m_s), (sI cy (am 13) 24 m_w), (sZ cy (am 16) 2 m_isKept), (sI cy (am 33) 12 m_order)]) (st' := [.int r14.1]) rfl rfl ?_
                refine g_pop F dX9_store_99 rfl ?_
                refine g_iinc F (v := (x1 + 1)) (lv' := [(1, .int (x1 + 1)), (2, .int r11.1), (0, .ref (am 0))]) dX9_store_100 2 rfl rfl (by decide) rfl ?_
                refine g_goto F 25 dX9_store_103 (by decide) ?_
                refine Go.sub (lv' := [(0, .ref (am 0)), (1, .int (x1 + 1))]) [2, 0] rfl ?_
                exact ih (x1 + 1) r14.2 m_draft m_w m_order h
            · refine g_aload_n F dX9_store_77 rfl 1 rfl ?_
              refine g_iload_n F dX9_store_78 rfl 0 rfl ?_
              obtain ⟨r15, hr15, h⟩ := bnd h
              refine g_cV F [.int r11.1] 0 0 (ok_X9_readsEntry (gl G) (gD G) cy am r11.2 m_text m_draft m_w m_order r11.1 r15 hr15) dX9_store_79 rfl rfl gX9_store_X9_readsEntry rfl ⟨rfl, cd_X9_readsEntry⟩ (by decide) rfl (Nat.le_of_ble_eq_true rfl) [0, 1, 2, 4, 6] (by decide) rfl rfl (sg' := [(sMod cy am r15.1), (sI cy (am 2) 120 m_text), (sI cy (am 11) 24 r15.2.1), (sI cy (am 12) 24 m_s), (sI cy (am 13) 24 r15.2.2.1), (sZ cy (am 16) 2 m_isKept), (sI cy (am 33) 12 r15.2.2.2)]) (st' := []) rfl rfl ?_
              refine g_aload_n F dX9_store_82 rfl 1 rfl ?_
              refine g_aload_n F dX9_store_83 rfl 1 rfl ?_
              refine g_get F (C := RX9) (T := TX9) (N := 36) (ci := 9) (v := .int (r15.1 4)) hi_X9_store_X9 0 0 4 dX9_store_84 rfl rfl (by decide) fl_X9_store_96 rfl ?_
              refine g_iconst F (v := (3 : Int32)) dX9_store_87 (by decide) ?_
              refine g_icmp_ne F 95 h dX9_store_88 (by decide) (fun h => ?_) (fun h => ?_)
              · refine g_iconst F (v := (0 : Int32)) dX9_store_95 (by decide) ?_
                obtain ⟨r16, hr16, h⟩ := bnd h
                refine g_cV F [.int (0 : Int32)] 0 0 (ok_X9_takes (gl G) (gD G) cy am r15.1 m_text (0 : Int32) r16 hr16) dX9_store_96 rfl rfl gX9_store_X9_takes rfl ⟨rfl, cd_X9_takes⟩ (by decide) rfl (Nat.le_of_ble_eq_true rfl) [0, 1] (by decide) rfl rfl (sg' := [(sMod cy am r16.2), (sI cy (am 2) 120 m_text), (sI cy (am 11) 24 r15.2.1), (sI cy (am 12) 24 m_s), (sI cy (am 13) 24 r15.2.2.1), (sZ cy (am 16) 2 m_isKept), (sI cy (am 33) 12 r15.2.2.2)]) (st' := [.int r16.1]) rfl rfl ?_
                refine g_pop F dX9_store_99 rfl ?_
                refine g_iinc F (v := (x1 + 1)) (lv' := [(1, .int (x1 + 1)), (2, .int r11.1), (0, .ref (am 0))]) dX9_store_100 2 rfl rfl (by decide) rfl ?_
                refine g_goto F 25 dX9_store_103 (by decide) ?_
                refine Go.sub (lv' := [(0, .ref (am 0)), (1, .int (x1 + 1))]) [2, 0] rfl ?_
                exact ih (x1 + 1) r16.2 r15.2.1 r15.2.2.1 r15.2.2.2 h
              · refine g_iconst F (v := (1 : Int32)) dX9_store_91 (by decide) ?_
                refine g_goto F 96 dX9_store_92 (by decide) ?_
                obtain ⟨r17, hr17, h⟩ := bnd h
                refine g_cV F [.int (1 : Int32)] 0 0 (ok_X9_takes (gl G) (gD G) cy am r15.1 m_text (1 : Int32) r17 hr17) dX9_store_96 rfl rfl gX9_store_X9_takes rfl ⟨rfl, cd_X9_takes⟩ (by decide) rfl (Nat.le_of_ble_eq_true rfl) [0, 1] (by decide) rfl rfl (sg' := [(sMod cy am r17.2), (sI cy (am 2) 120 m_text), (sI cy (am 11) 24 r15.2.1), (sI cy (am 12) 24 m_s), (sI cy (am 13) 24 r15.2.2.1), (sZ cy (am 16) 2 m_isKept), (sI cy (am 33) 12 r15.2.2.2)]) (st' := [.int r17.1]) rfl rfl ?_
                refine g_pop F dX9_store_99 rfl ?_
                refine g_iinc F (v := (x1 + 1)) (lv' := [(1, .int (x1 + 1)), (2, .int r11.1), (0, .ref (am 0))]) dX9_store_100 2 rfl rfl (by decide) rfl ?_
                refine g_goto F 25 dX9_store_103 (by decide) ?_
                refine Go.sub (lv' := [(0, .ref (am 0)), (1, .int (x1 + 1))]) [2, 0] rfl ?_
                exact ih (x1 + 1) r17.2 r15.2.1 r15.2.2.1 r15.2.2.2 h
          · refine g_iload_n F dX9_store_57 rfl 1 rfl ?_
            refine g_if_ne F 65 h dX9_store_58 (by decide) (fun h => ?_) (fun h => ?_)
            · refine g_iconst F (v := (0 : Int32)) dX9_store_65 (by decide) ?_
              obtain ⟨r18, hr18, h⟩ := bnd h
              refine g_cV F [.int (0 : Int32)] 0 0 (ok_X9_takes (gl G) (gD G) cy am Mm m_text (0 : Int32) r18 hr18) dX9_store_66 rfl rfl gX9_store_X9_takes rfl ⟨rfl, cd_X9_takes⟩ (by decide) rfl (Nat.le_of_ble_eq_true rfl) [0, 1] (by decide) rfl rfl (sg' := [(sMod cy am r18.2), (sI cy (am 2) 120 m_text), (sI cy (am 11) 24 m_draft), (sI cy (am 12) 24 m_s), (sI cy (am 13) 24 m_w), (sZ cy (am 16) 2 m_isKept), (sI cy (am 33) 12 m_order)]) (st' := [.int r18.1]) rfl rfl ?_
              refine g_istore_n F (lv' := [(2, .int r18.1), (0, .ref (am 0)), (1, .int x1)]) dX9_store_69 rfl (by decide) rfl ?_
              refine g_aload_n F dX9_store_70 rfl 1 rfl ?_
              obtain ⟨r19, hr19, h⟩ := bnd h
              refine g_cV F [] 0 0 (ok_X9_isWell (gl G) (gD G) cy am r18.2 r19 hr19) dX9_store_71 rfl rfl gX9_store_X9_isWell rfl ⟨rfl, cd_X9_isWell⟩ (by decide) rfl (Nat.le_of_ble_eq_true rfl) [0] (by decide) rfl rfl (sg' := [(sMod cy am r18.2), (sI cy (am 2) 120 m_text), (sI cy (am 11) 24 m_draft), (sI cy (am 12) 24 m_s), (sI cy (am 13) 24 m_w), (sZ cy (am 16) 2 m_isKept), (sI cy (am 33) 12 m_order)]) (st' := [.int r19]) rfl rfl ?_
              refine g_if_eq F 82 h dX9_store_74 (by decide) (fun h => ?_) (fun h => ?_)
              · refine g_aload_n F dX9_store_82 rfl 1 rfl ?_
                refine g_aload_n F dX9_store_83 rfl 1 rfl ?_
                refine g_get F (C := RX9) (T := TX9) (N := 36) (ci := 9) (v := .int (r18.2 4)) hi_X9_store_X9 0 0 4 dX9_store_84 rfl rfl (by decide) fl_X9_store_96 rfl ?_
                refine g_iconst F (v := (3 : Int32)) dX9_store_87 (by decide) ?_
                refine g_icmp_ne F 95 h dX9_store_88 (by decide) (fun h => ?_) (fun h => ?_)
                · refine g_iconst F (v := (0 : Int32)) dX9_store_95 (by decide) ?_
                  obtain ⟨r20, hr20, h⟩ := bnd h
                  refine g_cV F [.int (0 : Int32)] 0 0 (ok_X9_takes (gl G) (gD G) cy am r18.2 m_text (0 : Int32) r20 hr20) dX9_store_96 rfl rfl gX9_store_X9_takes rfl ⟨rfl, cd_X9_takes⟩ (by decide) rfl (Nat.le_of_ble_eq_true rfl) [0, 1] (by decide) rfl rfl (sg' := [(sMod cy am r20.2), (sI cy (am 2) 120 m_text), (sI cy (am 11) 24 m_draft), (sI cy (am 12) 24 m_s), (sI cy (am 13) 24 m_w), (sZ cy (am 16) 2 m_isKept), (sI cy (am 33) 12 m_order)]) (st' := [.int r20.1]) rfl rfl ?_
                  refine g_pop F dX9_store_99 rfl ?_
                  refine g_iinc F (v := (x1 + 1)) (lv' := [(1, .int (x1 + 1)), (2, .int r18.1), (0, .ref (am 0))]) dX9_store_100 2 rfl rfl (by decide) rfl ?_
                  refine g_goto F 25 dX9_store_103 (by decide) ?_
                  refine Go.sub (lv' := [(0, .ref (am 0)), (1, .int (x1 + 1))]) [2, 0] rfl ?_
                  exact ih (x1 + 1) r20.2 m_draft m_w m_order h
                · refine g_iconst F (v := (1 : Int32)) dX9_store_91 (by decide) ?_
                  refine g_goto F 96 dX9_store_92 (by decide) ?_
                  obtain ⟨r21, hr21, h⟩ := bnd h
                  refine g_cV F [.int (1 : Int32)] 0 0 (ok_X9_takes (gl G) (gD G) cy am r18.2 m_text (1 : Int32) r21 hr21) dX9_store_96 rfl rfl gX9_store_X9_takes rfl ⟨rfl, cd_X9_takes⟩ (by decide) rfl (Nat.le_of_ble_eq_true rfl) [0, 1] (by decide) rfl rfl (sg' := [(sMod cy am r21.2), (sI cy (am 2) 120 m_text), (sI cy (am 11) 24 m_draft), (sI cy (am 12) 24 m_s), (sI cy (am 13) 24 m_w), (sZ cy (am 16) 2 m_isKept), (sI cy (am 33) 12 m_order)]) (st' := [.int r21.1]) rfl rfl ?_
                  refine g_pop F dX9_store_99 rfl ?_
                  refine g_iinc F (v := (x1 + 1)) (lv' := [(1, .int (x1 + 1)), (2, .int r18.1), (0, .ref (am 0))]) dX9_store_100 2 rfl rfl (by decide) rfl ?_
                  refine g_goto F 25 dX9_store_103 (by decide) ?_
                  refine Go.sub (lv' := [(0, .ref (am 0)), (1, .int (x1 + 1))]) [2, 0] rfl ?_
                  exact ih (x1 + 1) r21.2 m_draft m_w m_order h
              · refine g_aload_n F dX9_store_77 rfl 1 rfl ?_
                refine g_iload_n F dX9_store_78 rfl 0 rfl ?_
                obtain ⟨r22, hr22, h⟩ := bnd h
                refine g_cV F [.int r18.1] 0 0 (ok_X9_readsEntry (gl G) (gD G) cy am r18.2 m_text m_draft m_w m_order r18.1 r22 hr22) dX9_store_79 rfl rfl gX9_store_X9_readsEntry rfl ⟨rfl, cd_X9_readsEntry⟩ (by decide) rfl (Nat.le_of_ble_eq_true rfl) [0, 1, 2, 4, 6] (by decide) rfl rfl (sg' := [(sMod cy am r22.1), (sI cy (am 2) 120 m_text), (sI cy (am 11) 24 r22.2.1), (sI cy (am 12) 24 m_s), (sI cy (am 13) 24 r22.2.2.1), (sZ cy (am 16) 2 m_isKept), (sI cy (am 33) 12 r22.2.2.2)]) (st' := []) rfl rfl ?_
                refine g_aload_n F dX9_store_82 rfl 1 rfl ?_
                refine g_aload_n F dX9_store_83 rfl 1 rfl ?_
                refine g_get F (C := RX9) (T := TX9) (N := 36) (ci := 9) (v := .int (r22.1 4)) hi_X9_store_X9 0 0 4 dX9_store_84 rfl rfl (by decide) fl_X9_store_96 rfl ?_
                refine g_iconst F (v := (3 : Int32)) dX9_store_87 (by decide) ?_
                refine g_icmp_ne F 95 h dX9_store_88 (by decide) (fun h => ?_) (fun h => ?_)
                · refine g_iconst F (v := (0 : Int32)) dX9_store_95 (by decide) ?_
                  obtain ⟨r23, hr23, h⟩ := bnd h
                  refine g_cV F [.int (0 : Int32)] 0 0 (ok_X9_takes (gl G) (gD G) cy am r22.1 m_text (0 : Int32) r23 hr23) dX9_store_96 rfl rfl gX9_store_X9_takes rfl ⟨rfl, cd_X9_takes⟩ (by decide) rfl (Nat.le_of_ble_eq_true rfl) [0, 1] (by decide) rfl rfl (sg' := [(sMod cy am r23.2), (sI cy (am 2) 120 m_text), (sI cy (am 11) 24 r22.2.1), (sI cy (am 12) 24 m_s), (sI cy (am 13) 24 r22.2.2.1), (sZ cy (am 16) 2 m_isKept), (sI cy (am 33) 12 r22.2.2.2)]) (st' := [.int r23.1]) rfl rfl ?_
                  refine g_pop F dX9_store_99 rfl ?_
                  refine g_iinc F (v := (x1 + 1)) (lv' := [(1, .int (x1 + 1)), (2, .int r18.1), (0, .ref (am 0))]) dX9_store_100 2 rfl rfl (by decide) rfl ?_
                  refine g_goto F 25 dX9_store_103 (by decide) ?_
                  refine Go.sub (lv' := [(0, .ref (am 0)), (1, .int (x1 + 1))]) [2, 0] rfl ?_
                  exact ih (x1 + 1) r23.2 r22.2.1 r22.2.2.1 r22.2.2.2 h
                · refine g_iconst F (v := (1 : Int32)) dX9_store_91 (by decide) ?_
                  refine g_goto F 96 dX9_store_92 (by decide) ?_
                  obtain ⟨r24, hr24, h⟩ := bnd h
                  refine g_cV F [.int (1 : Int32)] 0 0 (ok_X9_takes (gl G) (gD G) cy am r22.1 m_text (1 : Int32) r24 hr24) dX9_store_96 rfl rfl gX9_store_X9_takes rfl ⟨rfl, cd_X9_takes⟩ (by decide) rfl (Nat.le_of_ble_eq_true rfl) [0, 1] (by decide) rfl rfl (sg' := [(sMod cy am r24.2), (sI cy (am 2) 120 m_text), (sI cy (am 11) 24 r22.2.1), (sI cy (am 12) 24 m_s), (sI cy (am 13) 24 r22.2.2.1), (sZ cy (am 16) 2 m_isKept), (sI cy (am 33) 12 r22.2.2.2)]) (st' := [.int r24.1]) rfl rfl ?_
                  refine g_pop F dX9_store_99 rfl ?_
                  refine g_iinc F (v := (x1 + 1)) (lv' := [(1, .int (x1 + 1)), (2, .int r18.1), (0, .ref (am 0))]) dX9_store_100 2 rfl rfl (by decide) rfl ?_
                  refine g_goto F 25 dX9_store_103 (by decide) ?_
                  refine Go.sub (lv' := [(0, .ref (am 0)), (1, .int (x1 + 1))]) [2, 0] rfl ?_
                  exact ih (x1 + 1) r24.2 r22.2.1 r22.2.2.1 r22.2.2.2 h
            · refine g_iconst F (v := (1 : Int32)) dX9_store_61 (by decide) ?_
              refine g_goto F 66 dX9_store_62 (by decide) ?_
              obtain ⟨r25, hr25, h⟩ := bnd h
              refine g_cV F [.int (1 : Int32)] 0 0 (ok_X9_takes (gl G) (gD G) cy am Mm m_text (1 : Int32) r25 hr25) dX9_store_66 rfl rfl gX9_store_X9_takes rfl ⟨rfl, cd_X9_takes⟩ (by decide) rfl (Nat.le_of_ble_eq_true rfl) [0, 1] (by decide) rfl rfl (sg' := [(sMod cy am r25.2), (sI cy (am 2) 120 m_text), (sI cy (am 11) 24 m_draft), (sI cy (am 12) 24 m_s), (sI cy (am 13) 24 m_w), (sZ cy (am 16) 2 m_isKept), (sI cy (am 33) 12 m_order)]) (st' := [.int r25.1]) rfl rfl ?_
              refine g_istore_n F (lv' := [(2, .int r25.1), (0, .ref (am 0)), (1, .int x1)]) dX9_store_69 rfl (by decide) rfl ?_
              refine g_aload_n F dX9_store_70 rfl 1 rfl ?_
              obtain ⟨r26, hr26, h⟩ := bnd h
              refine g_cV F [] 0 0 (ok_X9_isWell (gl G) (gD G) cy am r25.2 r26 hr26) dX9_store_71 rfl rfl gX9_store_X9_isWell rfl ⟨rfl, cd_X9_isWell⟩ (by decide) rfl (Nat.le_of_ble_eq_true rfl) [0] (by decide) rfl rfl (sg' := [(sMod cy am r25.2), (sI cy (am 2) 120 m_text), (sI cy (am 11) 24 m_draft), (sI cy (am 12) 24 m_s), (sI cy (am 13) 24 m_w), (sZ cy (am 16) 2 m_isKept), (sI cy (am 33) 12 m_order)]) (st' := [.int r26]) rfl rfl ?_
              refine g_if_eq F 82 h dX9_store_74 (by decide) (fun h => ?_) (fun h => ?_)
              · refine g_aload_n F dX9_store_82 rfl 1 rfl ?_
                refine g_aload_n F dX9_store_83 rfl 1 rfl ?_
                refine g_get F (C := RX9) (T := TX9) (N := 36) (ci := 9) (v := .int (r25.2 4)) hi_X9_store_X9 0 0 4 dX9_store_84 rfl rfl (by decide) fl_X9_store_96 rfl ?_
                refine g_iconst F (v := (3 : Int32)) dX9_store_87 (by decide) ?_
                refine g_icmp_ne F 95 h dX9_store_88 (by decide) (fun h => ?_) (fun h => ?_)
                · refine g_iconst F (v := (0 : Int32)) dX9_store_95 (by decide) ?_
                  obtain ⟨r27, hr27, h⟩ := bnd h
                  refine g_cV F [.int (0 : Int32)] 0 0 (ok_X9_takes (gl G) (gD G) cy am r25.2 m_text (0 : Int32) r27 hr27) dX9_store_96 rfl rfl gX9_store_X9_takes rfl ⟨rfl, cd_X9_takes⟩ (by decide) rfl (Nat.le_of_ble_eq_true rfl) [0, 1] (by decide) rfl rfl (sg' := [(sMod cy am r27.2), (sI cy (am 2) 120 m_text), (sI cy (am 11) 24 m_draft), (sI cy (am 12) 24 m_s), (sI cy (am 13) 24 m_w), (sZ cy (am 16) 2 m_isKept), (sI cy (am 33) 12 m_order)]) (st' := [.int r27.1]) rfl rfl ?_
                  refine g_pop F dX9_store_99 rfl ?_
                  refine g_iinc F (v := (x1 + 1)) (lv' := [(1, .int (x1 + 1)), (2, .int r25.1), (0, .ref (am 0))]) dX9_store_100 2 rfl rfl (by decide) rfl ?_
                  refine g_goto F 25 dX9_store_103 (by decide) ?_
                  refine Go.sub (lv' := [(0, .ref (am 0)), (1, .int (x1 + 1))]) [2, 0] rfl ?_
                  exact ih (x1 + 1) r27.2 m_draft m_w m_order h
                · refine g_iconst F (v := (1 : Int32)) dX9_store_91 (by decide) ?_
                  refine g_goto F 96 dX9_store_92 (by decide) ?_
                  obtain ⟨r28, hr28, h⟩ := bnd h
                  refine g_cV F [.int (1 : Int32)] 0 0 (ok_X9_takes (gl G) (gD G) cy am r25.2 m_text (1 : Int32) r28 hr28) dX9_store_96 rfl rfl gX9_store_X9_takes rfl ⟨rfl, cd_X9_takes⟩ (by decide) rfl (Nat.le_of_ble_eq_true rfl) [0, 1] (by decide) rfl rfl (sg' := [(sMod cy am r28.2), (sI cy (am 2) 120 m_text), (sI cy (am 11) 24 m_draft), (sI cy (am 12) 24 m_s), (sI cy (am 13) 24 m_w), (sZ cy (am 16) 2 m_isKept), (sI cy (am 33) 12 m_order)]) (st' := [.int r28.1]) rfl rfl ?_
                  refine g_pop F dX9_store_99 rfl ?_
                  refine g_iinc F (v := (x1 + 1)) (lv' := [(1, .int (x1 + 1)), (2, .int r25.1), (0, .ref (am 0))]) dX9_store_100 2 rfl rfl (by decide) rfl ?_
                  refine g_goto F 25 dX9_store_103 (by decide) ?_
                  refine Go.sub (lv' := [(0, .ref (am 0)), (1, .int (x1 + 1))]) [2, 0] rfl ?_
                  exact ih (x1 + 1) r28.2 m_draft m_w m_order h
              · refine g_aload_n F dX9_store_77 rfl 1 rfl ?_
                refine g_iload_n F dX9_store_78 rfl 0 rfl ?_
                obtain ⟨r29, hr29, h⟩ := bnd h
                refine g_cV F [.int r25.1] 0 0 (ok_X9_readsEntry (gl G) (gD G) cy am r25.2 m_text m_draft m_w m_order r25.1 r29 hr29) dX9_store_79 rfl rfl gX9_store_X9_readsEntry rfl ⟨rfl, cd_X9_readsEntry⟩ (by decide) rfl (Nat.le_of_ble_eq_true rfl) [0, 1, 2, 4, 6] (by decide) rfl rfl (sg' := [(sMod cy am r29.1), (sI cy (am 2) 120 m_text), (sI cy (am 11) 24 r29.2.1), (sI cy (am 12) 24 m_s), (sI cy (am 13) 24 r29.2.2.1), (sZ cy (am 16) 2 m_isKept), (sI cy (am 33) 12 r29.2.2.2)]) (st' := []) rfl rfl ?_
                refine g_aload_n F dX9_store_82 rfl 1 rfl ?_
                refine g_aload_n F dX9_store_83 rfl 1 rfl ?_
                refine g_get F (C := RX9) (T := TX9) (N := 36) (ci := 9) (v := .int (r29.1 4)) hi_X9_store_X9 0 0 4 dX9_store_84 rfl rfl (by decide) fl_X9_store_96 rfl ?_
                refine g_iconst F (v := (3 : Int32)) dX9_store_87 (by decide) ?_
                refine g_icmp_ne F 95 h dX9_store_88 (by decide) (fun h => ?_) (fun h => ?_)
                · refine g_iconst F (v := (0 : Int32)) dX9_store_95 (by decide) ?_
                  obtain ⟨r30, hr30, h⟩ := bnd h
                  refine g_cV F [.int (0 : Int32)] 0 0 (ok_X9_takes (gl G) (gD G) cy am r29.1 m_text (0 : Int32) r30 hr30) dX9_store_96 rfl rfl gX9_store_X9_takes rfl ⟨rfl, cd_X9_takes⟩ (by decide) rfl (Nat.le_of_ble_eq_true rfl) [0, 1] (by decide) rfl rfl (sg' := [(sMod cy am r30.2), (sI cy (am 2) 120 m_text), (sI cy (am 11) 24 r29.2.1), (sI cy (am 12) 24 m_s), (sI cy (am 13) 24 r29.2.2.1), (sZ cy (am 16) 2 m_isKept), (sI cy (am 33) 12 r29.2.2.2)]) (st' := [.int r30.1]) rfl rfl ?_
                  refine g_pop F dX9_store_99 rfl ?_
                  refine g_iinc F (v := (x1 + 1)) (lv' := [(1, .int (x1 + 1)), (2, .int r25.1), (0, .ref (am 0))]) dX9_store_100 2 rfl rfl (by decide) rfl ?_
                  refine g_goto F 25 dX9_store_103 (by decide) ?_
                  refine Go.sub (lv' := [(0, .ref (am 0)), (1, .int (x1 + 1))]) [2, 0] rfl ?_
                  exact ih (x1 + 1) r30.2 r29.2.1 r29.2.2.1 r29.2.2.2 h
                · refine g_iconst F (v := (1 : Int32)) dX9_store_91 (by decide) ?_
                  refine g_goto F 96 dX9_store_92 (by decide) ?_
                  obtain ⟨r31, hr31, h⟩ := bnd h
                  refine g_cV F [.int (1 : Int32)] 0 0 (ok_X9_takes (gl G) (gD G) cy am r29.1 m_text (1 : Int32) r31 hr31) dX9_store_96 rfl rfl gX9_store_X9_takes rfl ⟨rfl, cd_X9_takes⟩ (by decide) rfl (Nat.le_of_ble_eq_true rfl) [0, 1] (by decide) rfl rfl (sg' := [(sMod cy am r31.2), (sI cy (am 2) 120 m_text), (sI cy (am 11) 24 r29.2.1), (sI cy (am 12) 24 m_s), (sI cy (am 13) 24 r29.2.2.1), (sZ cy (am 16) 2 m_isKept), (sI cy (am 33) 12 r29.2.2.2)]) (st' := [.int r31.1]) rfl rfl ?_
                  refine g_pop F dX9_store_99 rfl ?_
                  refine g_iinc F (v := (x1 + 1)) (lv' := [(1, .int (x1 + 1)), (2, .int r25.1), (0, .ref (am 0))]) dX9_store_100 2 rfl rfl (by decide) rfl ?_
                  refine g_goto F 25 dX9_store_103 (by decide) ?_
                  refine Go.sub (lv' := [(0, .ref (am 0)), (1, .int (x1 + 1))]) [2, 0] rfl ?_
                  exact ih (x1 + 1) r31.2 r29.2.1 r29.2.2.1 r29.2.2.2 h
set_option maxHeartbeats 4000000 in
set_option maxRecDepth 100000 in
theorem ok_X9_store (l : Launch) (D : va_G) (cy : Nat → ClassId) (am : Nat → Nat)  (Mm : ModS) (m_text : (Nat → Int32)) (m_draft : (Nat → Int32)) (m_s : (Nat → Int32)) (m_w : (Nat → Int32)) (m_isKept : (Nat → Int32)) (m_order : (Nat → Int32))  (out : Int32 × ModS × (Nat → Int32) × (Nat → Int32) × (Nat → Int32) × (Nat → Int32) × (Nat → Int32)) (h : f_X9_store Mm m_text m_draft m_s m_w m_isKept m_order = some out) : OK l D cy yX9_store wsX9_store rm_X9_store [.ref (am 0)] [(sMod cy am Mm), (sI cy (am 2) 120 m_text), (sI cy (am 11) 24 m_draft), (sI cy (am 12) 24 m_s), (sI cy (am 13) 24 m_w), (sZ cy (am 16) 2 m_isKept), (sI cy (am 33) 12 m_order)] (some (.int out.1)) [(sMod cy am out.2.1), (sI cy (am 2) 120 m_text), (sI cy (am 11) 24 out.2.2.1), (sI cy (am 12) 24 out.2.2.2.1), (sI cy (am 13) 24 out.2.2.2.2.1), (sZ cy (am 16) 2 out.2.2.2.2.2.1), (sI cy (am 33) 12 out.2.2.2.2.2.2)] := by
  refine OKx.of (cc := cX9_store) (maxL := 3) (ret := (some .int)) (by decide) rfl (Nat.le_of_ble_eq_true rfl) (fun G F Rq => ?_)
  show Go G 0 0 0 [(0, .ref (am 0))] [] [(sMod cy am Mm), (sI cy (am 2) 120 m_text), (sI cy (am 11) 24 m_draft), (sI cy (am 12) 24 m_s), (sI cy (am 13) 24 m_w), (sZ cy (am 16) 2 m_isKept), (sI cy (am 33) 12 m_order)]
  replace F : Fx G cX9_store wsX9_store RX9 cy 3 (rm_X9_store) := F
  replace Rq : Rx G "store" (some .int) (some (.int out.1)) (fun z => z = [(sMod cy am out.2.1), (sI cy (am 2) 120 m_text), (sI cy (am 11) 24 out.2.2.1), (sI cy (am 12) 24 out.2.2.2.1), (sI cy (am 13) 24 out.2.2.2.2.1), (sZ cy (am 16) 2 out.2.2.2.2.2.1), (sI cy (am 33) 12 out.2.2.2.2.2.2)]) 0 0 := Rq
  unfold f_X9_store at h
  refine g_aload_n F dX9_store_0 rfl 0 rfl ?_
  refine g_iconst F (v := (0 : Int32)) dX9_store_1 (by decide) ?_
  refine g_put F (C := RX9) (T := TX9) (N := 36) (ci := 9) (v := .int (0 : Int32)) (ty := .int) (sg' := [(sMod cy am (upd Mm 0 (0 : Int32))), (sI cy (am 2) 120 m_text), (sI cy (am 11) 24 m_draft), (sI cy (am 12) 24 m_s), (sI cy (am 13) 24 m_w), (sZ cy (am 16) 2 m_isKept), (sI cy (am 33) 12 m_order)]) hi_X9_store_X9 tyX9 tyX9_ok nmX9 0 0 0 dX9_store_2 rfl rfl (by decide) fl_X9_store_75 rfl rfl rfl rfl (Nat.le_of_ble_eq_true rfl) rfl ?_
  refine g_aload_n F dX9_store_5 rfl 0 rfl ?_
  refine g_iconst F (v := (-1 : Int32)) dX9_store_6 (by decide) ?_
  refine g_put F (C := RX9) (T := TX9) (N := 36) (ci := 9) (v := .int (-1 : Int32)) (ty := .int) (sg' := [(sMod cy am (upd (upd Mm 0 (0 : Int32)) 7 (-1 : Int32))), (sI cy (am 2) 120 m_text), (sI cy (am 11) 24 m_draft), (sI cy (am 12) 24 m_s), (sI cy (am 13) 24 m_w), (sZ cy (am 16) 2 m_isKept), (sI cy (am 33) 12 m_order)]) hi_X9_store_X9 tyX9 tyX9_ok nmX9 0 0 7 dX9_store_7 rfl rfl (by decide) fl_X9_store_102 rfl rfl rfl rfl (Nat.le_of_ble_eq_true rfl) rfl ?_
  refine g_aload_n F dX9_store_10 rfl 0 rfl ?_
  refine g_iconst F (v := (0 : Int32)) dX9_store_11 (by decide) ?_
  refine g_put F (C := RX9) (T := TX9) (N := 36) (ci := 9) (v := .int (0 : Int32)) (ty := .int) (sg' := [(sMod cy am (upd (upd (upd Mm 0 (0 : Int32)) 7 (-1 : Int32)) 3 (0 : Int32))), (sI cy (am 2) 120 m_text), (sI cy (am 11) 24 m_draft), (sI cy (am 12) 24 m_s), (sI cy (am 13) 24 m_w), (sZ cy (am 16) 2 m_isKept), (sI cy (am 33) 12 m_order)]) hi_X9_store_X9 tyX9 tyX9_ok nmX9 0 0 3 dX9_store_12 rfl rfl (by decide) fl_X9_store_86 rfl rfl rfl rfl (Nat.le_of_ble_eq_true rfl) rfl ?_
  refine g_aload_n F dX9_store_15 rfl 0 rfl ?_
  obtain ⟨r1, hr1, h⟩ := bnd h
  refine g_cV F [] 0 0 (ok_X9_begins (gl G) (gD G) cy am (upd (upd (upd Mm 0 (0 : Int32)) 7 (-1 : Int32)) 3 (0 : Int32)) m_draft r1 hr1) dX9_store_16 rfl rfl gX9_store_X9_begins rfl ⟨rfl, cd_X9_begins⟩ (by decide) rfl (Nat.le_of_ble_eq_true rfl) [0, 2] (by decide) rfl rfl (sg' := [(sMod cy am r1.1), (sI cy (am 2) 120 m_text), (sI cy (am 11) 24 r1.2), (sI cy (am 12) 24 m_s), (sI cy (am 13) 24 m_w), (sZ cy (am 16) 2 m_isKept), (sI cy (am 33) 12 m_order)]) (st' := []) rfl rfl ?_
  refine g_iconst F (v := (0 : Int32)) dX9_store_19 (by decide) ?_
  refine g_istore_n F (lv' := [(1, .int (0 : Int32)), (0, .ref (am 0))]) dX9_store_20 rfl (by decide) rfl ?_
  refine g_aload_n F dX9_store_21 rfl 1 rfl ?_
  obtain ⟨r2, hr2, h⟩ := bnd h
  refine g_cV F [] 0 0 (ok_X9_advances (gl G) (gD G) cy am r1.1 m_text r2 hr2) dX9_store_22 rfl rfl gX9_store_X9_advances rfl ⟨rfl, cd_X9_advances⟩ (by decide) rfl (Nat.le_of_ble_eq_true rfl) [0, 1] (by decide) rfl rfl (sg' := [(sMod cy am r2), (sI cy (am 2) 120 m_text), (sI cy (am 11) 24 r1.2), (sI cy (am 12) 24 m_s), (sI cy (am 13) 24 m_w), (sZ cy (am 16) 2 m_isKept), (sI cy (am 33) 12 m_order)]) (st' := []) rfl rfl ?_
  refine Go.sub (lv' := [(0, .ref (am 0)), (1, .int (0 : Int32))]) [1, 0] rfl ?_
  refine k_X9_store_25_ok am m_text m_s m_isKept F Rq _ (fun x1_32 Mm_32 m_draft_32 m_w_32 m_order_32 h => ?_) _ (0 : Int32) r2 r1.2 m_w m_order h
  refine g_aload_n F dX9_store_106 rfl 0 rfl ?_
  obtain ⟨r33, hr33, h⟩ := bnd h
  refine g_cV F [] 0 0 (ok_X9_isWell (gl G) (gD G) cy am Mm_32 r33 hr33) dX9_store_107 rfl rfl gX9_store_X9_isWell rfl ⟨rfl, cd_X9_isWell⟩ (by decide) rfl (Nat.le_of_ble_eq_true rfl) [0] (by decide) rfl rfl (sg' := [(sMod cy am Mm_32), (sI cy (am 2) 120 m_text), (sI cy (am 11) 24 m_draft_32), (sI cy (am 12) 24 m_s), (sI cy (am 13) 24 m_w_32), (sZ cy (am 16) 2 m_isKept), (sI cy (am 33) 12 m_order_32)]) (st' := [.int r33]) rfl rfl ?_
  refine g_if_ne F 121 h dX9_store_110 (by decide) (fun h => ?_) (fun h => ?_)
  · refine g_aload_n F dX9_store_121 rfl 0 rfl ?_
    obtain ⟨r34, hr34, h⟩ := bnd h
    refine g_cV F [] 0 0 (ok_X9_settles (gl G) (gD G) cy am Mm_32 m_draft_32 m_s m_isKept r34 hr34) dX9_store_122 rfl rfl gX9_store_X9_settles rfl ⟨rfl, cd_X9_settles⟩ (by decide) rfl (Nat.le_of_ble_eq_true rfl) [0, 2, 3, 5] (by decide) rfl rfl (sg' := [(sMod cy am r34.1), (sI cy (am 2) 120 m_text), (sI cy (am 11) 24 m_draft_32), (sI cy (am 12) 24 r34.2.1), (sI cy (am 13) 24 m_w_32), (sZ cy (am 16) 2 r34.2.2), (sI cy (am 33) 12 m_order_32)]) (st' := []) rfl rfl ?_
    refine g_iload_n F dX9_store_125 rfl 1 rfl ?_
    obtain rfl := Option.some.inj h
    exact g_iret F Rq rfl dX9_store_126
  · refine g_bipush F (v := (-10 : Int32)) dX9_store_113 (by decide) ?_
    refine g_aload_n F dX9_store_115 rfl 0 rfl ?_
    refine g_get F (C := RX9) (T := TX9) (N := 36) (ci := 9) (v := .int (Mm_32 7)) hi_X9_store_X9 0 0 7 dX9_store_116 rfl rfl (by decide) fl_X9_store_102 rfl ?_
    refine g_isub F dX9_store_119 ?_
    obtain rfl := Option.some.inj h
    exact g_iret F Rq rfl dX9_store_120
theorem hi_X9_isItem_X9 : ∀ w ∈ u_ws RX9 TX9 36, w ∈ wsX9_isItem := by decide +kernel
theorem fl_X9_isItem_145 : Cond.fieldLink RX9 145 "ArcOrderModel" "items" "I" ∈ wsX9_isItem := by decide +kernel
abbrev rm_X9_isItem : Room := { frames := 1, cells := 0, slots := 0, locals := 22 }
set_option maxHeartbeats 4000000 in
set_option maxRecDepth 100000 in
theorem ok_X9_isItem (l : Launch) (D : va_G) (cy : Nat → ClassId) (am : Nat → Nat)  (Mm : ModS) (x1 : Int32) (out : Int32) (h : f_X9_isItem Mm x1 = some out) : OK l D cy yX9_isItem wsX9_isItem rm_X9_isItem [.ref (am 0), .int x1] [(sMod cy am Mm)] (some (.int out)) [(sMod cy am Mm)] := by
  refine OKx.of (cc := cX9_isItem) (maxL := 2) (ret := (some .boolean)) (by decide) rfl (Nat.le_of_ble_eq_true rfl) (fun G F Rq => ?_)
  show Go G 0 0 0 [(0, .ref (am 0)), (1, .int x1)] [] [(sMod cy am Mm)]
  replace F : Fx G cX9_isItem wsX9_isItem RX9 cy 2 (rm_X9_isItem) := F
  replace Rq : Rx G "isItem" (some .boolean) (some (.int out)) (fun z => z = [(sMod cy am Mm)]) 0 0 := Rq
  unfold f_X9_isItem at h
  refine g_iload_n F dX9_isItem_0 rfl 1 rfl ?_
  refine g_iconst F (v := (0 : Int32)) dX9_isItem_1 (by decide) ?_
  refine g_aload_n F dX9_isItem_2 rfl 0 rfl ?_
  refine g_get F (C := RX9) (T := TX9) (N := 36) (ci := 9) (v := .int (Mm 8)) hi_X9_isItem_X9 0 0 8 dX9_isItem_3 rfl rfl (by decide) fl_X9_isItem_145 rfl ?_
  refine g_iconst F (v := (1 : Int32)) dX9_isItem_6 (by decide) ?_
  refine g_isub F dX9_isItem_7 ?_
  obtain ⟨r1, hr1, h⟩ := bnd h
  refine g_cS F [.int x1, .int (0 : Int32), .int ((Mm 8) - (1 : Int32))] (ok_X9_in (gl G) (gD G) cy x1 (0 : Int32) ((Mm 8) - (1 : Int32)) r1 hr1) dX9_isItem_8 gX9_isItem_X9_in rfl cd_X9_in (by decide) rfl (Nat.le_of_ble_eq_true rfl) [] (by decide) rfl rfl (sg' := [(sMod cy am Mm)]) (st' := [.int r1]) rfl rfl ?_
  obtain ⟨z2, h⟩ := grd h
  obtain rfl := Option.some.inj h
  exact g_zret F Rq rfl (isZ_n z2) dX9_isItem_11
abbrev rm_X9_isTwo : Room := { frames := 2, cells := 0, slots := 0, locals := 43 }
set_option maxHeartbeats 4000000 in
set_option maxRecDepth 100000 in
theorem ok_X9_isTwo (l : Launch) (D : va_G) (cy : Nat → ClassId) (am : Nat → Nat)  (Mm : ModS) (x1 : Int32) (x2 : Int32) (out : Int32) (h : f_X9_isTwo Mm x1 x2 = some out) : OK l D cy yX9_isTwo wsX9_isTwo rm_X9_isTwo [.ref (am 0), .int x1, .int x2] [(sMod cy am Mm)] (some (.int out)) [(sMod cy am Mm)] := by
  refine OKx.of (cc := cX9_isTwo) (maxL := 3) (ret := (some .boolean)) (by decide) rfl (Nat.le_of_ble_eq_true rfl) (fun G F Rq => ?_)
  show Go G 0 0 0 [(0, .ref (am 0)), (1, .int x1), (2, .int x2)] [] [(sMod cy am Mm)]
  replace F : Fx G cX9_isTwo wsX9_isTwo RX9 cy 3 (rm_X9_isTwo) := F
  replace Rq : Rx G "isTwo" (some .boolean) (some (.int out)) (fun z => z = [(sMod cy am Mm)]) 0 0 := Rq
  unfold f_X9_isTwo at h
  refine g_aload_n F dX9_isTwo_0 rfl 0 rfl ?_
  refine g_iload_n F dX9_isTwo_1 rfl 1 rfl ?_
  obtain ⟨r1, hr1, h⟩ := bnd h
  refine g_cV F [.int x1] 0 0 (ok_X9_isItem (gl G) (gD G) cy am Mm x1 r1 hr1) dX9_isTwo_2 rfl rfl gX9_isTwo_X9_isItem rfl ⟨rfl, cd_X9_isItem⟩ (by decide) rfl (Nat.le_of_ble_eq_true rfl) [0] (by decide) rfl rfl (sg' := [(sMod cy am Mm)]) (st' := [.int r1]) rfl rfl ?_
  refine g_if_eq F 25 h dX9_isTwo_5 (by decide) (fun h => ?_) (fun h => ?_)
  · refine g_iconst F (v := (0 : Int32)) dX9_isTwo_25 (by decide) ?_
    obtain rfl := Option.some.inj h
    exact g_zret F Rq rfl rfl dX9_isTwo_26
  · refine g_aload_n F dX9_isTwo_8 rfl 0 rfl ?_
    refine g_iload_n F dX9_isTwo_9 rfl 2 rfl ?_
    obtain ⟨r2, hr2, h⟩ := bnd h
    refine g_cV F [.int x2] 0 0 (ok_X9_isItem (gl G) (gD G) cy am Mm x2 r2 hr2) dX9_isTwo_10 rfl rfl gX9_isTwo_X9_isItem rfl ⟨rfl, cd_X9_isItem⟩ (by decide) rfl (Nat.le_of_ble_eq_true rfl) [0] (by decide) rfl rfl (sg' := [(sMod cy am Mm)]) (st' := [.int r2]) rfl rfl ?_
    refine g_if_eq F 25 h dX9_isTwo_13 (by decide) (fun h => ?_) (fun h => ?_)
    · refine g_iconst F (v := (0 : Int32)) dX9_isTwo_25 (by decide) ?_
      obtain rfl := Option.some.inj h
      exact g_zret F Rq rfl rfl dX9_isTwo_26
    · refine g_iload_n F dX9_isTwo_16 rfl 1 rfl ?_
      refine g_iload_n F dX9_isTwo_17 rfl 2 rfl ?_
      refine g_icmp_eq F 25 h dX9_isTwo_18 (by decide) (fun h => ?_) (fun h => ?_)
      · refine g_iconst F (v := (0 : Int32)) dX9_isTwo_25 (by decide) ?_
        obtain rfl := Option.some.inj h
        exact g_zret F Rq rfl rfl dX9_isTwo_26
      · refine g_iconst F (v := (1 : Int32)) dX9_isTwo_21 (by decide) ?_
        refine g_goto F 26 dX9_isTwo_22 (by decide) ?_
        obtain rfl := Option.some.inj h
        exact g_zret F Rq rfl rfl dX9_isTwo_26
theorem hi_X9_moved_X9 : ∀ w ∈ u_ws RX9 TX9 36, w ∈ wsX9_moved := by decide +kernel
theorem fl_X9_moved_145 : Cond.fieldLink RX9 145 "ArcOrderModel" "items" "I" ∈ wsX9_moved := by decide +kernel
abbrev rm_X9_moved : Room := { frames := 0, cells := 0, slots := 0, locals := 0 }
set_option maxHeartbeats 4000000 in
set_option maxRecDepth 100000 in
theorem k_X9_moved_5_ok {G : GX} {cy : Nat → ClassId} (am : Nat → Nat) (h1 : Nat) (h2 : Nat)   (Mm : ModS) (A1 : (Nat → Int32)) (A2 : (Nat → Int32)) {out : Int32} (F : Fx G cX9_moved wsX9_moved RX9 cy 5 (rm_X9_moved)) (Rq : Rx G "moved" (some .int) (some (.int out)) (fun z => z = [(sMod cy am Mm), (sI cy h1 24 A1), (sI cy h2 24 A2)]) 0 0) (ke : Int32 → Option (Int32)) (hke : ∀ (x3 : Int32) , ke x3 = some out → Go G 0 0 48 [(3, .int x3)] [] [(sMod cy am Mm), (sI cy h1 24 A1), (sI cy h2 24 A2)]) : ∀ (n : Nat) (x3 : Int32) (x4 : Int32) , k_X9_moved_5 Mm A1 A2 ke n x3 x4 = some out → Go G 0 0 5 [(0, .ref (am 0)), (1, .ref h1), (2, .ref h2), (3, .int x3), (4, .int x4)] [] [(sMod cy am Mm), (sI cy h1 24 A1), (sI cy h2 24 A2)] := by
  intro n
  induction n with
  | zero =>
    intro x3 x4 h
    exact nosome h
  | succ n ih =>
    intro x3 x4 h
    rw [k_X9_moved_5.eq_2] at h
    refine g_iload F dX9_moved_5 4 rfl ?_
    refine g_aload_n F dX9_moved_7 rfl 0 rfl ?_
    refine g_get F (C := RX9) (T := TX9) (N := 36) (ci := 9) (v := .int (Mm 8)) hi_X9_moved_X9 0 0 8 dX9_moved_8 rfl rfl (by decide) fl_X9_moved_145 rfl ?_
    refine g_icmp_ge F 48 h dX9_moved_11 (by decide) (fun h => ?_) (fun h => ?_)
    · refine Go.sub (lv' := [(3, .int x3)]) [3] rfl ?_
      exact hke x3 h
    · refine g_iload_n F dX9_moved_14 rfl 3 rfl ?_
      refine g_aload_n F dX9_moved_15 rfl 1 rfl ?_
      refine g_bipush F (v := (12 : Int32)) dX9_moved_16 (by decide) ?_
      refine g_iload F dX9_moved_18 4 rfl ?_
      refine g_iadd F dX9_moved_20 ?_
      refine g_iaload F h 1 0 dX9_moved_21 rfl (fun h => ?_)
      refine g_aload_n F dX9_moved_22 rfl 2 rfl ?_
      refine g_bipush F (v := (12 : Int32)) dX9_moved_23 (by decide) ?_
      refine g_iload F dX9_moved_25 4 rfl ?_
      refine g_iadd F dX9_moved_27 ?_
      refine g_iaload F h 2 0 dX9_moved_28 rfl (fun h => ?_)
      refine g_icmp_eq F 39 h dX9_moved_29 (by decide) (fun h => ?_) (fun h => ?_)
      · refine g_iconst F (v := (0 : Int32)) dX9_moved_39 (by decide) ?_
        refine g_ior F dX9_moved_40 ?_
        refine g_istore_n F (lv' := [(3, .int (x3 ||| (0 : Int32))), (0, .ref (am 0)), (1, .ref h1), (2, .ref h2), (4, .int x4)]) dX9_moved_41 rfl (by decide) rfl ?_
        refine g_iinc F (v := (x4 + 1)) (lv' := [(4, .int (x4 + 1)), (3, .int (x3 ||| (0 : Int32))), (0, .ref (am 0)), (1, .ref h1), (2, .ref h2)]) dX9_moved_42 4 rfl rfl (by decide) rfl ?_
        refine g_goto F 5 dX9_moved_45 (by decide) ?_
        refine Go.sub (lv' := [(0, .ref (am 0)), (1, .ref h1), (2, .ref h2), (3, .int (x3 ||| (0 : Int32))), (4, .int (x4 + 1))]) [2, 3, 4, 1, 0] rfl ?_
        exact ih (x3 ||| (0 : Int32)) (x4 + 1) h
      · refine g_iconst F (v := (1 : Int32)) dX9_moved_32 (by decide) ?_
        refine g_iload F dX9_moved_33 4 rfl ?_
        refine g_ishl F dX9_moved_35 ?_
        refine g_goto F 40 dX9_moved_36 (by decide) ?_
        refine g_ior F dX9_moved_40 ?_
        refine g_istore_n F (lv' := [(3, .int (x3 ||| ((1 : Int32) <<< (x4 &&& 31)))), (0, .ref (am 0)), (1, .ref h1), (2, .ref h2), (4, .int x4)]) dX9_moved_41 rfl (by decide) rfl ?_
        refine g_iinc F (v := (x4 + 1)) (lv' := [(4, .int (x4 + 1)), (3, .int (x3 ||| ((1 : Int32) <<< (x4 &&& 31)))), (0, .ref (am 0)), (1, .ref h1), (2, .ref h2)]) dX9_moved_42 4 rfl rfl (by decide) rfl ?_
        refine g_goto F 5 dX9_moved_45 (by decide) ?_
        refine Go.sub (lv' := [(0, .ref (am 0)), (1, .ref h1), (2, .ref h2), (3, .int (x3 ||| ((1 : Int32) <<< (x4 &&& 31)))), (4, .int (x4 + 1))]) [2, 3, 4, 1, 0] rfl ?_
        exact ih (x3 ||| ((1 : Int32) <<< (x4 &&& 31))) (x4 + 1) h
set_option maxHeartbeats 4000000 in
set_option maxRecDepth 100000 in
theorem ok_X9_moved (l : Launch) (D : va_G) (cy : Nat → ClassId) (am : Nat → Nat) (h1 : Nat) (h2 : Nat)  (Mm : ModS) (A1 : (Nat → Int32)) (A2 : (Nat → Int32))  (out : Int32) (h : f_X9_moved Mm A1 A2 = some out) : OK l D cy yX9_moved wsX9_moved rm_X9_moved [.ref (am 0), .ref h1, .ref h2] [(sMod cy am Mm), (sI cy h1 24 A1), (sI cy h2 24 A2)] (some (.int out)) [(sMod cy am Mm), (sI cy h1 24 A1), (sI cy h2 24 A2)] := by
  refine OKx.of (cc := cX9_moved) (maxL := 5) (ret := (some .int)) (by decide) rfl (Nat.le_of_ble_eq_true rfl) (fun G F Rq => ?_)
  show Go G 0 0 0 [(0, .ref (am 0)), (1, .ref h1), (2, .ref h2)] [] [(sMod cy am Mm), (sI cy h1 24 A1), (sI cy h2 24 A2)]
  replace F : Fx G cX9_moved wsX9_moved RX9 cy 5 (rm_X9_moved) := F
  replace Rq : Rx G "moved" (some .int) (some (.int out)) (fun z => z = [(sMod cy am Mm), (sI cy h1 24 A1), (sI cy h2 24 A2)]) 0 0 := Rq
  unfold f_X9_moved at h
  refine g_iconst F (v := (0 : Int32)) dX9_moved_0 (by decide) ?_
  refine g_istore_n F (lv' := [(3, .int (0 : Int32)), (0, .ref (am 0)), (1, .ref h1), (2, .ref h2)]) dX9_moved_1 rfl (by decide) rfl ?_
  refine g_iconst F (v := (0 : Int32)) dX9_moved_2 (by decide) ?_
  refine g_istore F (lv' := [(4, .int (0 : Int32)), (3, .int (0 : Int32)), (0, .ref (am 0)), (1, .ref h1), (2, .ref h2)]) dX9_moved_3 (by decide) rfl ?_
  refine Go.sub (lv' := [(0, .ref (am 0)), (1, .ref h1), (2, .ref h2), (3, .int (0 : Int32)), (4, .int (0 : Int32))]) [2, 3, 4, 1, 0] rfl ?_
  refine k_X9_moved_5_ok am h1 h2 Mm A1 A2 F Rq _ (fun x3_1 h => ?_) _ (0 : Int32) (0 : Int32) h
  refine g_iload_n F dX9_moved_48 rfl 0 rfl ?_
  obtain rfl := Option.some.inj h
  exact g_iret F Rq rfl dX9_moved_49
theorem hi_X9_movedBy_X9 : ∀ w ∈ u_ws RX9 TX9 36, w ∈ wsX9_movedBy := by decide +kernel
theorem fl_X9_movedBy_16 : Cond.fieldLink RX9 16 "ArcOrderModel" "s" "[I" ∈ wsX9_movedBy := by decide +kernel
theorem fl_X9_movedBy_145 : Cond.fieldLink RX9 145 "ArcOrderModel" "items" "I" ∈ wsX9_movedBy := by decide +kernel
theorem fl_X9_movedBy_126 : Cond.fieldLink RX9 126 "ArcOrderModel" "closes" "Z" ∈ wsX9_movedBy := by decide +kernel
theorem fl_X9_movedBy_164 : Cond.fieldLink RX9 164 "ArcOrderModel" "before" "I" ∈ wsX9_movedBy := by decide +kernel
theorem fl_X9_movedBy_63 : Cond.fieldLink RX9 63 "ArcOrderModel" "tried" "[I" ∈ wsX9_movedBy := by decide +kernel
abbrev rm_X9_movedBy : Room := { frames := 2, cells := 0, slots := 0, locals := 50 }
set_option maxHeartbeats 4000000 in
set_option maxRecDepth 100000 in
theorem ok_X9_movedBy (l : Launch) (D : va_G) (cy : Nat → ClassId) (am : Nat → Nat)  (Mm : ModS) (m_s : (Nat → Int32)) (m_w : (Nat → Int32)) (m_order : (Nat → Int32)) (m_tried : (Nat → Int32)) (x1 : Int32) (x2 : Int32) (out : Int32 × ModS × (Nat → Int32) × (Nat → Int32) × (Nat → Int32)) (h : f_X9_movedBy Mm m_s m_w m_order m_tried x1 x2 = some out) : OK l D cy yX9_movedBy wsX9_movedBy rm_X9_movedBy [.ref (am 0), .int x1, .int x2] [(sMod cy am Mm), (sI cy (am 12) 24 m_s), (sI cy (am 13) 24 m_w), (sI cy (am 33) 12 m_order), (sI cy (am 34) 24 m_tried)] (some (.int out.1)) [(sMod cy am out.2.1), (sI cy (am 12) 24 m_s), (sI cy (am 13) 24 out.2.2.1), (sI cy (am 33) 12 out.2.2.2.1), (sI cy (am 34) 24 out.2.2.2.2)] := by
  refine OKx.of (cc := cX9_movedBy) (maxL := 3) (ret := (some .int)) (by decide) rfl (Nat.le_of_ble_eq_true rfl) (fun G F Rq => ?_)
  show Go G 0 0 0 [(0, .ref (am 0)), (1, .int x1), (2, .int x2)] [] [(sMod cy am Mm), (sI cy (am 12) 24 m_s), (sI cy (am 13) 24 m_w), (sI cy (am 33) 12 m_order), (sI cy (am 34) 24 m_tried)]
  replace F : Fx G cX9_movedBy wsX9_movedBy RX9 cy 3 (rm_X9_movedBy) := F
  replace Rq : Rx G "movedBy" (some .int) (some (.int out.1)) (fun z => z = [(sMod cy am out.2.1), (sI cy (am 12) 24 m_s), (sI cy (am 13) 24 out.2.2.1), (sI cy (am 33) 12 out.2.2.2.1), (sI cy (am 34) 24 out.2.2.2.2)]) 0 0 := Rq
  unfold f_X9_movedBy at h
  refine g_aload_n F dX9_movedBy_0 rfl 0 rfl ?_
  refine g_aload_n F dX9_movedBy_1 rfl 0 rfl ?_
  refine g_get F (C := RX9) (T := TX9) (N := 36) (ci := 9) (v := .ref (am 12)) hi_X9_movedBy_X9 0 0 11 dX9_movedBy_2 rfl rfl (by decide) fl_X9_movedBy_16 rfl ?_
  refine g_aload_n F dX9_movedBy_5 rfl 0 rfl ?_
  refine g_get F (C := RX9) (T := TX9) (N := 36) (ci := 9) (v := .int (Mm 8)) hi_X9_movedBy_X9 0 0 8 dX9_movedBy_6 rfl rfl (by decide) fl_X9_movedBy_145 rfl ?_
  refine g_iload_n F dX9_movedBy_9 rfl 1 rfl ?_
  refine g_iload_n F dX9_movedBy_10 rfl 2 rfl ?_
  obtain ⟨r1, hr1, h⟩ := bnd h
  refine g_cV F [.ref (am 12), .int (Mm 8), .int x1, .int x2] 0 0 (ok_X9_looks (gl G) (gD G) cy am (am 12) Mm m_s (Mm 8) x1 x2 r1 hr1) dX9_movedBy_11 rfl rfl gX9_movedBy_X9_looks rfl ⟨rfl, cd_X9_looks⟩ (by decide) rfl (Nat.le_of_ble_eq_true rfl) [0, 1] (by decide) rfl rfl (sg' := [(sMod cy am r1), (sI cy (am 12) 24 m_s), (sI cy (am 13) 24 m_w), (sI cy (am 33) 12 m_order), (sI cy (am 34) 24 m_tried)]) (st' := []) rfl rfl ?_
  refine g_aload_n F dX9_movedBy_14 rfl 0 rfl ?_
  refine g_get F (C := RX9) (T := TX9) (N := 36) (ci := 9) (v := .int (r1 28)) hi_X9_movedBy_X9 0 0 28 dX9_movedBy_15 rfl rfl (by decide) fl_X9_movedBy_126 rfl ?_
  refine g_if_ne F 28 h dX9_movedBy_18 (by decide) (fun h => ?_) (fun h => ?_)
  · refine g_iconst F (v := (0 : Int32)) dX9_movedBy_28 (by decide) ?_
    obtain rfl := Option.some.inj h
    exact g_iret F Rq rfl dX9_movedBy_29
  · refine g_aload_n F dX9_movedBy_21 rfl 0 rfl ?_
    refine g_get F (C := RX9) (T := TX9) (N := 36) (ci := 9) (v := .int (r1 26)) hi_X9_movedBy_X9 0 0 26 dX9_movedBy_22 rfl rfl (by decide) fl_X9_movedBy_164 rfl ?_
    refine g_if_ne F 30 h dX9_movedBy_25 (by decide) (fun h => ?_) (fun h => ?_)
    · refine g_aload_n F dX9_movedBy_30 rfl 0 rfl ?_
      refine g_get F (C := RX9) (T := TX9) (N := 36) (ci := 9) (v := .ref (am 12)) hi_X9_movedBy_X9 0 0 11 dX9_movedBy_31 rfl rfl (by decide) fl_X9_movedBy_16 rfl ?_
      refine g_aload_n F dX9_movedBy_34 rfl 0 rfl ?_
      refine g_get F (C := RX9) (T := TX9) (N := 36) (ci := 9) (v := .ref (am 34)) hi_X9_movedBy_X9 0 0 33 dX9_movedBy_35 rfl rfl (by decide) fl_X9_movedBy_63 rfl ?_
      obtain ⟨r2, hr2, h⟩ := bnd h
      refine g_cS F [.ref (am 12), .ref (am 34)] (ok_X9_copies (gl G) (gD G) cy (am 12) (am 34) m_s m_tried r2 hr2) dX9_movedBy_38 gX9_movedBy_X9_copies rfl cd_X9_copies (by decide) rfl (Nat.le_of_ble_eq_true rfl) [1, 4] (by decide) rfl rfl (sg' := [(sMod cy am r1), (sI cy (am 12) 24 m_s), (sI cy (am 13) 24 m_w), (sI cy (am 33) 12 m_order), (sI cy (am 34) 24 r2)]) (st' := []) rfl rfl ?_
      refine g_aload_n F dX9_movedBy_41 rfl 0 rfl ?_
      refine g_aload_n F dX9_movedBy_42 rfl 0 rfl ?_
      refine g_get F (C := RX9) (T := TX9) (N := 36) (ci := 9) (v := .ref (am 34)) hi_X9_movedBy_X9 0 0 33 dX9_movedBy_43 rfl rfl (by decide) fl_X9_movedBy_63 rfl ?_
      refine g_aload_n F dX9_movedBy_46 rfl 0 rfl ?_
      refine g_get F (C := RX9) (T := TX9) (N := 36) (ci := 9) (v := .int (r1 8)) hi_X9_movedBy_X9 0 0 8 dX9_movedBy_47 rfl rfl (by decide) fl_X9_movedBy_145 rfl ?_
      obtain ⟨r3, hr3, h⟩ := bnd h
      refine g_cV F [.ref (am 34), .int (r1 8)] 0 0 (ok_X9_moves (gl G) (gD G) cy am (am 34) r1 m_w m_order r2 (r1 8) r3 hr3) dX9_movedBy_50 rfl rfl gX9_movedBy_X9_moves rfl ⟨rfl, cd_X9_moves⟩ (by decide) rfl (Nat.le_of_ble_eq_true rfl) [0, 2, 3, 4] (by decide) rfl rfl (sg' := [(sMod cy am r1), (sI cy (am 12) 24 m_s), (sI cy (am 13) 24 r3.1), (sI cy (am 33) 12 r3.2.1), (sI cy (am 34) 24 r3.2.2)]) (st' := []) rfl rfl ?_
      refine g_aload_n F dX9_movedBy_53 rfl 0 rfl ?_
      refine g_aload_n F dX9_movedBy_54 rfl 0 rfl ?_
      refine g_get F (C := RX9) (T := TX9) (N := 36) (ci := 9) (v := .ref (am 34)) hi_X9_movedBy_X9 0 0 33 dX9_movedBy_55 rfl rfl (by decide) fl_X9_movedBy_63 rfl ?_
      refine g_aload_n F dX9_movedBy_58 rfl 0 rfl ?_
      refine g_get F (C := RX9) (T := TX9) (N := 36) (ci := 9) (v := .ref (am 12)) hi_X9_movedBy_X9 0 0 11 dX9_movedBy_59 rfl rfl (by decide) fl_X9_movedBy_16 rfl ?_
      obtain ⟨r4, hr4, h⟩ := bnd h
      refine g_cV F [.ref (am 34), .ref (am 12)] 0 0 (ok_X9_moved (gl G) (gD G) cy am (am 34) (am 12) r1 r3.2.2 m_s r4 hr4) dX9_movedBy_62 rfl rfl gX9_movedBy_X9_moved rfl ⟨rfl, cd_X9_moved⟩ (by decide) rfl (Nat.le_of_ble_eq_true rfl) [0, 4, 1] (by decide) rfl rfl (sg' := [(sMod cy am r1), (sI cy (am 12) 24 m_s), (sI cy (am 13) 24 r3.1), (sI cy (am 33) 12 r3.2.1), (sI cy (am 34) 24 r3.2.2)]) (st' := [.int r4]) rfl rfl ?_
      obtain rfl := Option.some.inj h
      exact g_iret F Rq rfl dX9_movedBy_65
    · refine g_iconst F (v := (0 : Int32)) dX9_movedBy_28 (by decide) ?_
      obtain rfl := Option.some.inj h
      exact g_iret F Rq rfl dX9_movedBy_29
