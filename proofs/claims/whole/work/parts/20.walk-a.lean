theorem cn_J6_bitCount_0f7a4_265 : Cond.constant RJ6 265 (1431655765) ∈ wsJ6_bitCount_0f7a4 := by decide +kernel
theorem cn_J6_bitCount_0f7a4_266 : Cond.constant RJ6 266 (858993459) ∈ wsJ6_bitCount_0f7a4 := by decide +kernel
theorem cn_J6_bitCount_0f7a4_267 : Cond.constant RJ6 267 (252645135) ∈ wsJ6_bitCount_0f7a4 := by decide +kernel
abbrev rm_J6_bitCount_0f7a4 : Room := { frames := 0, cells := 0, slots := 0, locals := 0 }
set_option maxHeartbeats 4000000 in
set_option maxRecDepth 100000 in
theorem ok_J6_bitCount_0f7a4 (l : Launch) (D : va_G) (cy : Nat → ClassId)    (x0 : Int32) (out : Int32) (h : f_J6_bitCount_0f7a4 x0 = some out) : OK l D cy yJ6_bitCount_0f7a4 wsJ6_bitCount_0f7a4 rm_J6_bitCount_0f7a4 [.int x0] [] (some (.int out)) [] := by
  refine OKx.of (cc := cJ6_bitCount_0f7a4) (maxL := 1) (ret := (some .int)) (by decide) rfl (Nat.le_of_ble_eq_true rfl) (fun G F Rq => ?_)
  show Go G 0 0 0 [(0, .int x0)] [] []
  replace F : Fx G cJ6_bitCount_0f7a4 wsJ6_bitCount_0f7a4 RJ6 cy 1 (rm_J6_bitCount_0f7a4) := F
  replace Rq : Rx G "bitCount" (some .int) (some (.int out)) (fun z => z = []) 0 0 := Rq
  unfold f_J6_bitCount_0f7a4 at h
  refine g_iload_n F dJ6_bitCount_0f7a4_0 rfl 0 rfl ?_
  refine g_iload_n F dJ6_bitCount_0f7a4_1 rfl 0 rfl ?_
  refine g_iconst F (v := (1 : Int32)) dJ6_bitCount_0f7a4_2 (by decide) ?_
  refine g_iushr F dJ6_bitCount_0f7a4_3 ?_
  refine g_ldcw F (v := (1431655765 : Int32)) dJ6_bitCount_0f7a4_4 cn_J6_bitCount_0f7a4_265 ?_
  refine g_iand F dJ6_bitCount_0f7a4_7 ?_
  refine g_isub F dJ6_bitCount_0f7a4_8 ?_
  refine g_istore_n F (x := (bc1 x0)) (lv' := [(0, .int (bc1 x0))]) dJ6_bitCount_0f7a4_9 rfl (by decide) rfl ?_
  refine g_iload_n F dJ6_bitCount_0f7a4_10 rfl 0 rfl ?_
  refine g_ldcw F (v := (858993459 : Int32)) dJ6_bitCount_0f7a4_11 cn_J6_bitCount_0f7a4_266 ?_
  refine g_iand F dJ6_bitCount_0f7a4_14 ?_
  refine g_iload_n F dJ6_bitCount_0f7a4_15 rfl 0 rfl ?_
  refine g_iconst F (v := (2 : Int32)) dJ6_bitCount_0f7a4_16 (by decide) ?_
  refine g_iushr F dJ6_bitCount_0f7a4_17 ?_
  refine g_ldcw F (v := (858993459 : Int32)) dJ6_bitCount_0f7a4_18 cn_J6_bitCount_0f7a4_266 ?_
  refine g_iand F dJ6_bitCount_0f7a4_21 ?_
  refine g_iadd F dJ6_bitCount_0f7a4_22 ?_
  refine g_istore_n F (x := (bc2 (bc1 x0))) (lv' := [(0, .int (bc2 (bc1 x0)))]) dJ6_bitCount_0f7a4_23 rfl (by decide) rfl ?_
  refine g_iload_n F dJ6_bitCount_0f7a4_24 rfl 0 rfl ?_
  refine g_iload_n F dJ6_bitCount_0f7a4_25 rfl 0 rfl ?_
  refine g_iconst F (v := (4 : Int32)) dJ6_bitCount_0f7a4_26 (by decide) ?_
  refine g_iushr F dJ6_bitCount_0f7a4_27 ?_
  refine g_iadd F dJ6_bitCount_0f7a4_28 ?_
  refine g_ldcw F (v := (252645135 : Int32)) dJ6_bitCount_0f7a4_29 cn_J6_bitCount_0f7a4_267 ?_
  refine g_iand F dJ6_bitCount_0f7a4_32 ?_
  refine g_istore_n F (x := (bc3 (bc2 (bc1 x0)))) (lv' := [(0, .int (bc3 (bc2 (bc1 x0))))]) dJ6_bitCount_0f7a4_33 rfl (by decide) rfl ?_
  refine g_iload_n F dJ6_bitCount_0f7a4_34 rfl 0 rfl ?_
  refine g_iload_n F dJ6_bitCount_0f7a4_35 rfl 0 rfl ?_
  refine g_bipush F (v := (8 : Int32)) dJ6_bitCount_0f7a4_36 (by decide) ?_
  refine g_iushr F dJ6_bitCount_0f7a4_38 ?_
  refine g_iadd F dJ6_bitCount_0f7a4_39 ?_
  refine g_istore_n F (x := (bc4 (bc3 (bc2 (bc1 x0))))) (lv' := [(0, .int (bc4 (bc3 (bc2 (bc1 x0)))))]) dJ6_bitCount_0f7a4_40 rfl (by decide) rfl ?_
  refine g_iload_n F dJ6_bitCount_0f7a4_41 rfl 0 rfl ?_
  refine g_iload_n F dJ6_bitCount_0f7a4_42 rfl 0 rfl ?_
  refine g_bipush F (v := (16 : Int32)) dJ6_bitCount_0f7a4_43 (by decide) ?_
  refine g_iushr F dJ6_bitCount_0f7a4_45 ?_
  refine g_iadd F dJ6_bitCount_0f7a4_46 ?_
  refine g_istore_n F (x := (bc5 (bc4 (bc3 (bc2 (bc1 x0)))))) (lv' := [(0, .int (bc5 (bc4 (bc3 (bc2 (bc1 x0))))))]) dJ6_bitCount_0f7a4_47 rfl (by decide) rfl ?_
  refine g_iload_n F dJ6_bitCount_0f7a4_48 rfl 0 rfl ?_
  refine g_bipush F (v := (63 : Int32)) dJ6_bitCount_0f7a4_49 (by decide) ?_
  refine g_iand F dJ6_bitCount_0f7a4_51 ?_
  obtain rfl := Option.some.inj h
  exact g_iret F Rq rfl dJ6_bitCount_0f7a4_52
abbrev rm_J7_fill_53178 : Room := { frames := 0, cells := 0, slots := 0, locals := 0 }
set_option maxHeartbeats 4000000 in
set_option maxRecDepth 100000 in
theorem k_J7_fill_53178_5_ok {G : GX} {cy : Nat → ClassId} (h0 : Nat) (ln : Nat) (x1 : Int32) (x3 : Int32)  {out : (Nat → Int32)} (F : Fx G cJ7_fill_53178 wsJ7_fill_53178 RJ7 cy 4 (rm_J7_fill_53178)) (Rq : Rx G "fill" none none (fun z => z = [(sI cy h0 ln out)]) 0 0) (ke : (Nat → Int32) → Option ((Nat → Int32))) (hke : ∀  (A0 : (Nat → Int32)), ke A0 = some out → Go G 0 0 20 [] [] [(sI cy h0 ln A0)]) : ∀ (n : Nat) (x2 : Int32) (A0 : (Nat → Int32)), k_J7_fill_53178_5 ln x1 x3 ke n x2 A0 = some out → Go G 0 0 5 [(0, .ref h0), (1, .int x1), (2, .int x2), (3, .int x3)] [] [(sI cy h0 ln A0)] := by
  intro n
  induction n with
  | zero =>
    intro x2 A0 h
    exact nosome h
  | succ n ih =>
    intro x2 A0 h
    rw [k_J7_fill_53178_5.eq_2] at h
    refine g_iload_n F dJ7_fill_53178_5 rfl 2 rfl ?_
    refine g_iload_n F dJ7_fill_53178_6 rfl 3 rfl ?_
    refine g_icmp_ge F 20 h dJ7_fill_53178_7 (by decide) (fun h => ?_) (fun h => ?_)
    · refine Go.sub (lv' := []) [] rfl ?_
      exact hke A0 h
    · refine g_aload_n F dJ7_fill_53178_10 rfl 0 rfl ?_
      refine g_iload_n F dJ7_fill_53178_11 rfl 2 rfl ?_
      refine g_iload_n F dJ7_fill_53178_12 rfl 1 rfl ?_
      refine g_iastore F h (sg' := [(sI cy h0 ln (upd A0 (x2).toNatClampNeg x1))]) 0 0 dJ7_fill_53178_13 rfl rfl (fun h => ?_)
      refine g_iinc F (v := (x2 + 1)) (lv' := [(2, .int (x2 + 1)), (0, .ref h0), (1, .int x1), (3, .int x3)]) dJ7_fill_53178_14 2 rfl rfl (by decide) rfl ?_
      refine g_goto F 5 dJ7_fill_53178_17 (by decide) ?_
      refine Go.sub (lv' := [(0, .ref h0), (1, .int x1), (2, .int (x2 + 1)), (3, .int x3)]) [1, 2, 0, 3] rfl ?_
      exact ih (x2 + 1) (upd A0 (x2).toNatClampNeg x1) h
set_option maxHeartbeats 4000000 in
set_option maxRecDepth 100000 in
theorem ok_J7_fill_53178 (l : Launch) (D : va_G) (cy : Nat → ClassId) (h0 : Nat) (ln : Nat) (A0 : (Nat → Int32)) (x1 : Int32) (out : (Nat → Int32)) (h : f_J7_fill_53178 ln A0 x1 = some out) : OK l D cy yJ7_fill_53178 wsJ7_fill_53178 rm_J7_fill_53178 [.ref h0, .int x1] [(sI cy h0 ln A0)] none [(sI cy h0 ln out)] := by
  refine OKx.of (cc := cJ7_fill_53178) (maxL := 4) (ret := none) (by decide) rfl (Nat.le_of_ble_eq_true rfl) (fun G F Rq => ?_)
  show Go G 0 0 0 [(0, .ref h0), (1, .int x1)] [] [(sI cy h0 ln A0)]
  replace F : Fx G cJ7_fill_53178 wsJ7_fill_53178 RJ7 cy 4 (rm_J7_fill_53178) := F
  replace Rq : Rx G "fill" none none (fun z => z = [(sI cy h0 ln out)]) 0 0 := Rq
  unfold f_J7_fill_53178 at h
  refine g_iconst F (v := (0 : Int32)) dJ7_fill_53178_0 (by decide) ?_
  refine g_istore_n F (lv' := [(2, .int (0 : Int32)), (0, .ref h0), (1, .int x1)]) dJ7_fill_53178_1 rfl (by decide) rfl ?_
  refine g_aload_n F dJ7_fill_53178_2 rfl 1 rfl ?_
  refine g_alen F (v := (Int32.ofNat ln)) (t0 := 0) 0 0 dJ7_fill_53178_3 rfl rfl rfl ?_
  refine g_istore_n F (lv' := [(3, .int (Int32.ofNat ln)), (2, .int (0 : Int32)), (0, .ref h0), (1, .int x1)]) dJ7_fill_53178_4 rfl (by decide) rfl ?_
  refine Go.sub (lv' := [(0, .ref h0), (1, .int x1), (2, .int (0 : Int32)), (3, .int (Int32.ofNat ln))]) [2, 3, 1, 0] rfl ?_
  refine k_J7_fill_53178_5_ok h0 ln x1 (Int32.ofNat ln) F Rq _ (fun A0_1 h => ?_) _ (0 : Int32) A0 h
  obtain rfl := Option.some.inj h
  exact g_vret F Rq rfl dJ7_fill_53178_20
abbrev rm_X8_holdsBit : Room := { frames := 0, cells := 0, slots := 0, locals := 0 }
set_option maxHeartbeats 4000000 in
set_option maxRecDepth 100000 in
theorem ok_X8_holdsBit (l : Launch) (D : va_G) (cy : Nat → ClassId)    (x0 : Int32) (x1 : Int32) (out : Int32) (h : f_X8_holdsBit x0 x1 = some out) : OK l D cy yX8_holdsBit wsX8_holdsBit rm_X8_holdsBit [.int x0, .int x1] [] (some (.int out)) [] := by
  refine OKx.of (cc := cX8_holdsBit) (maxL := 2) (ret := (some .boolean)) (by decide) rfl (Nat.le_of_ble_eq_true rfl) (fun G F Rq => ?_)
  show Go G 0 0 0 [(0, .int x0), (1, .int x1)] [] []
  replace F : Fx G cX8_holdsBit wsX8_holdsBit RX8 cy 2 (rm_X8_holdsBit) := F
  replace Rq : Rx G "holdsBit" (some .boolean) (some (.int out)) (fun z => z = []) 0 0 := Rq
  unfold f_X8_holdsBit at h
  refine g_iload_n F dX8_holdsBit_0 rfl 0 rfl ?_
  refine g_iload_n F dX8_holdsBit_1 rfl 1 rfl ?_
  refine g_ishr F dX8_holdsBit_2 ?_
  refine g_iconst F (v := (1 : Int32)) dX8_holdsBit_3 (by decide) ?_
  refine g_iand F dX8_holdsBit_4 ?_
  refine g_if_eq F 12 h dX8_holdsBit_5 (by decide) (fun h => ?_) (fun h => ?_)
  · refine g_iconst F (v := (0 : Int32)) dX8_holdsBit_12 (by decide) ?_
    obtain rfl := Option.some.inj h
    exact g_zret F Rq rfl rfl dX8_holdsBit_13
  · refine g_iconst F (v := (1 : Int32)) dX8_holdsBit_8 (by decide) ?_
    refine g_goto F 13 dX8_holdsBit_9 (by decide) ?_
    obtain rfl := Option.some.inj h
    exact g_zret F Rq rfl rfl dX8_holdsBit_13
abbrev rm_X8_codeOf : Room := { frames := 0, cells := 0, slots := 0, locals := 0 }
set_option maxHeartbeats 4000000 in
set_option maxRecDepth 100000 in
theorem ok_X8_codeOf (l : Launch) (D : va_G) (cy : Nat → ClassId)    (x0 : Int32) (x1 : Int32) (out : Int32) (h : f_X8_codeOf x0 x1 = some out) : OK l D cy yX8_codeOf wsX8_codeOf rm_X8_codeOf [.int x0, .int x1] [] (some (.int out)) [] := by
  refine OKx.of (cc := cX8_codeOf) (maxL := 2) (ret := (some .int)) (by decide) rfl (Nat.le_of_ble_eq_true rfl) (fun G F Rq => ?_)
  show Go G 0 0 0 [(0, .int x0), (1, .int x1)] [] []
  replace F : Fx G cX8_codeOf wsX8_codeOf RX8 cy 2 (rm_X8_codeOf) := F
  replace Rq : Rx G "codeOf" (some .int) (some (.int out)) (fun z => z = []) 0 0 := Rq
  unfold f_X8_codeOf at h
  refine g_bipush F (v := (16 : Int32)) dX8_codeOf_0 (by decide) ?_
  refine g_iload_n F dX8_codeOf_2 rfl 0 rfl ?_
  refine g_imul F dX8_codeOf_3 ?_
  refine g_iload_n F dX8_codeOf_4 rfl 1 rfl ?_
  refine g_iadd F dX8_codeOf_5 ?_
  obtain rfl := Option.some.inj h
  exact g_iret F Rq rfl dX8_codeOf_6
theorem hi_X3_begin_X3 : ∀ w ∈ u_ws RX3 TX3 7, w ∈ wsX3_begin := by decide +kernel
theorem fl_X3_begin_31 : Cond.fieldLink RX3 31 "ArcOrder$Net" "items" "I" ∈ wsX3_begin := by decide +kernel
theorem fl_X3_begin_35 : Cond.fieldLink RX3 35 "ArcOrder$Net" "arcs" "I" ∈ wsX3_begin := by decide +kernel
theorem fl_X3_begin_9 : Cond.fieldLink RX3 9 "ArcOrder$Net" "out" "[I" ∈ wsX3_begin := by decide +kernel
theorem fl_X3_begin_15 : Cond.fieldLink RX3 15 "ArcOrder$Net" "in" "[I" ∈ wsX3_begin := by decide +kernel
theorem fl_X3_begin_18 : Cond.fieldLink RX3 18 "ArcOrder$Net" "order" "[I" ∈ wsX3_begin := by decide +kernel
theorem fl_X3_begin_21 : Cond.fieldLink RX3 21 "ArcOrder$Net" "place" "[I" ∈ wsX3_begin := by decide +kernel
abbrev rm_X3_begin : Room := { frames := 0, cells := 0, slots := 0, locals := 0 }
set_option maxHeartbeats 4000000 in
set_option maxRecDepth 100000 in
theorem k_X3_begin_12_ok {G : GX} {cy : Nat → ClassId} (a : Nat → Nat)    {out : NetS} (F : Fx G cX3_begin wsX3_begin RX3 cy 3 (rm_X3_begin)) (Rq : Rx G "begin" none none (fun z => z = [(sNet cy a out)]) 0 0) (ke : NetS → Option (NetS)) (hke : ∀  (Nn : NetS), ke Nn = some out → Go G 0 0 52 [] [] [(sNet cy a Nn)]) : ∀ (n : Nat) (x2 : Int32) (Nn : NetS), k_X3_begin_12 ke n x2 Nn = some out → Go G 0 0 12 [(0, .ref (a 0)), (2, .int x2)] [] [(sNet cy a Nn)] := by
  intro n
  induction n with
  | zero =>
    intro x2 Nn h
    exact nosome h
  | succ n ih =>
    intro x2 Nn h
    rw [k_X3_begin_12.eq_2] at h
    refine g_iload_n F dX3_begin_12 rfl 1 rfl ?_
    refine g_bipush F (v := (12 : Int32)) dX3_begin_13 (by decide) ?_
    refine g_icmp_ge F 52 h dX3_begin_15 (by decide) (fun h => ?_) (fun h => ?_)
    · refine Go.sub (lv' := []) [] rfl ?_
      exact hke Nn h
    · refine g_aload_n F dX3_begin_18 rfl 0 rfl ?_
      refine g_get F (C := RX3) (T := TX3) (N := 7) (ci := 3) (v := .ref (a 3)) hi_X3_begin_X3 0 0 2 dX3_begin_19 rfl rfl (by decide) fl_X3_begin_9 rfl ?_
      refine g_iload_n F dX3_begin_22 rfl 1 rfl ?_
      refine g_iconst F (v := (0 : Int32)) dX3_begin_23 (by decide) ?_
      refine g_iastore F h (sg' := [(sNet cy a (Nn.1, Nn.2.1, (upd Nn.2.2.1 (x2).toNatClampNeg (0 : Int32)), Nn.2.2.2.1, Nn.2.2.2.2.1, Nn.2.2.2.2.2.1, Nn.2.2.2.2.2.2))]) 0 1 dX3_begin_24 rfl rfl (fun h => ?_)
      refine g_aload_n F dX3_begin_25 rfl 0 rfl ?_
      refine g_get F (C := RX3) (T := TX3) (N := 7) (ci := 3) (v := .ref (a 4)) hi_X3_begin_X3 0 0 3 dX3_begin_26 rfl rfl (by decide) fl_X3_begin_15 rfl ?_
      refine g_iload_n F dX3_begin_29 rfl 1 rfl ?_
      refine g_iconst F (v := (0 : Int32)) dX3_begin_30 (by decide) ?_
      refine g_iastore F h (sg' := [(sNet cy a (Nn.1, Nn.2.1, (upd Nn.2.2.1 (x2).toNatClampNeg (0 : Int32)), (upd Nn.2.2.2.1 (x2).toNatClampNeg (0 : Int32)), Nn.2.2.2.2.1, Nn.2.2.2.2.2.1, Nn.2.2.2.2.2.2))]) 0 2 dX3_begin_31 rfl rfl (fun h => ?_)
      refine g_aload_n F dX3_begin_32 rfl 0 rfl ?_
      refine g_get F (C := RX3) (T := TX3) (N := 7) (ci := 3) (v := .ref (a 5)) hi_X3_begin_X3 0 0 4 dX3_begin_33 rfl rfl (by decide) fl_X3_begin_18 rfl ?_
      refine g_iload_n F dX3_begin_36 rfl 1 rfl ?_
      refine g_iload_n F dX3_begin_37 rfl 1 rfl ?_
      refine g_iastore F h (sg' := [(sNet cy a (Nn.1, Nn.2.1, (upd Nn.2.2.1 (x2).toNatClampNeg (0 : Int32)), (upd Nn.2.2.2.1 (x2).toNatClampNeg (0 : Int32)), (upd Nn.2.2.2.2.1 (x2).toNatClampNeg x2), Nn.2.2.2.2.2.1, Nn.2.2.2.2.2.2))]) 0 3 dX3_begin_38 rfl rfl (fun h => ?_)
      refine g_aload_n F dX3_begin_39 rfl 0 rfl ?_
      refine g_get F (C := RX3) (T := TX3) (N := 7) (ci := 3) (v := .ref (a 6)) hi_X3_begin_X3 0 0 5 dX3_begin_40 rfl rfl (by decide) fl_X3_begin_21 rfl ?_
      refine g_iload_n F dX3_begin_43 rfl 1 rfl ?_
      refine g_iload_n F dX3_begin_44 rfl 1 rfl ?_
      refine g_iastore F h (sg' := [(sNet cy a (Nn.1, Nn.2.1, (upd Nn.2.2.1 (x2).toNatClampNeg (0 : Int32)), (upd Nn.2.2.2.1 (x2).toNatClampNeg (0 : Int32)), (upd Nn.2.2.2.2.1 (x2).toNatClampNeg x2), (upd Nn.2.2.2.2.2.1 (x2).toNatClampNeg x2), Nn.2.2.2.2.2.2))]) 0 4 dX3_begin_45 rfl rfl (fun h => ?_)
      refine g_iinc F (v := (x2 + 1)) (lv' := [(2, .int (x2 + 1)), (0, .ref (a 0))]) dX3_begin_46 1 rfl rfl (by decide) rfl ?_
      refine g_goto F 12 dX3_begin_49 (by decide) ?_
      refine Go.sub (lv' := [(0, .ref (a 0)), (2, .int (x2 + 1))]) [1, 0] rfl ?_
      exact ih (x2 + 1) (Nn.1, Nn.2.1, (upd Nn.2.2.1 (x2).toNatClampNeg (0 : Int32)), (upd Nn.2.2.2.1 (x2).toNatClampNeg (0 : Int32)), (upd Nn.2.2.2.2.1 (x2).toNatClampNeg x2), (upd Nn.2.2.2.2.2.1 (x2).toNatClampNeg x2), Nn.2.2.2.2.2.2) h
set_option maxHeartbeats 4000000 in
set_option maxRecDepth 100000 in
theorem ok_X3_begin (l : Launch) (D : va_G) (cy : Nat → ClassId) (a : Nat → Nat)  (Nn : NetS) (x1 : Int32) (out : NetS) (h : f_X3_begin Nn x1 = some out) : OK l D cy yX3_begin wsX3_begin rm_X3_begin [.ref (a 0), .int x1] [(sNet cy a Nn)] none [(sNet cy a out)] := by
  refine OKx.of (cc := cX3_begin) (maxL := 3) (ret := none) (by decide) rfl (Nat.le_of_ble_eq_true rfl) (fun G F Rq => ?_)
  show Go G 0 0 0 [(0, .ref (a 0)), (1, .int x1)] [] [(sNet cy a Nn)]
  replace F : Fx G cX3_begin wsX3_begin RX3 cy 3 (rm_X3_begin) := F
  replace Rq : Rx G "begin" none none (fun z => z = [(sNet cy a out)]) 0 0 := Rq
  unfold f_X3_begin at h
  refine g_aload_n F dX3_begin_0 rfl 0 rfl ?_
  refine g_iload_n F dX3_begin_1 rfl 1 rfl ?_
  refine g_put F (C := RX3) (T := TX3) (N := 7) (ci := 3) (v := .int x1) (ty := .int) (sg' := [(sNet cy a (x1, Nn.2.1, Nn.2.2.1, Nn.2.2.2.1, Nn.2.2.2.2.1, Nn.2.2.2.2.2.1, Nn.2.2.2.2.2.2))]) hi_X3_begin_X3 tyX3 tyX3_ok nmX3 0 0 0 dX3_begin_2 rfl rfl (by decide) fl_X3_begin_31 rfl rfl rfl rfl (Nat.le_of_ble_eq_true rfl) rfl ?_
  refine g_aload_n F dX3_begin_5 rfl 0 rfl ?_
  refine g_iconst F (v := (0 : Int32)) dX3_begin_6 (by decide) ?_
  refine g_put F (C := RX3) (T := TX3) (N := 7) (ci := 3) (v := .int (0 : Int32)) (ty := .int) (sg' := [(sNet cy a (x1, (0 : Int32), Nn.2.2.1, Nn.2.2.2.1, Nn.2.2.2.2.1, Nn.2.2.2.2.2.1, Nn.2.2.2.2.2.2))]) hi_X3_begin_X3 tyX3 tyX3_ok nmX3 0 0 1 dX3_begin_7 rfl rfl (by decide) fl_X3_begin_35 rfl rfl rfl rfl (Nat.le_of_ble_eq_true rfl) rfl ?_
  refine g_iconst F (v := (0 : Int32)) dX3_begin_10 (by decide) ?_
  refine g_istore_n F (lv' := [(2, .int (0 : Int32)), (0, .ref (a 0)), (1, .int x1)]) dX3_begin_11 rfl (by decide) rfl ?_
  refine Go.sub (lv' := [(0, .ref (a 0)), (2, .int (0 : Int32))]) [1, 0] rfl ?_
  refine k_X3_begin_12_ok a  F Rq _ (fun Nn_1 h => ?_) _ (0 : Int32) (x1, (0 : Int32), Nn.2.2.1, Nn.2.2.2.1, Nn.2.2.2.2.1, Nn.2.2.2.2.2.1, Nn.2.2.2.2.2.2) h
  obtain rfl := Option.some.inj h
  exact g_vret F Rq rfl dX3_begin_52
theorem hi_X3_copyOf_X3 : ∀ w ∈ u_ws RX3 TX3 7, w ∈ wsX3_copyOf := by decide +kernel
theorem fl_X3_copyOf_31 : Cond.fieldLink RX3 31 "ArcOrder$Net" "items" "I" ∈ wsX3_copyOf := by decide +kernel
theorem fl_X3_copyOf_35 : Cond.fieldLink RX3 35 "ArcOrder$Net" "arcs" "I" ∈ wsX3_copyOf := by decide +kernel
theorem fl_X3_copyOf_9 : Cond.fieldLink RX3 9 "ArcOrder$Net" "out" "[I" ∈ wsX3_copyOf := by decide +kernel
theorem ac_X3_copyOf : Cond.methodLink RX3 38 arraycopyName ∈ wsX3_copyOf ∧ Cond.native arraycopyName ∈ wsX3_copyOf ∧ Cond.static arraycopyName ∈ wsX3_copyOf ∧ Cond.initialized "java/lang/System" ∈ wsX3_copyOf := by decide +kernel
theorem fl_X3_copyOf_15 : Cond.fieldLink RX3 15 "ArcOrder$Net" "in" "[I" ∈ wsX3_copyOf := by decide +kernel
theorem fl_X3_copyOf_18 : Cond.fieldLink RX3 18 "ArcOrder$Net" "order" "[I" ∈ wsX3_copyOf := by decide +kernel
theorem fl_X3_copyOf_21 : Cond.fieldLink RX3 21 "ArcOrder$Net" "place" "[I" ∈ wsX3_copyOf := by decide +kernel
abbrev rm_X3_copyOf : Room := { frames := 1, cells := 0, slots := 0, locals := 60 }
set_option maxHeartbeats 4000000 in
set_option maxRecDepth 100000 in
theorem ok_X3_copyOf (l : Launch) (D : va_G) (cy : Nat → ClassId) (a : Nat → Nat) (a1 : Nat → Nat)  (Nn : NetS) (N1 : NetS)  (out : NetS) (h : f_X3_copyOf Nn N1 = some out) : OK l D cy yX3_copyOf wsX3_copyOf rm_X3_copyOf [.ref (a 0), .ref (a1 0)] [(sNet cy a Nn), (sNet cy a1 N1)] none [(sNet cy a out), (sNet cy a1 N1)] := by
  refine OKx.of (cc := cX3_copyOf) (maxL := 2) (ret := none) (by decide) rfl (Nat.le_of_ble_eq_true rfl) (fun G F Rq => ?_)
  show Go G 0 0 0 [(0, .ref (a 0)), (1, .ref (a1 0))] [] [(sNet cy a Nn), (sNet cy a1 N1)]
  replace F : Fx G cX3_copyOf wsX3_copyOf RX3 cy 2 (rm_X3_copyOf) := F
  replace Rq : Rx G "copyOf" none none (fun z => z = [(sNet cy a out), (sNet cy a1 N1)]) 0 0 := Rq
  unfold f_X3_copyOf at h
  refine g_aload_n F dX3_copyOf_0 rfl 0 rfl ?_
  refine g_aload_n F dX3_copyOf_1 rfl 1 rfl ?_
  refine g_get F (C := RX3) (T := TX3) (N := 7) (ci := 3) (v := .int N1.1) hi_X3_copyOf_X3 1 0 0 dX3_copyOf_2 rfl rfl (by decide) fl_X3_copyOf_31 rfl ?_
  refine g_put F (C := RX3) (T := TX3) (N := 7) (ci := 3) (v := .int N1.1) (ty := .int) (sg' := [(sNet cy a (N1.1, Nn.2.1, Nn.2.2.1, Nn.2.2.2.1, Nn.2.2.2.2.1, Nn.2.2.2.2.2.1, Nn.2.2.2.2.2.2)), (sNet cy a1 N1)]) hi_X3_copyOf_X3 tyX3 tyX3_ok nmX3 0 0 0 dX3_copyOf_5 rfl rfl (by decide) fl_X3_copyOf_31 rfl rfl rfl rfl (Nat.le_of_ble_eq_true rfl) rfl ?_
  refine g_aload_n F dX3_copyOf_8 rfl 0 rfl ?_
  refine g_aload_n F dX3_copyOf_9 rfl 1 rfl ?_
  refine g_get F (C := RX3) (T := TX3) (N := 7) (ci := 3) (v := .int N1.2.1) hi_X3_copyOf_X3 1 0 1 dX3_copyOf_10 rfl rfl (by decide) fl_X3_copyOf_35 rfl ?_
  refine g_put F (C := RX3) (T := TX3) (N := 7) (ci := 3) (v := .int N1.2.1) (ty := .int) (sg' := [(sNet cy a (N1.1, N1.2.1, Nn.2.2.1, Nn.2.2.2.1, Nn.2.2.2.2.1, Nn.2.2.2.2.2.1, Nn.2.2.2.2.2.2)), (sNet cy a1 N1)]) hi_X3_copyOf_X3 tyX3 tyX3_ok nmX3 0 0 1 dX3_copyOf_13 rfl rfl (by decide) fl_X3_copyOf_35 rfl rfl rfl rfl (Nat.le_of_ble_eq_true rfl) rfl ?_
  refine g_aload_n F dX3_copyOf_16 rfl 1 rfl ?_
  refine g_get F (C := RX3) (T := TX3) (N := 7) (ci := 3) (v := .ref (a1 3)) hi_X3_copyOf_X3 1 0 2 dX3_copyOf_17 rfl rfl (by decide) fl_X3_copyOf_9 rfl ?_
  refine g_iconst F (v := (0 : Int32)) dX3_copyOf_20 (by decide) ?_
  refine g_aload_n F dX3_copyOf_21 rfl 0 rfl ?_
  refine g_get F (C := RX3) (T := TX3) (N := 7) (ci := 3) (v := .ref (a 3)) hi_X3_copyOf_X3 0 0 2 dX3_copyOf_22 rfl rfl (by decide) fl_X3_copyOf_9 rfl ?_
  refine g_iconst F (v := (0 : Int32)) dX3_copyOf_25 (by decide) ?_
  refine g_bipush F (v := (12 : Int32)) dX3_copyOf_26 (by decide) ?_
  refine g_copyi F (sg' := [(sNet cy a (N1.1, N1.2.1, (va_cpy N1.2.2.1 Nn.2.2.1 0 0 12), Nn.2.2.2.1, Nn.2.2.2.2.1, Nn.2.2.2.2.2.1, Nn.2.2.2.2.2.2)), (sNet cy a1 N1)]) 1 1 0 1 dX3_copyOf_28 ac_X3_copyOf rfl rfl (by decide) ⟨by decide, Nat.le_of_ble_eq_true rfl⟩ rfl ?_
  refine g_aload_n F dX3_copyOf_31 rfl 1 rfl ?_
  refine g_get F (C := RX3) (T := TX3) (N := 7) (ci := 3) (v := .ref (a1 4)) hi_X3_copyOf_X3 1 0 3 dX3_copyOf_32 rfl rfl (by decide) fl_X3_copyOf_15 rfl ?_
  refine g_iconst F (v := (0 : Int32)) dX3_copyOf_35 (by decide) ?_
  refine g_aload_n F dX3_copyOf_36 rfl 0 rfl ?_
  refine g_get F (C := RX3) (T := TX3) (N := 7) (ci := 3) (v := .ref (a 4)) hi_X3_copyOf_X3 0 0 3 dX3_copyOf_37 rfl rfl (by decide) fl_X3_copyOf_15 rfl ?_
  refine g_iconst F (v := (0 : Int32)) dX3_copyOf_40 (by decide) ?_
  refine g_bipush F (v := (12 : Int32)) dX3_copyOf_41 (by decide) ?_
  refine g_copyi F (sg' := [(sNet cy a (N1.1, N1.2.1, (va_cpy N1.2.2.1 Nn.2.2.1 0 0 12), (va_cpy N1.2.2.2.1 Nn.2.2.2.1 0 0 12), Nn.2.2.2.2.1, Nn.2.2.2.2.2.1, Nn.2.2.2.2.2.2)), (sNet cy a1 N1)]) 1 2 0 2 dX3_copyOf_43 ac_X3_copyOf rfl rfl (by decide) ⟨by decide, Nat.le_of_ble_eq_true rfl⟩ rfl ?_
  refine g_aload_n F dX3_copyOf_46 rfl 1 rfl ?_
  refine g_get F (C := RX3) (T := TX3) (N := 7) (ci := 3) (v := .ref (a1 5)) hi_X3_copyOf_X3 1 0 4 dX3_copyOf_47 rfl rfl (by decide) fl_X3_copyOf_18 rfl ?_
  refine g_iconst F (v := (0 : Int32)) dX3_copyOf_50 (by decide) ?_
  refine g_aload_n F dX3_copyOf_51 rfl 0 rfl ?_
  refine g_get F (C := RX3) (T := TX3) (N := 7) (ci := 3) (v := .ref (a 5)) hi_X3_copyOf_X3 0 0 4 dX3_copyOf_52 rfl rfl (by decide) fl_X3_copyOf_18 rfl ?_
  refine g_iconst F (v := (0 : Int32)) dX3_copyOf_55 (by decide) ?_
  refine g_bipush F (v := (12 : Int32)) dX3_copyOf_56 (by decide) ?_
  refine g_copyi F (sg' := [(sNet cy a (N1.1, N1.2.1, (va_cpy N1.2.2.1 Nn.2.2.1 0 0 12), (va_cpy N1.2.2.2.1 Nn.2.2.2.1 0 0 12), (va_cpy N1.2.2.2.2.1 Nn.2.2.2.2.1 0 0 12), Nn.2.2.2.2.2.1, Nn.2.2.2.2.2.2)), (sNet cy a1 N1)]) 1 3 0 3 dX3_copyOf_58 ac_X3_copyOf rfl rfl (by decide) ⟨by decide, Nat.le_of_ble_eq_true rfl⟩ rfl ?_
  refine g_aload_n F dX3_copyOf_61 rfl 1 rfl ?_
  refine g_get F (C := RX3) (T := TX3) (N := 7) (ci := 3) (v := .ref (a1 6)) hi_X3_copyOf_X3 1 0 5 dX3_copyOf_62 rfl rfl (by decide) fl_X3_copyOf_21 rfl ?_
  refine g_iconst F (v := (0 : Int32)) dX3_copyOf_65 (by decide) ?_
  refine g_aload_n F dX3_copyOf_66 rfl 0 rfl ?_
  refine g_get F (C := RX3) (T := TX3) (N := 7) (ci := 3) (v := .ref (a 6)) hi_X3_copyOf_X3 0 0 5 dX3_copyOf_67 rfl rfl (by decide) fl_X3_copyOf_21 rfl ?_
  refine g_iconst F (v := (0 : Int32)) dX3_copyOf_70 (by decide) ?_
  refine g_bipush F (v := (12 : Int32)) dX3_copyOf_71 (by decide) ?_
  refine g_copyi F (sg' := [(sNet cy a (N1.1, N1.2.1, (va_cpy N1.2.2.1 Nn.2.2.1 0 0 12), (va_cpy N1.2.2.2.1 Nn.2.2.2.1 0 0 12), (va_cpy N1.2.2.2.2.1 Nn.2.2.2.2.1 0 0 12), (va_cpy N1.2.2.2.2.2.1 Nn.2.2.2.2.2.1 0 0 12), Nn.2.2.2.2.2.2)), (sNet cy a1 N1)]) 1 4 0 4 dX3_copyOf_73 ac_X3_copyOf rfl rfl (by decide) ⟨by decide, Nat.le_of_ble_eq_true rfl⟩ rfl ?_
  obtain rfl := Option.some.inj h
  exact g_vret F Rq rfl dX3_copyOf_76
theorem hi_X3_isItem_X3 : ∀ w ∈ u_ws RX3 TX3 7, w ∈ wsX3_isItem := by decide +kernel
theorem fl_X3_isItem_31 : Cond.fieldLink RX3 31 "ArcOrder$Net" "items" "I" ∈ wsX3_isItem := by decide +kernel
abbrev rm_X3_isItem : Room := { frames := 0, cells := 0, slots := 0, locals := 0 }
set_option maxHeartbeats 4000000 in
set_option maxRecDepth 100000 in
theorem ok_X3_isItem (l : Launch) (D : va_G) (cy : Nat → ClassId) (a : Nat → Nat)  (Nn : NetS) (x1 : Int32) (out : Int32) (h : f_X3_isItem Nn x1 = some out) : OK l D cy yX3_isItem wsX3_isItem rm_X3_isItem [.ref (a 0), .int x1] [(sNet cy a Nn)] (some (.int out)) [(sNet cy a Nn)] := by
  refine OKx.of (cc := cX3_isItem) (maxL := 2) (ret := (some .boolean)) (by decide) rfl (Nat.le_of_ble_eq_true rfl) (fun G F Rq => ?_)
  show Go G 0 0 0 [(0, .ref (a 0)), (1, .int x1)] [] [(sNet cy a Nn)]
  replace F : Fx G cX3_isItem wsX3_isItem RX3 cy 2 (rm_X3_isItem) := F
  replace Rq : Rx G "isItem" (some .boolean) (some (.int out)) (fun z => z = [(sNet cy a Nn)]) 0 0 := Rq
  unfold f_X3_isItem at h
  refine g_iload_n F dX3_isItem_0 rfl 1 rfl ?_
  refine g_if_lt F 16 h dX3_isItem_1 (by decide) (fun h => ?_) (fun h => ?_)
  · refine g_iconst F (v := (0 : Int32)) dX3_isItem_16 (by decide) ?_
    obtain rfl := Option.some.inj h
    exact g_zret F Rq rfl rfl dX3_isItem_17
  · refine g_iload_n F dX3_isItem_4 rfl 1 rfl ?_
    refine g_aload_n F dX3_isItem_5 rfl 0 rfl ?_
    refine g_get F (C := RX3) (T := TX3) (N := 7) (ci := 3) (v := .int Nn.1) hi_X3_isItem_X3 0 0 0 dX3_isItem_6 rfl rfl (by decide) fl_X3_isItem_31 rfl ?_
    refine g_icmp_ge F 16 h dX3_isItem_9 (by decide) (fun h => ?_) (fun h => ?_)
    · refine g_iconst F (v := (0 : Int32)) dX3_isItem_16 (by decide) ?_
      obtain rfl := Option.some.inj h
      exact g_zret F Rq rfl rfl dX3_isItem_17
    · refine g_iconst F (v := (1 : Int32)) dX3_isItem_12 (by decide) ?_
      refine g_goto F 17 dX3_isItem_13 (by decide) ?_
      obtain rfl := Option.some.inj h
      exact g_zret F Rq rfl rfl dX3_isItem_17
abbrev rm_X3_isPair : Room := { frames := 1, cells := 0, slots := 0, locals := 21 }
set_option maxHeartbeats 4000000 in
set_option maxRecDepth 100000 in
theorem ok_X3_isPair (l : Launch) (D : va_G) (cy : Nat → ClassId) (a : Nat → Nat)  (Nn : NetS) (x1 : Int32) (x2 : Int32) (out : Int32) (h : f_X3_isPair Nn x1 x2 = some out) : OK l D cy yX3_isPair wsX3_isPair rm_X3_isPair [.ref (a 0), .int x1, .int x2] [(sNet cy a Nn)] (some (.int out)) [(sNet cy a Nn)] := by
  refine OKx.of (cc := cX3_isPair) (maxL := 3) (ret := (some .boolean)) (by decide) rfl (Nat.le_of_ble_eq_true rfl) (fun G F Rq => ?_)
  show Go G 0 0 0 [(0, .ref (a 0)), (1, .int x1), (2, .int x2)] [] [(sNet cy a Nn)]
  replace F : Fx G cX3_isPair wsX3_isPair RX3 cy 3 (rm_X3_isPair) := F
  replace Rq : Rx G "isPair" (some .boolean) (some (.int out)) (fun z => z = [(sNet cy a Nn)]) 0 0 := Rq
  unfold f_X3_isPair at h
  refine g_aload_n F dX3_isPair_0 rfl 0 rfl ?_
  refine g_iload_n F dX3_isPair_1 rfl 1 rfl ?_
  obtain ⟨r1, hr1, h⟩ := bnd h
  refine g_cV F [.int x1] 0 0 (ok_X3_isItem (gl G) (gD G) cy a Nn x1 r1 hr1) dX3_isPair_2 rfl rfl gX3_isPair_X3_isItem rfl ⟨rfl, cd_X3_isItem⟩ (by decide) rfl (Nat.le_of_ble_eq_true rfl) [0] (by decide) rfl rfl (sg' := [(sNet cy a Nn)]) (st' := [.int r1]) rfl rfl ?_
  refine g_if_eq F 25 h dX3_isPair_5 (by decide) (fun h => ?_) (fun h => ?_)
  · refine g_iconst F (v := (0 : Int32)) dX3_isPair_25 (by decide) ?_
    obtain rfl := Option.some.inj h
    exact g_zret F Rq rfl rfl dX3_isPair_26
  · refine g_aload_n F dX3_isPair_8 rfl 0 rfl ?_
    refine g_iload_n F dX3_isPair_9 rfl 2 rfl ?_
    obtain ⟨r2, hr2, h⟩ := bnd h
    refine g_cV F [.int x2] 0 0 (ok_X3_isItem (gl G) (gD G) cy a Nn x2 r2 hr2) dX3_isPair_10 rfl rfl gX3_isPair_X3_isItem rfl ⟨rfl, cd_X3_isItem⟩ (by decide) rfl (Nat.le_of_ble_eq_true rfl) [0] (by decide) rfl rfl (sg' := [(sNet cy a Nn)]) (st' := [.int r2]) rfl rfl ?_
    refine g_if_eq F 25 h dX3_isPair_13 (by decide) (fun h => ?_) (fun h => ?_)
    · refine g_iconst F (v := (0 : Int32)) dX3_isPair_25 (by decide) ?_
      obtain rfl := Option.some.inj h
      exact g_zret F Rq rfl rfl dX3_isPair_26
    · refine g_iload_n F dX3_isPair_16 rfl 1 rfl ?_
      refine g_iload_n F dX3_isPair_17 rfl 2 rfl ?_
      refine g_icmp_eq F 25 h dX3_isPair_18 (by decide) (fun h => ?_) (fun h => ?_)
      · refine g_iconst F (v := (0 : Int32)) dX3_isPair_25 (by decide) ?_
        obtain rfl := Option.some.inj h
        exact g_zret F Rq rfl rfl dX3_isPair_26
      · refine g_iconst F (v := (1 : Int32)) dX3_isPair_21 (by decide) ?_
        refine g_goto F 26 dX3_isPair_22 (by decide) ?_
        obtain rfl := Option.some.inj h
        exact g_zret F Rq rfl rfl dX3_isPair_26
theorem hi_X3_has_X3 : ∀ w ∈ u_ws RX3 TX3 7, w ∈ wsX3_has := by decide +kernel
theorem fl_X3_has_9 : Cond.fieldLink RX3 9 "ArcOrder$Net" "out" "[I" ∈ wsX3_has := by decide +kernel
theorem ns_X3_has_X8_holdsBit : Cond.static yX8_holdsBit ∈ wsX3_has ∧ Cond.initialized yX8_holdsBit.cls ∈ wsX3_has := by decide +kernel
abbrev rm_X3_has : Room := { frames := 1, cells := 0, slots := 0, locals := 21 }
set_option maxHeartbeats 4000000 in
set_option maxRecDepth 100000 in
theorem ok_X3_has (l : Launch) (D : va_G) (cy : Nat → ClassId) (a : Nat → Nat)  (Nn : NetS) (x1 : Int32) (x2 : Int32) (out : Int32) (h : f_X3_has Nn x1 x2 = some out) : OK l D cy yX3_has wsX3_has rm_X3_has [.ref (a 0), .int x1, .int x2] [(sNet cy a Nn)] (some (.int out)) [(sNet cy a Nn)] := by
  refine OKx.of (cc := cX3_has) (maxL := 3) (ret := (some .boolean)) (by decide) rfl (Nat.le_of_ble_eq_true rfl) (fun G F Rq => ?_)
  show Go G 0 0 0 [(0, .ref (a 0)), (1, .int x1), (2, .int x2)] [] [(sNet cy a Nn)]
  replace F : Fx G cX3_has wsX3_has RX3 cy 3 (rm_X3_has) := F
  replace Rq : Rx G "has" (some .boolean) (some (.int out)) (fun z => z = [(sNet cy a Nn)]) 0 0 := Rq
  unfold f_X3_has at h
  refine g_aload_n F dX3_has_0 rfl 0 rfl ?_
  refine g_get F (C := RX3) (T := TX3) (N := 7) (ci := 3) (v := .ref (a 3)) hi_X3_has_X3 0 0 2 dX3_has_1 rfl rfl (by decide) fl_X3_has_9 rfl ?_
  refine g_iload_n F dX3_has_4 rfl 1 rfl ?_
  refine g_iaload F h 0 1 dX3_has_5 rfl (fun h => ?_)
  refine g_iload_n F dX3_has_6 rfl 2 rfl ?_
  obtain ⟨r1, hr1, h⟩ := bnd h
  refine g_cSN F [.int (Nn.2.2.1 (x1).toNatClampNeg), .int x2] (ok_X8_holdsBit (gl G) (gD G) cy (Nn.2.2.1 (x1).toNatClampNeg) x2 r1 hr1) dX3_has_7 gX3_has_X8_holdsBit_n48 ns_X3_has_X8_holdsBit (fun _ h => h.2.2.2.2.2.2.1) rfl cd_X8_holdsBit (by decide) rfl (Nat.le_of_ble_eq_true rfl) [] (by decide) rfl rfl (sg' := [(sNet cy a Nn)]) (st' := [.int r1]) rfl rfl ?_
  obtain ⟨z2, h⟩ := grd h
  obtain rfl := Option.some.inj h
  exact g_zret F Rq rfl (isZ_n z2) dX3_has_10
theorem hi_X3_everyItem_X3 : ∀ w ∈ u_ws RX3 TX3 7, w ∈ wsX3_everyItem := by decide +kernel
theorem fl_X3_everyItem_31 : Cond.fieldLink RX3 31 "ArcOrder$Net" "items" "I" ∈ wsX3_everyItem := by decide +kernel
abbrev rm_X3_everyItem : Room := { frames := 0, cells := 0, slots := 0, locals := 0 }
set_option maxHeartbeats 4000000 in
set_option maxRecDepth 100000 in
theorem ok_X3_everyItem (l : Launch) (D : va_G) (cy : Nat → ClassId) (a : Nat → Nat)  (Nn : NetS)  (out : Int32) (h : f_X3_everyItem Nn = some out) : OK l D cy yX3_everyItem wsX3_everyItem rm_X3_everyItem [.ref (a 0)] [(sNet cy a Nn)] (some (.int out)) [(sNet cy a Nn)] := by
  refine OKx.of (cc := cX3_everyItem) (maxL := 1) (ret := (some .int)) (by decide) rfl (Nat.le_of_ble_eq_true rfl) (fun G F Rq => ?_)
  show Go G 0 0 0 [(0, .ref (a 0))] [] [(sNet cy a Nn)]
  replace F : Fx G cX3_everyItem wsX3_everyItem RX3 cy 1 (rm_X3_everyItem) := F
  replace Rq : Rx G "everyItem" (some .int) (some (.int out)) (fun z => z = [(sNet cy a Nn)]) 0 0 := Rq
  unfold f_X3_everyItem at h
  refine g_iconst F (v := (1 : Int32)) dX3_everyItem_0 (by decide) ?_
  refine g_aload_n F dX3_everyItem_1 rfl 0 rfl ?_
  refine g_get F (C := RX3) (T := TX3) (N := 7) (ci := 3) (v := .int Nn.1) hi_X3_everyItem_X3 0 0 0 dX3_everyItem_2 rfl rfl (by decide) fl_X3_everyItem_31 rfl ?_
  refine g_ishl F dX3_everyItem_5 ?_
  refine g_iconst F (v := (1 : Int32)) dX3_everyItem_6 (by decide) ?_
  refine g_isub F dX3_everyItem_7 ?_
  obtain rfl := Option.some.inj h
  exact g_iret F Rq rfl dX3_everyItem_8
theorem hi_X3_sweepOn_X3 : ∀ w ∈ u_ws RX3 TX3 7, w ∈ wsX3_sweepOn := by decide +kernel
theorem fl_X3_sweepOn_21 : Cond.fieldLink RX3 21 "ArcOrder$Net" "place" "[I" ∈ wsX3_sweepOn := by decide +kernel
theorem fl_X3_sweepOn_18 : Cond.fieldLink RX3 18 "ArcOrder$Net" "order" "[I" ∈ wsX3_sweepOn := by decide +kernel
theorem fl_X3_sweepOn_15 : Cond.fieldLink RX3 15 "ArcOrder$Net" "in" "[I" ∈ wsX3_sweepOn := by decide +kernel
abbrev rm_X3_sweepOn : Room := { frames := 0, cells := 0, slots := 0, locals := 0 }
set_option maxHeartbeats 4000000 in
set_option maxRecDepth 100000 in
theorem k_X3_sweepOn_14_ok {G : GX} {cy : Nat → ClassId} (a : Nat → Nat)  (x2 : Int32) (Nn : NetS) {out : Int32} (F : Fx G cX3_sweepOn wsX3_sweepOn RX3 cy 6 (rm_X3_sweepOn)) (Rq : Rx G "sweepOn" (some .int) (some (.int out)) (fun z => z = [(sNet cy a Nn)]) 0 0) (ke : Int32 → Option (Int32)) (hke : ∀ (x3 : Int32) , ke x3 = some out → Go G 0 0 54 [(3, .int x3)] [] [(sNet cy a Nn)]) : ∀ (n : Nat) (x3 : Int32) (x4 : Int32) , k_X3_sweepOn_14 x2 Nn ke n x3 x4 = some out → Go G 0 0 14 [(0, .ref (a 0)), (2, .int x2), (3, .int x3), (4, .int x4)] [] [(sNet cy a Nn)] := by
  intro n
  induction n with
  | zero =>
    intro x3 x4 h
    exact nosome h
  | succ n ih =>
    intro x3 x4 h
    rw [k_X3_sweepOn_14.eq_2] at h
    refine g_iload F dX3_sweepOn_14 3 rfl ?_
    refine g_iload_n F dX3_sweepOn_16 rfl 1 rfl ?_
    refine g_icmp_gt F 54 h dX3_sweepOn_17 (by decide) (fun h => ?_) (fun h => ?_)
    · refine Go.sub (lv' := [(3, .int x3)]) [2] rfl ?_
      exact hke x3 h
    · refine g_aload_n F dX3_sweepOn_20 rfl 0 rfl ?_
      refine g_get F (C := RX3) (T := TX3) (N := 7) (ci := 3) (v := .ref (a 5)) hi_X3_sweepOn_X3 0 0 4 dX3_sweepOn_21 rfl rfl (by decide) fl_X3_sweepOn_18 rfl ?_
      refine g_iload F dX3_sweepOn_24 3 rfl ?_
      refine g_iaload F h 0 3 dX3_sweepOn_26 rfl (fun h => ?_)
      refine g_istore F (lv' := [(5, .int (Nn.2.2.2.2.1 (x4).toNatClampNeg)), (0, .ref (a 0)), (2, .int x2), (3, .int x3), (4, .int x4)]) dX3_sweepOn_27 (by decide) rfl ?_
      refine g_aload_n F dX3_sweepOn_29 rfl 1 rfl ?_
      refine g_get F (C := RX3) (T := TX3) (N := 7) (ci := 3) (v := .ref (a 4)) hi_X3_sweepOn_X3 0 0 3 dX3_sweepOn_30 rfl rfl (by decide) fl_X3_sweepOn_15 rfl ?_
      refine g_iload F dX3_sweepOn_33 0 rfl ?_
      refine g_iaload F h 0 2 dX3_sweepOn_35 rfl (fun h => ?_)
      refine g_iload_n F dX3_sweepOn_36 rfl 3 rfl ?_
      refine g_iand F dX3_sweepOn_37 ?_
      refine g_if_eq F 48 h dX3_sweepOn_38 (by decide) (fun h => ?_) (fun h => ?_)
      · refine g_iinc F (v := (x4 + 1)) (lv' := [(4, .int (x4 + 1)), (5, .int (Nn.2.2.2.2.1 (x4).toNatClampNeg)), (0, .ref (a 0)), (2, .int x2), (3, .int x3)]) dX3_sweepOn_48 4 rfl rfl (by decide) rfl ?_
        refine g_goto F 14 dX3_sweepOn_51 (by decide) ?_
        refine Go.sub (lv' := [(0, .ref (a 0)), (2, .int x2), (3, .int x3), (4, .int (x4 + 1))]) [2, 3, 4, 0] rfl ?_
        exact ih x3 (x4 + 1) h
      · refine g_iload_n F dX3_sweepOn_41 rfl 3 rfl ?_
        refine g_iconst F (v := (1 : Int32)) dX3_sweepOn_42 (by decide) ?_
        refine g_iload F dX3_sweepOn_43 0 rfl ?_
        refine g_ishl F dX3_sweepOn_45 ?_
        refine g_ior F dX3_sweepOn_46 ?_
        refine g_istore_n F (lv' := [(3, .int (x3 ||| ((1 : Int32) <<< ((Nn.2.2.2.2.1 (x4).toNatClampNeg) &&& 31)))), (5, .int (Nn.2.2.2.2.1 (x4).toNatClampNeg)), (0, .ref (a 0)), (2, .int x2), (4, .int x4)]) dX3_sweepOn_47 rfl (by decide) rfl ?_
        refine g_iinc F (v := (x4 + 1)) (lv' := [(4, .int (x4 + 1)), (3, .int (x3 ||| ((1 : Int32) <<< ((Nn.2.2.2.2.1 (x4).toNatClampNeg) &&& 31)))), (5, .int (Nn.2.2.2.2.1 (x4).toNatClampNeg)), (0, .ref (a 0)), (2, .int x2)]) dX3_sweepOn_48 4 rfl rfl (by decide) rfl ?_
        refine g_goto F 14 dX3_sweepOn_51 (by decide) ?_
        refine Go.sub (lv' := [(0, .ref (a 0)), (2, .int x2), (3, .int (x3 ||| ((1 : Int32) <<< ((Nn.2.2.2.2.1 (x4).toNatClampNeg) &&& 31)))), (4, .int (x4 + 1))]) [3, 4, 1, 0] rfl ?_
        exact ih (x3 ||| ((1 : Int32) <<< ((Nn.2.2.2.2.1 (x4).toNatClampNeg) &&& 31))) (x4 + 1) h
set_option maxHeartbeats 4000000 in
set_option maxRecDepth 100000 in
theorem ok_X3_sweepOn (l : Launch) (D : va_G) (cy : Nat → ClassId) (a : Nat → Nat)  (Nn : NetS) (x1 : Int32) (x2 : Int32) (out : Int32) (h : f_X3_sweepOn Nn x1 x2 = some out) : OK l D cy yX3_sweepOn wsX3_sweepOn rm_X3_sweepOn [.ref (a 0), .int x1, .int x2] [(sNet cy a Nn)] (some (.int out)) [(sNet cy a Nn)] := by
  refine OKx.of (cc := cX3_sweepOn) (maxL := 6) (ret := (some .int)) (by decide) rfl (Nat.le_of_ble_eq_true rfl) (fun G F Rq => ?_)
  show Go G 0 0 0 [(0, .ref (a 0)), (1, .int x1), (2, .int x2)] [] [(sNet cy a Nn)]
  replace F : Fx G cX3_sweepOn wsX3_sweepOn RX3 cy 6 (rm_X3_sweepOn) := F
  replace Rq : Rx G "sweepOn" (some .int) (some (.int out)) (fun z => z = [(sNet cy a Nn)]) 0 0 := Rq
  unfold f_X3_sweepOn at h
  refine g_iconst F (v := (1 : Int32)) dX3_sweepOn_0 (by decide) ?_
  refine g_iload_n F dX3_sweepOn_1 rfl 1 rfl ?_
  refine g_ishl F dX3_sweepOn_2 ?_
  refine g_istore_n F (lv' := [(3, .int ((1 : Int32) <<< (x1 &&& 31))), (0, .ref (a 0)), (1, .int x1), (2, .int x2)]) dX3_sweepOn_3 rfl (by decide) rfl ?_
  refine g_aload_n F dX3_sweepOn_4 rfl 1 rfl ?_
  refine g_get F (C := RX3) (T := TX3) (N := 7) (ci := 3) (v := .ref (a 6)) hi_X3_sweepOn_X3 0 0 5 dX3_sweepOn_5 rfl rfl (by decide) fl_X3_sweepOn_21 rfl ?_
  refine g_iload_n F dX3_sweepOn_8 rfl 2 rfl ?_
  refine g_iaload F h 0 4 dX3_sweepOn_9 rfl (fun h => ?_)
  refine g_iconst F (v := (1 : Int32)) dX3_sweepOn_10 (by decide) ?_
  refine g_iadd F dX3_sweepOn_11 ?_
  refine g_istore F (lv' := [(4, .int ((Nn.2.2.2.2.2.1 (x1).toNatClampNeg) + (1 : Int32))), (3, .int ((1 : Int32) <<< (x1 &&& 31))), (0, .ref (a 0)), (1, .int x1), (2, .int x2)]) dX3_sweepOn_12 (by decide) rfl ?_
  refine Go.sub (lv' := [(0, .ref (a 0)), (2, .int x2), (3, .int ((1 : Int32) <<< (x1 &&& 31))), (4, .int ((Nn.2.2.2.2.2.1 (x1).toNatClampNeg) + (1 : Int32)))]) [2, 4, 1, 0] rfl ?_
  refine k_X3_sweepOn_14_ok a x2 Nn F Rq _ (fun x3_1 h => ?_) _ ((1 : Int32) <<< (x1 &&& 31)) ((Nn.2.2.2.2.2.1 (x1).toNatClampNeg) + (1 : Int32)) h
  refine g_iload_n F dX3_sweepOn_54 rfl 0 rfl ?_
  obtain rfl := Option.some.inj h
  exact g_iret F Rq rfl dX3_sweepOn_55
theorem hi_X3_sweepBack_X3 : ∀ w ∈ u_ws RX3 TX3 7, w ∈ wsX3_sweepBack := by decide +kernel
theorem fl_X3_sweepBack_21 : Cond.fieldLink RX3 21 "ArcOrder$Net" "place" "[I" ∈ wsX3_sweepBack := by decide +kernel
theorem fl_X3_sweepBack_18 : Cond.fieldLink RX3 18 "ArcOrder$Net" "order" "[I" ∈ wsX3_sweepBack := by decide +kernel
theorem fl_X3_sweepBack_9 : Cond.fieldLink RX3 9 "ArcOrder$Net" "out" "[I" ∈ wsX3_sweepBack := by decide +kernel
abbrev rm_X3_sweepBack : Room := { frames := 0, cells := 0, slots := 0, locals := 0 }
set_option maxHeartbeats 4000000 in
set_option maxRecDepth 100000 in
theorem k_X3_sweepBack_14_ok {G : GX} {cy : Nat → ClassId} (a : Nat → Nat)  (x2 : Int32) (Nn : NetS) {out : Int32} (F : Fx G cX3_sweepBack wsX3_sweepBack RX3 cy 6 (rm_X3_sweepBack)) (Rq : Rx G "sweepBack" (some .int) (some (.int out)) (fun z => z = [(sNet cy a Nn)]) 0 0) (ke : Int32 → Option (Int32)) (hke : ∀ (x3 : Int32) , ke x3 = some out → Go G 0 0 54 [(3, .int x3)] [] [(sNet cy a Nn)]) : ∀ (n : Nat) (x3 : Int32) (x4 : Int32) , k_X3_sweepBack_14 x2 Nn ke n x3 x4 = some out → Go G 0 0 14 [(0, .ref (a 0)), (2, .int x2), (3, .int x3), (4, .int x4)] [] [(sNet cy a Nn)] := by
  intro n
  induction n with
  | zero =>
    intro x3 x4 h
    exact nosome h
  | succ n ih =>
    intro x3 x4 h
    rw [k_X3_sweepBack_14.eq_2] at h
    refine g_iload F dX3_sweepBack_14 3 rfl ?_
    refine g_iload_n F dX3_sweepBack_16 rfl 1 rfl ?_
    refine g_icmp_lt F 54 h dX3_sweepBack_17 (by decide) (fun h => ?_) (fun h => ?_)
    · refine Go.sub (lv' := [(3, .int x3)]) [2] rfl ?_
      exact hke x3 h
    · refine g_aload_n F dX3_sweepBack_20 rfl 0 rfl ?_
      refine g_get F (C := RX3) (T := TX3) (N := 7) (ci := 3) (v := .ref (a 5)) hi_X3_sweepBack_X3 0 0 4 dX3_sweepBack_21 rfl rfl (by decide) fl_X3_sweepBack_18 rfl ?_
      refine g_iload F dX3_sweepBack_24 3 rfl ?_
      refine g_iaload F h 0 3 dX3_sweepBack_26 rfl (fun h => ?_)
      refine g_istore F (lv' := [(5, .int (Nn.2.2.2.2.1 (x4).toNatClampNeg)), (0, .ref (a 0)), (2, .int x2), (3, .int x3), (4, .int x4)]) dX3_sweepBack_27 (by decide) rfl ?_
      refine g_aload_n F dX3_sweepBack_29 rfl 1 rfl ?_
      refine g_get F (C := RX3) (T := TX3) (N := 7) (ci := 3) (v := .ref (a 3)) hi_X3_sweepBack_X3 0 0 2 dX3_sweepBack_30 rfl rfl (by decide) fl_X3_sweepBack_9 rfl ?_
      refine g_iload F dX3_sweepBack_33 0 rfl ?_
      refine g_iaload F h 0 1 dX3_sweepBack_35 rfl (fun h => ?_)
      refine g_iload_n F dX3_sweepBack_36 rfl 3 rfl ?_
      refine g_iand F dX3_sweepBack_37 ?_
      refine g_if_eq F 48 h dX3_sweepBack_38 (by decide) (fun h => ?_) (fun h => ?_)
      · refine g_iinc F (v := (x4 + (-1))) (lv' := [(4, .int (x4 + (-1))), (5, .int (Nn.2.2.2.2.1 (x4).toNatClampNeg)), (0, .ref (a 0)), (2, .int x2), (3, .int x3)]) dX3_sweepBack_48 4 rfl rfl (by decide) rfl ?_
        refine g_goto F 14 dX3_sweepBack_51 (by decide) ?_
        refine Go.sub (lv' := [(0, .ref (a 0)), (2, .int x2), (3, .int x3), (4, .int (x4 + (-1)))]) [2, 3, 4, 0] rfl ?_
        exact ih x3 (x4 + (-1)) h
      · refine g_iload_n F dX3_sweepBack_41 rfl 3 rfl ?_
        refine g_iconst F (v := (1 : Int32)) dX3_sweepBack_42 (by decide) ?_
        refine g_iload F dX3_sweepBack_43 0 rfl ?_
        refine g_ishl F dX3_sweepBack_45 ?_
        refine g_ior F dX3_sweepBack_46 ?_
        refine g_istore_n F (lv' := [(3, .int (x3 ||| ((1 : Int32) <<< ((Nn.2.2.2.2.1 (x4).toNatClampNeg) &&& 31)))), (5, .int (Nn.2.2.2.2.1 (x4).toNatClampNeg)), (0, .ref (a 0)), (2, .int x2), (4, .int x4)]) dX3_sweepBack_47 rfl (by decide) rfl ?_
        refine g_iinc F (v := (x4 + (-1))) (lv' := [(4, .int (x4 + (-1))), (3, .int (x3 ||| ((1 : Int32) <<< ((Nn.2.2.2.2.1 (x4).toNatClampNeg) &&& 31)))), (5, .int (Nn.2.2.2.2.1 (x4).toNatClampNeg)), (0, .ref (a 0)), (2, .int x2)]) dX3_sweepBack_48 4 rfl rfl (by decide) rfl ?_
        refine g_goto F 14 dX3_sweepBack_51 (by decide) ?_
        refine Go.sub (lv' := [(0, .ref (a 0)), (2, .int x2), (3, .int (x3 ||| ((1 : Int32) <<< ((Nn.2.2.2.2.1 (x4).toNatClampNeg) &&& 31)))), (4, .int (x4 + (-1)))]) [3, 4, 1, 0] rfl ?_
        exact ih (x3 ||| ((1 : Int32) <<< ((Nn.2.2.2.2.1 (x4).toNatClampNeg) &&& 31))) (x4 + (-1)) h
set_option maxHeartbeats 4000000 in
set_option maxRecDepth 100000 in
theorem ok_X3_sweepBack (l : Launch) (D : va_G) (cy : Nat → ClassId) (a : Nat → Nat)  (Nn : NetS) (x1 : Int32) (x2 : Int32) (out : Int32) (h : f_X3_sweepBack Nn x1 x2 = some out) : OK l D cy yX3_sweepBack wsX3_sweepBack rm_X3_sweepBack [.ref (a 0), .int x1, .int x2] [(sNet cy a Nn)] (some (.int out)) [(sNet cy a Nn)] := by
  refine OKx.of (cc := cX3_sweepBack) (maxL := 6) (ret := (some .int)) (by decide) rfl (Nat.le_of_ble_eq_true rfl) (fun G F Rq => ?_)
  show Go G 0 0 0 [(0, .ref (a 0)), (1, .int x1), (2, .int x2)] [] [(sNet cy a Nn)]
  replace F : Fx G cX3_sweepBack wsX3_sweepBack RX3 cy 6 (rm_X3_sweepBack) := F
  replace Rq : Rx G "sweepBack" (some .int) (some (.int out)) (fun z => z = [(sNet cy a Nn)]) 0 0 := Rq
  unfold f_X3_sweepBack at h
  refine g_iconst F (v := (1 : Int32)) dX3_sweepBack_0 (by decide) ?_
  refine g_iload_n F dX3_sweepBack_1 rfl 1 rfl ?_
  refine g_ishl F dX3_sweepBack_2 ?_
  refine g_istore_n F (lv' := [(3, .int ((1 : Int32) <<< (x1 &&& 31))), (0, .ref (a 0)), (1, .int x1), (2, .int x2)]) dX3_sweepBack_3 rfl (by decide) rfl ?_
  refine g_aload_n F dX3_sweepBack_4 rfl 1 rfl ?_
  refine g_get F (C := RX3) (T := TX3) (N := 7) (ci := 3) (v := .ref (a 6)) hi_X3_sweepBack_X3 0 0 5 dX3_sweepBack_5 rfl rfl (by decide) fl_X3_sweepBack_21 rfl ?_
  refine g_iload_n F dX3_sweepBack_8 rfl 2 rfl ?_
  refine g_iaload F h 0 4 dX3_sweepBack_9 rfl (fun h => ?_)
  refine g_iconst F (v := (1 : Int32)) dX3_sweepBack_10 (by decide) ?_
  refine g_isub F dX3_sweepBack_11 ?_
  refine g_istore F (lv' := [(4, .int ((Nn.2.2.2.2.2.1 (x1).toNatClampNeg) - (1 : Int32))), (3, .int ((1 : Int32) <<< (x1 &&& 31))), (0, .ref (a 0)), (1, .int x1), (2, .int x2)]) dX3_sweepBack_12 (by decide) rfl ?_
  refine Go.sub (lv' := [(0, .ref (a 0)), (2, .int x2), (3, .int ((1 : Int32) <<< (x1 &&& 31))), (4, .int ((Nn.2.2.2.2.2.1 (x1).toNatClampNeg) - (1 : Int32)))]) [2, 4, 1, 0] rfl ?_
  refine k_X3_sweepBack_14_ok a x2 Nn F Rq _ (fun x3_1 h => ?_) _ ((1 : Int32) <<< (x1 &&& 31)) ((Nn.2.2.2.2.2.1 (x1).toNatClampNeg) - (1 : Int32)) h
  refine g_iload_n F dX3_sweepBack_54 rfl 0 rfl ?_
  obtain rfl := Option.some.inj h
  exact g_iret F Rq rfl dX3_sweepBack_55
theorem hi_X3_allBehind_X3 : ∀ w ∈ u_ws RX3 TX3 7, w ∈ wsX3_allBehind := by decide +kernel
theorem fl_X3_allBehind_31 : Cond.fieldLink RX3 31 "ArcOrder$Net" "items" "I" ∈ wsX3_allBehind := by decide +kernel
abbrev rm_X3_allBehind : Room := { frames := 1, cells := 0, slots := 0, locals := 25 }
set_option maxHeartbeats 4000000 in
set_option maxRecDepth 100000 in
theorem ok_X3_allBehind (l : Launch) (D : va_G) (cy : Nat → ClassId) (a : Nat → Nat)  (Nn : NetS) (x1 : Int32) (out : Int32) (h : f_X3_allBehind Nn x1 = some out) : OK l D cy yX3_allBehind wsX3_allBehind rm_X3_allBehind [.ref (a 0), .int x1] [(sNet cy a Nn)] (some (.int out)) [(sNet cy a Nn)] := by
  refine OKx.of (cc := cX3_allBehind) (maxL := 2) (ret := (some .int)) (by decide) rfl (Nat.le_of_ble_eq_true rfl) (fun G F Rq => ?_)
  show Go G 0 0 0 [(0, .ref (a 0)), (1, .int x1)] [] [(sNet cy a Nn)]
  replace F : Fx G cX3_allBehind wsX3_allBehind RX3 cy 2 (rm_X3_allBehind) := F
  replace Rq : Rx G "allBehind" (some .int) (some (.int out)) (fun z => z = [(sNet cy a Nn)]) 0 0 := Rq
  unfold f_X3_allBehind at h
  refine g_aload_n F dX3_allBehind_0 rfl 0 rfl ?_
  refine g_iload_n F dX3_allBehind_1 rfl 1 rfl ?_
  refine g_aload_n F dX3_allBehind_2 rfl 0 rfl ?_
  refine g_get F (C := RX3) (T := TX3) (N := 7) (ci := 3) (v := .int Nn.1) hi_X3_allBehind_X3 0 0 0 dX3_allBehind_3 rfl rfl (by decide) fl_X3_allBehind_31 rfl ?_
  refine g_iconst F (v := (1 : Int32)) dX3_allBehind_6 (by decide) ?_
  refine g_isub F dX3_allBehind_7 ?_
  obtain ⟨r1, hr1, h⟩ := bnd h
  refine g_cV F [.int x1, .int (Nn.1 - (1 : Int32))] 0 0 (ok_X3_sweepOn (gl G) (gD G) cy a Nn x1 (Nn.1 - (1 : Int32)) r1 hr1) dX3_allBehind_8 rfl rfl gX3_allBehind_X3_sweepOn rfl ⟨rfl, cd_X3_sweepOn⟩ (by decide) rfl (Nat.le_of_ble_eq_true rfl) [0] (by decide) rfl rfl (sg' := [(sNet cy a Nn)]) (st' := [.int r1]) rfl rfl ?_
  refine g_iconst F (v := (1 : Int32)) dX3_allBehind_11 (by decide) ?_
  refine g_iload_n F dX3_allBehind_12 rfl 1 rfl ?_
  refine g_ishl F dX3_allBehind_13 ?_
  refine g_iconst F (v := (-1 : Int32)) dX3_allBehind_14 (by decide) ?_
  refine g_ixor F dX3_allBehind_15 ?_
  refine g_iand F dX3_allBehind_16 ?_
  obtain rfl := Option.some.inj h
  exact g_iret F Rq rfl dX3_allBehind_17
abbrev rm_X3_allAheadOf : Room := { frames := 1, cells := 0, slots := 0, locals := 25 }
set_option maxHeartbeats 4000000 in
set_option maxRecDepth 100000 in
theorem ok_X3_allAheadOf (l : Launch) (D : va_G) (cy : Nat → ClassId) (a : Nat → Nat)  (Nn : NetS) (x1 : Int32) (out : Int32) (h : f_X3_allAheadOf Nn x1 = some out) : OK l D cy yX3_allAheadOf wsX3_allAheadOf rm_X3_allAheadOf [.ref (a 0), .int x1] [(sNet cy a Nn)] (some (.int out)) [(sNet cy a Nn)] := by
  refine OKx.of (cc := cX3_allAheadOf) (maxL := 2) (ret := (some .int)) (by decide) rfl (Nat.le_of_ble_eq_true rfl) (fun G F Rq => ?_)
  show Go G 0 0 0 [(0, .ref (a 0)), (1, .int x1)] [] [(sNet cy a Nn)]
  replace F : Fx G cX3_allAheadOf wsX3_allAheadOf RX3 cy 2 (rm_X3_allAheadOf) := F
  replace Rq : Rx G "allAheadOf" (some .int) (some (.int out)) (fun z => z = [(sNet cy a Nn)]) 0 0 := Rq
  unfold f_X3_allAheadOf at h
  refine g_aload_n F dX3_allAheadOf_0 rfl 0 rfl ?_
  refine g_iload_n F dX3_allAheadOf_1 rfl 1 rfl ?_
  refine g_iconst F (v := (0 : Int32)) dX3_allAheadOf_2 (by decide) ?_
  obtain ⟨r1, hr1, h⟩ := bnd h
  refine g_cV F [.int x1, .int (0 : Int32)] 0 0 (ok_X3_sweepBack (gl G) (gD G) cy a Nn x1 (0 : Int32) r1 hr1) dX3_allAheadOf_3 rfl rfl gX3_allAheadOf_X3_sweepBack rfl ⟨rfl, cd_X3_sweepBack⟩ (by decide) rfl (Nat.le_of_ble_eq_true rfl) [0] (by decide) rfl rfl (sg' := [(sNet cy a Nn)]) (st' := [.int r1]) rfl rfl ?_
  refine g_iconst F (v := (1 : Int32)) dX3_allAheadOf_6 (by decide) ?_
  refine g_iload_n F dX3_allAheadOf_7 rfl 1 rfl ?_
  refine g_ishl F dX3_allAheadOf_8 ?_
  refine g_iconst F (v := (-1 : Int32)) dX3_allAheadOf_9 (by decide) ?_
  refine g_ixor F dX3_allAheadOf_10 ?_
  refine g_iand F dX3_allAheadOf_11 ?_
  obtain rfl := Option.some.inj h
  exact g_iret F Rq rfl dX3_allAheadOf_12
theorem hi_X3_after_X3 : ∀ w ∈ u_ws RX3 TX3 7, w ∈ wsX3_after := by decide +kernel
theorem fl_X3_after_21 : Cond.fieldLink RX3 21 "ArcOrder$Net" "place" "[I" ∈ wsX3_after := by decide +kernel
abbrev rm_X3_after : Room := { frames := 1, cells := 0, slots := 0, locals := 25 }
set_option maxHeartbeats 4000000 in
set_option maxRecDepth 100000 in
theorem ok_X3_after (l : Launch) (D : va_G) (cy : Nat → ClassId) (a : Nat → Nat)  (Nn : NetS) (x1 : Int32) (x2 : Int32) (out : Int32) (h : f_X3_after Nn x1 x2 = some out) : OK l D cy yX3_after wsX3_after rm_X3_after [.ref (a 0), .int x1, .int x2] [(sNet cy a Nn)] (some (.int out)) [(sNet cy a Nn)] := by
  refine OKx.of (cc := cX3_after) (maxL := 3) (ret := (some .int)) (by decide) rfl (Nat.le_of_ble_eq_true rfl) (fun G F Rq => ?_)
  show Go G 0 0 0 [(0, .ref (a 0)), (1, .int x1), (2, .int x2)] [] [(sNet cy a Nn)]
  replace F : Fx G cX3_after wsX3_after RX3 cy 3 (rm_X3_after) := F
  replace Rq : Rx G "after" (some .int) (some (.int out)) (fun z => z = [(sNet cy a Nn)]) 0 0 := Rq
  unfold f_X3_after at h
  refine g_aload_n F dX3_after_0 rfl 0 rfl ?_
  refine g_get F (C := RX3) (T := TX3) (N := 7) (ci := 3) (v := .ref (a 6)) hi_X3_after_X3 0 0 5 dX3_after_1 rfl rfl (by decide) fl_X3_after_21 rfl ?_
  refine g_iload_n F dX3_after_4 rfl 1 rfl ?_
  refine g_iaload F h 0 4 dX3_after_5 rfl (fun h => ?_)
  refine g_aload_n F dX3_after_6 rfl 0 rfl ?_
  refine g_get F (C := RX3) (T := TX3) (N := 7) (ci := 3) (v := .ref (a 6)) hi_X3_after_X3 0 0 5 dX3_after_7 rfl rfl (by decide) fl_X3_after_21 rfl ?_
  refine g_iload_n F dX3_after_10 rfl 2 rfl ?_
  refine g_iaload F h 0 4 dX3_after_11 rfl (fun h => ?_)
  refine g_icmp_ge F 19 h dX3_after_12 (by decide) (fun h => ?_) (fun h => ?_)
  · refine g_aload_n F dX3_after_19 rfl 0 rfl ?_
    refine g_iload_n F dX3_after_20 rfl 2 rfl ?_
    refine g_aload_n F dX3_after_21 rfl 0 rfl ?_
    refine g_get F (C := RX3) (T := TX3) (N := 7) (ci := 3) (v := .ref (a 6)) hi_X3_after_X3 0 0 5 dX3_after_22 rfl rfl (by decide) fl_X3_after_21 rfl ?_
    refine g_iload_n F dX3_after_25 rfl 1 rfl ?_
    refine g_iaload F h 0 4 dX3_after_26 rfl (fun h => ?_)
    obtain ⟨r1, hr1, h⟩ := bnd h
    refine g_cV F [.int x2, .int (Nn.2.2.2.2.2.1 (x1).toNatClampNeg)] 0 0 (ok_X3_sweepOn (gl G) (gD G) cy a Nn x2 (Nn.2.2.2.2.2.1 (x1).toNatClampNeg) r1 hr1) dX3_after_27 rfl rfl gX3_after_X3_sweepOn rfl ⟨rfl, cd_X3_sweepOn⟩ (by decide) rfl (Nat.le_of_ble_eq_true rfl) [0] (by decide) rfl rfl (sg' := [(sNet cy a Nn)]) (st' := [.int r1]) rfl rfl ?_
    obtain rfl := Option.some.inj h
    exact g_iret F Rq rfl dX3_after_30
  · refine g_iconst F (v := (0 : Int32)) dX3_after_15 (by decide) ?_
    refine g_goto F 30 dX3_after_16 (by decide) ?_
    obtain rfl := Option.some.inj h
    exact g_iret F Rq rfl dX3_after_30
theorem hi_X3_before_X3 : ∀ w ∈ u_ws RX3 TX3 7, w ∈ wsX3_before := by decide +kernel
theorem fl_X3_before_21 : Cond.fieldLink RX3 21 "ArcOrder$Net" "place" "[I" ∈ wsX3_before := by decide +kernel
abbrev rm_X3_before : Room := { frames := 1, cells := 0, slots := 0, locals := 25 }
set_option maxHeartbeats 4000000 in
set_option maxRecDepth 100000 in
theorem ok_X3_before (l : Launch) (D : va_G) (cy : Nat → ClassId) (a : Nat → Nat)  (Nn : NetS) (x1 : Int32) (x2 : Int32) (out : Int32) (h : f_X3_before Nn x1 x2 = some out) : OK l D cy yX3_before wsX3_before rm_X3_before [.ref (a 0), .int x1, .int x2] [(sNet cy a Nn)] (some (.int out)) [(sNet cy a Nn)] := by
  refine OKx.of (cc := cX3_before) (maxL := 3) (ret := (some .int)) (by decide) rfl (Nat.le_of_ble_eq_true rfl) (fun G F Rq => ?_)
  show Go G 0 0 0 [(0, .ref (a 0)), (1, .int x1), (2, .int x2)] [] [(sNet cy a Nn)]
  replace F : Fx G cX3_before wsX3_before RX3 cy 3 (rm_X3_before) := F
  replace Rq : Rx G "before" (some .int) (some (.int out)) (fun z => z = [(sNet cy a Nn)]) 0 0 := Rq
  unfold f_X3_before at h
  refine g_aload_n F dX3_before_0 rfl 0 rfl ?_
  refine g_get F (C := RX3) (T := TX3) (N := 7) (ci := 3) (v := .ref (a 6)) hi_X3_before_X3 0 0 5 dX3_before_1 rfl rfl (by decide) fl_X3_before_21 rfl ?_
  refine g_iload_n F dX3_before_4 rfl 1 rfl ?_
  refine g_iaload F h 0 4 dX3_before_5 rfl (fun h => ?_)
  refine g_aload_n F dX3_before_6 rfl 0 rfl ?_
  refine g_get F (C := RX3) (T := TX3) (N := 7) (ci := 3) (v := .ref (a 6)) hi_X3_before_X3 0 0 5 dX3_before_7 rfl rfl (by decide) fl_X3_before_21 rfl ?_
  refine g_iload_n F dX3_before_10 rfl 2 rfl ?_
  refine g_iaload F h 0 4 dX3_before_11 rfl (fun h => ?_)
  refine g_icmp_ge F 19 h dX3_before_12 (by decide) (fun h => ?_) (fun h => ?_)
  · refine g_aload_n F dX3_before_19 rfl 0 rfl ?_
    refine g_iload_n F dX3_before_20 rfl 1 rfl ?_
    refine g_aload_n F dX3_before_21 rfl 0 rfl ?_
    refine g_get F (C := RX3) (T := TX3) (N := 7) (ci := 3) (v := .ref (a 6)) hi_X3_before_X3 0 0 5 dX3_before_22 rfl rfl (by decide) fl_X3_before_21 rfl ?_
    refine g_iload_n F dX3_before_25 rfl 2 rfl ?_
    refine g_iaload F h 0 4 dX3_before_26 rfl (fun h => ?_)
    obtain ⟨r1, hr1, h⟩ := bnd h
    refine g_cV F [.int x1, .int (Nn.2.2.2.2.2.1 (x2).toNatClampNeg)] 0 0 (ok_X3_sweepBack (gl G) (gD G) cy a Nn x1 (Nn.2.2.2.2.2.1 (x2).toNatClampNeg) r1 hr1) dX3_before_27 rfl rfl gX3_before_X3_sweepBack rfl ⟨rfl, cd_X3_sweepBack⟩ (by decide) rfl (Nat.le_of_ble_eq_true rfl) [0] (by decide) rfl rfl (sg' := [(sNet cy a Nn)]) (st' := [.int r1]) rfl rfl ?_
    obtain rfl := Option.some.inj h
    exact g_iret F Rq rfl dX3_before_30
  · refine g_iconst F (v := (0 : Int32)) dX3_before_15 (by decide) ?_
    refine g_goto F 30 dX3_before_16 (by decide) ?_
    obtain rfl := Option.some.inj h
    exact g_iret F Rq rfl dX3_before_30
theorem hi_X3_closesRing_X3 : ∀ w ∈ u_ws RX3 TX3 7, w ∈ wsX3_closesRing := by decide +kernel
theorem fl_X3_closesRing_21 : Cond.fieldLink RX3 21 "ArcOrder$Net" "place" "[I" ∈ wsX3_closesRing := by decide +kernel
theorem ns_X3_closesRing_X8_holdsBit : Cond.static yX8_holdsBit ∈ wsX3_closesRing ∧ Cond.initialized yX8_holdsBit.cls ∈ wsX3_closesRing := by decide +kernel
abbrev rm_X3_closesRing : Room := { frames := 1, cells := 0, slots := 0, locals := 25 }
set_option maxHeartbeats 4000000 in
set_option maxRecDepth 100000 in
theorem ok_X3_closesRing (l : Launch) (D : va_G) (cy : Nat → ClassId) (a : Nat → Nat)  (Nn : NetS) (x1 : Int32) (x2 : Int32) (out : Int32) (h : f_X3_closesRing Nn x1 x2 = some out) : OK l D cy yX3_closesRing wsX3_closesRing rm_X3_closesRing [.ref (a 0), .int x1, .int x2] [(sNet cy a Nn)] (some (.int out)) [(sNet cy a Nn)] := by
  refine OKx.of (cc := cX3_closesRing) (maxL := 3) (ret := (some .boolean)) (by decide) rfl (Nat.le_of_ble_eq_true rfl) (fun G F Rq => ?_)
  show Go G 0 0 0 [(0, .ref (a 0)), (1, .int x1), (2, .int x2)] [] [(sNet cy a Nn)]
  replace F : Fx G cX3_closesRing wsX3_closesRing RX3 cy 3 (rm_X3_closesRing) := F
  replace Rq : Rx G "closesRing" (some .boolean) (some (.int out)) (fun z => z = [(sNet cy a Nn)]) 0 0 := Rq
  unfold f_X3_closesRing at h
  refine g_aload_n F dX3_closesRing_0 rfl 0 rfl ?_
  refine g_get F (C := RX3) (T := TX3) (N := 7) (ci := 3) (v := .ref (a 6)) hi_X3_closesRing_X3 0 0 5 dX3_closesRing_1 rfl rfl (by decide) fl_X3_closesRing_21 rfl ?_
  refine g_iload_n F dX3_closesRing_4 rfl 1 rfl ?_
  refine g_iaload F h 0 4 dX3_closesRing_5 rfl (fun h => ?_)
  refine g_aload_n F dX3_closesRing_6 rfl 0 rfl ?_
  refine g_get F (C := RX3) (T := TX3) (N := 7) (ci := 3) (v := .ref (a 6)) hi_X3_closesRing_X3 0 0 5 dX3_closesRing_7 rfl rfl (by decide) fl_X3_closesRing_21 rfl ?_
  refine g_iload_n F dX3_closesRing_10 rfl 2 rfl ?_
  refine g_iaload F h 0 4 dX3_closesRing_11 rfl (fun h => ?_)
  refine g_icmp_le F 37 h dX3_closesRing_12 (by decide) (fun h => ?_) (fun h => ?_)
  · refine g_iconst F (v := (0 : Int32)) dX3_closesRing_37 (by decide) ?_
    obtain rfl := Option.some.inj h
    exact g_zret F Rq rfl rfl dX3_closesRing_38
  · refine g_aload_n F dX3_closesRing_15 rfl 0 rfl ?_
    refine g_iload_n F dX3_closesRing_16 rfl 2 rfl ?_
    refine g_aload_n F dX3_closesRing_17 rfl 0 rfl ?_
    refine g_get F (C := RX3) (T := TX3) (N := 7) (ci := 3) (v := .ref (a 6)) hi_X3_closesRing_X3 0 0 5 dX3_closesRing_18 rfl rfl (by decide) fl_X3_closesRing_21 rfl ?_
    refine g_iload_n F dX3_closesRing_21 rfl 1 rfl ?_
    refine g_iaload F h 0 4 dX3_closesRing_22 rfl (fun h => ?_)
    obtain ⟨r1, hr1, h⟩ := bnd h
    refine g_cV F [.int x2, .int (Nn.2.2.2.2.2.1 (x1).toNatClampNeg)] 0 0 (ok_X3_sweepOn (gl G) (gD G) cy a Nn x2 (Nn.2.2.2.2.2.1 (x1).toNatClampNeg) r1 hr1) dX3_closesRing_23 rfl rfl gX3_closesRing_X3_sweepOn rfl ⟨rfl, cd_X3_sweepOn⟩ (by decide) rfl (Nat.le_of_ble_eq_true rfl) [0] (by decide) rfl rfl (sg' := [(sNet cy a Nn)]) (st' := [.int r1]) rfl rfl ?_
    refine g_iload_n F dX3_closesRing_26 rfl 1 rfl ?_
    obtain ⟨r2, hr2, h⟩ := bnd h
    refine g_cSN F [.int r1, .int x1] (ok_X8_holdsBit (gl G) (gD G) cy r1 x1 r2 hr2) dX3_closesRing_27 gX3_closesRing_X8_holdsBit_n48 ns_X3_closesRing_X8_holdsBit (fun _ h => h.2.2.2.2.2.2.1) rfl cd_X8_holdsBit (by decide) rfl (Nat.le_of_ble_eq_true rfl) [] (by decide) rfl rfl (sg' := [(sNet cy a Nn)]) (st' := [.int r2]) rfl rfl ?_
    refine g_if_eq F 37 h dX3_closesRing_30 (by decide) (fun h => ?_) (fun h => ?_)
    · refine g_iconst F (v := (0 : Int32)) dX3_closesRing_37 (by decide) ?_
      obtain rfl := Option.some.inj h
      exact g_zret F Rq rfl rfl dX3_closesRing_38
    · refine g_iconst F (v := (1 : Int32)) dX3_closesRing_33 (by decide) ?_
      refine g_goto F 38 dX3_closesRing_34 (by decide) ?_
      obtain rfl := Option.some.inj h
      exact g_zret F Rq rfl rfl dX3_closesRing_38
abbrev rm_X3_canTake : Room := { frames := 2, cells := 0, slots := 0, locals := 47 }
set_option maxHeartbeats 4000000 in
set_option maxRecDepth 100000 in
theorem ok_X3_canTake (l : Launch) (D : va_G) (cy : Nat → ClassId) (a : Nat → Nat)  (Nn : NetS) (x1 : Int32) (x2 : Int32) (out : Int32) (h : f_X3_canTake Nn x1 x2 = some out) : OK l D cy yX3_canTake wsX3_canTake rm_X3_canTake [.ref (a 0), .int x1, .int x2] [(sNet cy a Nn)] (some (.int out)) [(sNet cy a Nn)] := by
  refine OKx.of (cc := cX3_canTake) (maxL := 3) (ret := (some .boolean)) (by decide) rfl (Nat.le_of_ble_eq_true rfl) (fun G F Rq => ?_)
  show Go G 0 0 0 [(0, .ref (a 0)), (1, .int x1), (2, .int x2)] [] [(sNet cy a Nn)]
  replace F : Fx G cX3_canTake wsX3_canTake RX3 cy 3 (rm_X3_canTake) := F
  replace Rq : Rx G "canTake" (some .boolean) (some (.int out)) (fun z => z = [(sNet cy a Nn)]) 0 0 := Rq
  unfold f_X3_canTake at h
  refine g_aload_n F dX3_canTake_0 rfl 0 rfl ?_
  refine g_iload_n F dX3_canTake_1 rfl 1 rfl ?_
  refine g_iload_n F dX3_canTake_2 rfl 2 rfl ?_
  obtain ⟨r1, hr1, h⟩ := bnd h
  refine g_cV F [.int x1, .int x2] 0 0 (ok_X3_isPair (gl G) (gD G) cy a Nn x1 x2 r1 hr1) dX3_canTake_3 rfl rfl gX3_canTake_X3_isPair rfl ⟨rfl, cd_X3_isPair⟩ (by decide) rfl (Nat.le_of_ble_eq_true rfl) [0] (by decide) rfl rfl (sg' := [(sNet cy a Nn)]) (st' := [.int r1]) rfl rfl ?_
  refine g_if_eq F 31 h dX3_canTake_6 (by decide) (fun h => ?_) (fun h => ?_)
  · refine g_iconst F (v := (0 : Int32)) dX3_canTake_31 (by decide) ?_
    obtain rfl := Option.some.inj h
    exact g_zret F Rq rfl rfl dX3_canTake_32
  · refine g_aload_n F dX3_canTake_9 rfl 0 rfl ?_
    refine g_iload_n F dX3_canTake_10 rfl 1 rfl ?_
    refine g_iload_n F dX3_canTake_11 rfl 2 rfl ?_
    obtain ⟨r2, hr2, h⟩ := bnd h
    refine g_cV F [.int x1, .int x2] 0 0 (ok_X3_has (gl G) (gD G) cy a Nn x1 x2 r2 hr2) dX3_canTake_12 rfl rfl gX3_canTake_X3_has rfl ⟨rfl, cd_X3_has⟩ (by decide) rfl (Nat.le_of_ble_eq_true rfl) [0] (by decide) rfl rfl (sg' := [(sNet cy a Nn)]) (st' := [.int r2]) rfl rfl ?_
    refine g_if_ne F 31 h dX3_canTake_15 (by decide) (fun h => ?_) (fun h => ?_)
    · refine g_iconst F (v := (0 : Int32)) dX3_canTake_31 (by decide) ?_
      obtain rfl := Option.some.inj h
      exact g_zret F Rq rfl rfl dX3_canTake_32
    · refine g_aload_n F dX3_canTake_18 rfl 0 rfl ?_
      refine g_iload_n F dX3_canTake_19 rfl 1 rfl ?_
      refine g_iload_n F dX3_canTake_20 rfl 2 rfl ?_
      obtain ⟨r3, hr3, h⟩ := bnd h
      refine g_cV F [.int x1, .int x2] 0 0 (ok_X3_closesRing (gl G) (gD G) cy a Nn x1 x2 r3 hr3) dX3_canTake_21 rfl rfl gX3_canTake_X3_closesRing rfl ⟨rfl, cd_X3_closesRing⟩ (by decide) rfl (Nat.le_of_ble_eq_true rfl) [0] (by decide) rfl rfl (sg' := [(sNet cy a Nn)]) (st' := [.int r3]) rfl rfl ?_
      refine g_if_ne F 31 h dX3_canTake_24 (by decide) (fun h => ?_) (fun h => ?_)
      · refine g_iconst F (v := (0 : Int32)) dX3_canTake_31 (by decide) ?_
        obtain rfl := Option.some.inj h
        exact g_zret F Rq rfl rfl dX3_canTake_32
      · refine g_iconst F (v := (1 : Int32)) dX3_canTake_27 (by decide) ?_
        refine g_goto F 32 dX3_canTake_28 (by decide) ?_
        obtain rfl := Option.some.inj h
        exact g_zret F Rq rfl rfl dX3_canTake_32
abbrev rm_X3_movedBy : Room := { frames := 2, cells := 0, slots := 0, locals := 47 }
set_option maxHeartbeats 4000000 in
set_option maxRecDepth 100000 in
theorem ok_X3_movedBy (l : Launch) (D : va_G) (cy : Nat → ClassId) (a : Nat → Nat)  (Nn : NetS) (x1 : Int32) (x2 : Int32) (out : Int32) (h : f_X3_movedBy Nn x1 x2 = some out) : OK l D cy yX3_movedBy wsX3_movedBy rm_X3_movedBy [.ref (a 0), .int x1, .int x2] [(sNet cy a Nn)] (some (.int out)) [(sNet cy a Nn)] := by
  refine OKx.of (cc := cX3_movedBy) (maxL := 3) (ret := (some .int)) (by decide) rfl (Nat.le_of_ble_eq_true rfl) (fun G F Rq => ?_)
  show Go G 0 0 0 [(0, .ref (a 0)), (1, .int x1), (2, .int x2)] [] [(sNet cy a Nn)]
  replace F : Fx G cX3_movedBy wsX3_movedBy RX3 cy 3 (rm_X3_movedBy) := F
  replace Rq : Rx G "movedBy" (some .int) (some (.int out)) (fun z => z = [(sNet cy a Nn)]) 0 0 := Rq
  unfold f_X3_movedBy at h
  refine g_aload_n F dX3_movedBy_0 rfl 0 rfl ?_
  refine g_iload_n F dX3_movedBy_1 rfl 1 rfl ?_
  refine g_iload_n F dX3_movedBy_2 rfl 2 rfl ?_
  obtain ⟨r1, hr1, h⟩ := bnd h
  refine g_cV F [.int x1, .int x2] 0 0 (ok_X3_closesRing (gl G) (gD G) cy a Nn x1 x2 r1 hr1) dX3_movedBy_3 rfl rfl gX3_movedBy_X3_closesRing rfl ⟨rfl, cd_X3_closesRing⟩ (by decide) rfl (Nat.le_of_ble_eq_true rfl) [0] (by decide) rfl rfl (sg' := [(sNet cy a Nn)]) (st' := [.int r1]) rfl rfl ?_
  refine g_if_eq F 13 h dX3_movedBy_6 (by decide) (fun h => ?_) (fun h => ?_)
  · refine g_aload_n F dX3_movedBy_13 rfl 0 rfl ?_
    refine g_iload_n F dX3_movedBy_14 rfl 1 rfl ?_
    refine g_iload_n F dX3_movedBy_15 rfl 2 rfl ?_
    obtain ⟨r2, hr2, h⟩ := bnd h
    refine g_cV F [.int x1, .int x2] 0 0 (ok_X3_before (gl G) (gD G) cy a Nn x1 x2 r2 hr2) dX3_movedBy_16 rfl rfl gX3_movedBy_X3_before rfl ⟨rfl, cd_X3_before⟩ (by decide) rfl (Nat.le_of_ble_eq_true rfl) [0] (by decide) rfl rfl (sg' := [(sNet cy a Nn)]) (st' := [.int r2]) rfl rfl ?_
    refine g_aload_n F dX3_movedBy_19 rfl 0 rfl ?_
    refine g_iload_n F dX3_movedBy_20 rfl 1 rfl ?_
    refine g_iload_n F dX3_movedBy_21 rfl 2 rfl ?_
    obtain ⟨r3, hr3, h⟩ := bnd h
    refine g_cV F [.int x1, .int x2] 0 0 (ok_X3_after (gl G) (gD G) cy a Nn x1 x2 r3 hr3) dX3_movedBy_22 rfl rfl gX3_movedBy_X3_after rfl ⟨rfl, cd_X3_after⟩ (by decide) rfl (Nat.le_of_ble_eq_true rfl) [0] (by decide) rfl rfl (sg' := [(sNet cy a Nn)]) (st' := [.int r3, .int r2]) rfl rfl ?_
    refine g_ior F dX3_movedBy_25 ?_
    obtain rfl := Option.some.inj h
    exact g_iret F Rq rfl dX3_movedBy_26
  · refine g_iconst F (v := (0 : Int32)) dX3_movedBy_9 (by decide) ?_
    refine g_goto F 26 dX3_movedBy_10 (by decide) ?_
    obtain rfl := Option.some.inj h
    exact g_iret F Rq rfl dX3_movedBy_26
theorem hi_X3_gather_X3 : ∀ w ∈ u_ws RX3 TX3 7, w ∈ wsX3_gather := by decide +kernel
theorem fl_X3_gather_31 : Cond.fieldLink RX3 31 "ArcOrder$Net" "items" "I" ∈ wsX3_gather := by decide +kernel
theorem fl_X3_gather_18 : Cond.fieldLink RX3 18 "ArcOrder$Net" "order" "[I" ∈ wsX3_gather := by decide +kernel
theorem ns_X3_gather_X8_holdsBit : Cond.static yX8_holdsBit ∈ wsX3_gather ∧ Cond.initialized yX8_holdsBit.cls ∈ wsX3_gather := by decide +kernel
theorem fl_X3_gather_24 : Cond.fieldLink RX3 24 "ArcOrder$Net" "movers" "[I" ∈ wsX3_gather := by decide +kernel
abbrev rm_X3_gather : Room := { frames := 1, cells := 0, slots := 0, locals := 21 }
set_option maxHeartbeats 4000000 in
set_option maxRecDepth 100000 in
theorem k_X3_gather_5_ok {G : GX} {cy : Nat → ClassId} (a : Nat → Nat)  (x1 : Int32)  {out : Int32 × NetS} (F : Fx G cX3_gather wsX3_gather RX3 cy 5 (rm_X3_gather)) (Rq : Rx G "gather" (some .int) (some (.int out.1)) (fun z => z = [(sNet cy a out.2)]) 0 0) (ke : Int32 → NetS → Option (Int32 × NetS)) (hke : ∀ (x3 : Int32) (Nn : NetS), ke x3 Nn = some out → Go G 0 0 56 [(3, .int x3)] [] [(sNet cy a Nn)]) : ∀ (n : Nat) (x3 : Int32) (x4 : Int32) (Nn : NetS), k_X3_gather_5 x1 ke n x3 x4 Nn = some out → Go G 0 0 5 [(0, .ref (a 0)), (1, .int x1), (3, .int x3), (4, .int x4)] [] [(sNet cy a Nn)] := by
  intro n
  induction n with
  | zero =>
    intro x3 x4 Nn h
    exact nosome h
  | succ n ih =>
    intro x3 x4 Nn h
    rw [k_X3_gather_5.eq_2] at h
    refine g_iload F dX3_gather_5 3 rfl ?_
    refine g_aload_n F dX3_gather_7 rfl 0 rfl ?_
    refine g_get F (C := RX3) (T := TX3) (N := 7) (ci := 3) (v := .int Nn.1) hi_X3_gather_X3 0 0 0 dX3_gather_8 rfl rfl (by decide) fl_X3_gather_31 rfl ?_
    refine g_icmp_ge F 56 h dX3_gather_11 (by decide) (fun h => ?_) (fun h => ?_)
    · refine Go.sub (lv' := [(3, .int x3)]) [2] rfl ?_
      exact hke x3 Nn h
    · refine g_iload_n F dX3_gather_14 rfl 1 rfl ?_
      refine g_aload_n F dX3_gather_15 rfl 0 rfl ?_
      refine g_get F (C := RX3) (T := TX3) (N := 7) (ci := 3) (v := .ref (a 5)) hi_X3_gather_X3 0 0 4 dX3_gather_16 rfl rfl (by decide) fl_X3_gather_18 rfl ?_
      refine g_iload F dX3_gather_19 3 rfl ?_
      refine g_iaload F h 0 3 dX3_gather_21 rfl (fun h => ?_)
      obtain ⟨r1, hr1, h⟩ := bnd h
      refine g_cSN F [.int x1, .int (Nn.2.2.2.2.1 (x4).toNatClampNeg)] (ok_X8_holdsBit (gl G) (gD G) cy x1 (Nn.2.2.2.2.1 (x4).toNatClampNeg) r1 hr1) dX3_gather_22 gX3_gather_X8_holdsBit_n48 ns_X3_gather_X8_holdsBit (fun _ h => h.2.2.2.2.2.2.1) rfl cd_X8_holdsBit (by decide) rfl (Nat.le_of_ble_eq_true rfl) [] (by decide) rfl rfl (sg' := [(sNet cy a Nn)]) (st' := [.int r1]) rfl rfl ?_
      refine g_if_eq F 50 h dX3_gather_25 (by decide) (fun h => ?_) (fun h => ?_)
      · refine g_iinc F (v := (x4 + 1)) (lv' := [(4, .int (x4 + 1)), (0, .ref (a 0)), (1, .int x1), (3, .int x3)]) dX3_gather_50 3 rfl rfl (by decide) rfl ?_
        refine g_goto F 5 dX3_gather_53 (by decide) ?_
        refine Go.sub (lv' := [(0, .ref (a 0)), (1, .int x1), (3, .int x3), (4, .int (x4 + 1))]) [1, 2, 3, 0] rfl ?_
        exact ih x3 (x4 + 1) Nn h
      · refine g_iload_n F dX3_gather_28 rfl 2 rfl ?_
        refine g_bipush F (v := (12 : Int32)) dX3_gather_29 (by decide) ?_
        refine g_icmp_ge F 50 h dX3_gather_31 (by decide) (fun h => ?_) (fun h => ?_)
        · refine g_iinc F (v := (x4 + 1)) (lv' := [(4, .int (x4 + 1)), (0, .ref (a 0)), (1, .int x1), (3, .int x3)]) dX3_gather_50 3 rfl rfl (by decide) rfl ?_
          refine g_goto F 5 dX3_gather_53 (by decide) ?_
          refine Go.sub (lv' := [(0, .ref (a 0)), (1, .int x1), (3, .int x3), (4, .int (x4 + 1))]) [1, 2, 3, 0] rfl ?_
          exact ih x3 (x4 + 1) Nn h
        · refine g_aload_n F dX3_gather_34 rfl 0 rfl ?_
          refine g_get F (C := RX3) (T := TX3) (N := 7) (ci := 3) (v := .ref (a 7)) hi_X3_gather_X3 0 0 6 dX3_gather_35 rfl rfl (by decide) fl_X3_gather_24 rfl ?_
          refine g_iload_n F dX3_gather_38 rfl 2 rfl ?_
          refine g_aload_n F dX3_gather_39 rfl 0 rfl ?_
          refine g_get F (C := RX3) (T := TX3) (N := 7) (ci := 3) (v := .ref (a 5)) hi_X3_gather_X3 0 0 4 dX3_gather_40 rfl rfl (by decide) fl_X3_gather_18 rfl ?_
          refine g_iload F dX3_gather_43 3 rfl ?_
          refine g_iaload F h 0 3 dX3_gather_45 rfl (fun h => ?_)
          refine g_iastore F h (sg' := [(sNet cy a (Nn.1, Nn.2.1, Nn.2.2.1, Nn.2.2.2.1, Nn.2.2.2.2.1, Nn.2.2.2.2.2.1, (upd Nn.2.2.2.2.2.2 (x3).toNatClampNeg (Nn.2.2.2.2.1 (x4).toNatClampNeg))))]) 0 5 dX3_gather_46 rfl rfl (fun h => ?_)
          refine g_iinc F (v := (x3 + 1)) (lv' := [(3, .int (x3 + 1)), (0, .ref (a 0)), (1, .int x1), (4, .int x4)]) dX3_gather_47 2 rfl rfl (by decide) rfl ?_
          refine g_iinc F (v := (x4 + 1)) (lv' := [(4, .int (x4 + 1)), (3, .int (x3 + 1)), (0, .ref (a 0)), (1, .int x1)]) dX3_gather_50 3 rfl rfl (by decide) rfl ?_
          refine g_goto F 5 dX3_gather_53 (by decide) ?_
          refine Go.sub (lv' := [(0, .ref (a 0)), (1, .int x1), (3, .int (x3 + 1)), (4, .int (x4 + 1))]) [2, 3, 1, 0] rfl ?_
          exact ih (x3 + 1) (x4 + 1) (Nn.1, Nn.2.1, Nn.2.2.1, Nn.2.2.2.1, Nn.2.2.2.2.1, Nn.2.2.2.2.2.1, (upd Nn.2.2.2.2.2.2 (x3).toNatClampNeg (Nn.2.2.2.2.1 (x4).toNatClampNeg))) h
set_option maxHeartbeats 4000000 in
set_option maxRecDepth 100000 in
theorem ok_X3_gather (l : Launch) (D : va_G) (cy : Nat → ClassId) (a : Nat → Nat)  (Nn : NetS) (x1 : Int32) (x2 : Int32) (out : Int32 × NetS) (h : f_X3_gather Nn x1 x2 = some out) : OK l D cy yX3_gather wsX3_gather rm_X3_gather [.ref (a 0), .int x1, .int x2] [(sNet cy a Nn)] (some (.int out.1)) [(sNet cy a out.2)] := by
  refine OKx.of (cc := cX3_gather) (maxL := 5) (ret := (some .int)) (by decide) rfl (Nat.le_of_ble_eq_true rfl) (fun G F Rq => ?_)
  show Go G 0 0 0 [(0, .ref (a 0)), (1, .int x1), (2, .int x2)] [] [(sNet cy a Nn)]
  replace F : Fx G cX3_gather wsX3_gather RX3 cy 5 (rm_X3_gather) := F
  replace Rq : Rx G "gather" (some .int) (some (.int out.1)) (fun z => z = [(sNet cy a out.2)]) 0 0 := Rq
  unfold f_X3_gather at h
  refine g_iload_n F dX3_gather_0 rfl 2 rfl ?_
  refine g_istore_n F (lv' := [(3, .int x2), (0, .ref (a 0)), (1, .int x1), (2, .int x2)]) dX3_gather_1 rfl (by decide) rfl ?_
  refine g_iconst F (v := (0 : Int32)) dX3_gather_2 (by decide) ?_
  refine g_istore F (lv' := [(4, .int (0 : Int32)), (3, .int x2), (0, .ref (a 0)), (1, .int x1), (2, .int x2)]) dX3_gather_3 (by decide) rfl ?_
  refine Go.sub (lv' := [(0, .ref (a 0)), (1, .int x1), (3, .int x2), (4, .int (0 : Int32))]) [2, 3, 1, 0] rfl ?_
  refine k_X3_gather_5_ok a x1 F Rq _ (fun x3_2 Nn_2 h => ?_) _ x2 (0 : Int32) Nn h
  refine g_iload_n F dX3_gather_56 rfl 0 rfl ?_
  obtain rfl := Option.some.inj h
  exact g_iret F Rq rfl dX3_gather_57
theorem hi_X3_stand_X3 : ∀ w ∈ u_ws RX3 TX3 7, w ∈ wsX3_stand := by decide +kernel
theorem fl_X3_stand_18 : Cond.fieldLink RX3 18 "ArcOrder$Net" "order" "[I" ∈ wsX3_stand := by decide +kernel
theorem fl_X3_stand_21 : Cond.fieldLink RX3 21 "ArcOrder$Net" "place" "[I" ∈ wsX3_stand := by decide +kernel
abbrev rm_X3_stand : Room := { frames := 0, cells := 0, slots := 0, locals := 0 }
set_option maxHeartbeats 4000000 in
set_option maxRecDepth 100000 in
theorem ok_X3_stand (l : Launch) (D : va_G) (cy : Nat → ClassId) (a : Nat → Nat)  (Nn : NetS) (x1 : Int32) (x2 : Int32) (out : NetS) (h : f_X3_stand Nn x1 x2 = some out) : OK l D cy yX3_stand wsX3_stand rm_X3_stand [.ref (a 0), .int x1, .int x2] [(sNet cy a Nn)] none [(sNet cy a out)] := by
  refine OKx.of (cc := cX3_stand) (maxL := 3) (ret := none) (by decide) rfl (Nat.le_of_ble_eq_true rfl) (fun G F Rq => ?_)
  show Go G 0 0 0 [(0, .ref (a 0)), (1, .int x1), (2, .int x2)] [] [(sNet cy a Nn)]
  replace F : Fx G cX3_stand wsX3_stand RX3 cy 3 (rm_X3_stand) := F
  replace Rq : Rx G "stand" none none (fun z => z = [(sNet cy a out)]) 0 0 := Rq
  unfold f_X3_stand at h
  refine g_aload_n F dX3_stand_0 rfl 0 rfl ?_
  refine g_get F (C := RX3) (T := TX3) (N := 7) (ci := 3) (v := .ref (a 5)) hi_X3_stand_X3 0 0 4 dX3_stand_1 rfl rfl (by decide) fl_X3_stand_18 rfl ?_
  refine g_iload_n F dX3_stand_4 rfl 2 rfl ?_
  refine g_iload_n F dX3_stand_5 rfl 1 rfl ?_
  refine g_iastore F h (sg' := [(sNet cy a (Nn.1, Nn.2.1, Nn.2.2.1, Nn.2.2.2.1, (upd Nn.2.2.2.2.1 (x2).toNatClampNeg x1), Nn.2.2.2.2.2.1, Nn.2.2.2.2.2.2))]) 0 3 dX3_stand_6 rfl rfl (fun h => ?_)
  refine g_aload_n F dX3_stand_7 rfl 0 rfl ?_
  refine g_get F (C := RX3) (T := TX3) (N := 7) (ci := 3) (v := .ref (a 6)) hi_X3_stand_X3 0 0 5 dX3_stand_8 rfl rfl (by decide) fl_X3_stand_21 rfl ?_
  refine g_iload_n F dX3_stand_11 rfl 1 rfl ?_
  refine g_iload_n F dX3_stand_12 rfl 2 rfl ?_
  refine g_iastore F h (sg' := [(sNet cy a (Nn.1, Nn.2.1, Nn.2.2.1, Nn.2.2.2.1, (upd Nn.2.2.2.2.1 (x2).toNatClampNeg x1), (upd Nn.2.2.2.2.2.1 (x1).toNatClampNeg x2), Nn.2.2.2.2.2.2))]) 0 4 dX3_stand_13 rfl rfl (fun h => ?_)
  obtain rfl := Option.some.inj h
  exact g_vret F Rq rfl dX3_stand_14
theorem hi_X3_rearrange_X3 : ∀ w ∈ u_ws RX3 TX3 7, w ∈ wsX3_rearrange := by decide +kernel
theorem fl_X3_rearrange_31 : Cond.fieldLink RX3 31 "ArcOrder$Net" "items" "I" ∈ wsX3_rearrange := by decide +kernel
theorem fl_X3_rearrange_18 : Cond.fieldLink RX3 18 "ArcOrder$Net" "order" "[I" ∈ wsX3_rearrange := by decide +kernel
theorem ns_X3_rearrange_X8_holdsBit : Cond.static yX8_holdsBit ∈ wsX3_rearrange ∧ Cond.initialized yX8_holdsBit.cls ∈ wsX3_rearrange := by decide +kernel
theorem fl_X3_rearrange_24 : Cond.fieldLink RX3 24 "ArcOrder$Net" "movers" "[I" ∈ wsX3_rearrange := by decide +kernel
abbrev rm_X3_rearrange : Room := { frames := 2, cells := 0, slots := 0, locals := 45 }
set_option maxHeartbeats 4000000 in
set_option maxRecDepth 100000 in
theorem k_X3_rearrange_17_ok {G : GX} {cy : Nat → ClassId} (a : Nat → Nat)  (x1 : Int32) (x2 : Int32)  {out : NetS} (F : Fx G cX3_rearrange wsX3_rearrange RX3 cy 5 (rm_X3_rearrange)) (Rq : Rx G "rearrange" none none (fun z => z = [(sNet cy a out)]) 0 0) (ke : NetS → Option (NetS)) (hke : ∀  (Nn : NetS), ke Nn = some out → Go G 0 0 63 [] [] [(sNet cy a Nn)]) : ∀ (n : Nat) (x3 : Int32) (x4 : Int32) (Nn : NetS), k_X3_rearrange_17 x1 x2 ke n x3 x4 Nn = some out → Go G 0 0 17 [(0, .ref (a 0)), (1, .int x1), (2, .int x2), (3, .int x3), (4, .int x4)] [] [(sNet cy a Nn)] := by
  intro n
  induction n with
  | zero =>
    intro x3 x4 Nn h
    exact nosome h
  | succ n ih =>
    intro x3 x4 Nn h
    rw [k_X3_rearrange_17.eq_2] at h
    refine g_iload F dX3_rearrange_17 4 rfl ?_
    refine g_aload_n F dX3_rearrange_19 rfl 0 rfl ?_
    refine g_get F (C := RX3) (T := TX3) (N := 7) (ci := 3) (v := .int Nn.1) hi_X3_rearrange_X3 0 0 0 dX3_rearrange_20 rfl rfl (by decide) fl_X3_rearrange_31 rfl ?_
    refine g_icmp_ge F 63 h dX3_rearrange_23 (by decide) (fun h => ?_) (fun h => ?_)
    · refine Go.sub (lv' := []) [] rfl ?_
      exact hke Nn h
    · refine g_iload_n F dX3_rearrange_26 rfl 1 rfl ?_
      refine g_iload_n F dX3_rearrange_27 rfl 2 rfl ?_
      refine g_ior F dX3_rearrange_28 ?_
      refine g_aload_n F dX3_rearrange_29 rfl 0 rfl ?_
      refine g_get F (C := RX3) (T := TX3) (N := 7) (ci := 3) (v := .ref (a 5)) hi_X3_rearrange_X3 0 0 4 dX3_rearrange_30 rfl rfl (by decide) fl_X3_rearrange_18 rfl ?_
      refine g_iload F dX3_rearrange_33 4 rfl ?_
      refine g_iaload F h 0 3 dX3_rearrange_35 rfl (fun h => ?_)
      obtain ⟨r3, hr3, h⟩ := bnd h
      refine g_cSN F [.int (x1 ||| x2), .int (Nn.2.2.2.2.1 (x4).toNatClampNeg)] (ok_X8_holdsBit (gl G) (gD G) cy (x1 ||| x2) (Nn.2.2.2.2.1 (x4).toNatClampNeg) r3 hr3) dX3_rearrange_36 gX3_rearrange_X8_holdsBit_n48 ns_X3_rearrange_X8_holdsBit (fun _ h => h.2.2.2.2.2.2.1) rfl cd_X8_holdsBit (by decide) rfl (Nat.le_of_ble_eq_true rfl) [] (by decide) rfl rfl (sg' := [(sNet cy a Nn)]) (st' := [.int r3]) rfl rfl ?_
      refine g_if_eq F 57 h dX3_rearrange_39 (by decide) (fun h => ?_) (fun h => ?_)
      · refine g_iinc F (v := (x4 + 1)) (lv' := [(4, .int (x4 + 1)), (0, .ref (a 0)), (1, .int x1), (2, .int x2), (3, .int x3)]) dX3_rearrange_57 4 rfl rfl (by decide) rfl ?_
        refine g_goto F 17 dX3_rearrange_60 (by decide) ?_
        refine Go.sub (lv' := [(0, .ref (a 0)), (1, .int x1), (2, .int x2), (3, .int x3), (4, .int (x4 + 1))]) [1, 2, 3, 4, 0] rfl ?_
        exact ih x3 (x4 + 1) Nn h
      · refine g_aload_n F dX3_rearrange_42 rfl 0 rfl ?_
        refine g_aload_n F dX3_rearrange_43 rfl 0 rfl ?_
        refine g_get F (C := RX3) (T := TX3) (N := 7) (ci := 3) (v := .ref (a 7)) hi_X3_rearrange_X3 0 0 6 dX3_rearrange_44 rfl rfl (by decide) fl_X3_rearrange_24 rfl ?_
        refine g_iload_n F dX3_rearrange_47 rfl 3 rfl ?_
        refine g_iaload F h 0 5 dX3_rearrange_48 rfl (fun h => ?_)
        refine g_iload F dX3_rearrange_49 4 rfl ?_
        obtain ⟨r4, hr4, h⟩ := bnd h
        refine g_cV F [.int (Nn.2.2.2.2.2.2 (x3).toNatClampNeg), .int x4] 0 0 (ok_X3_stand (gl G) (gD G) cy a Nn (Nn.2.2.2.2.2.2 (x3).toNatClampNeg) x4 r4 hr4) dX3_rearrange_51 rfl rfl gX3_rearrange_X3_stand rfl ⟨rfl, cd_X3_stand⟩ (by decide) rfl (Nat.le_of_ble_eq_true rfl) [0] (by decide) rfl rfl (sg' := [(sNet cy a r4)]) (st' := []) rfl rfl ?_
        refine g_iinc F (v := (x3 + 1)) (lv' := [(3, .int (x3 + 1)), (0, .ref (a 0)), (1, .int x1), (2, .int x2), (4, .int x4)]) dX3_rearrange_54 3 rfl rfl (by decide) rfl ?_
        refine g_iinc F (v := (x4 + 1)) (lv' := [(4, .int (x4 + 1)), (3, .int (x3 + 1)), (0, .ref (a 0)), (1, .int x1), (2, .int x2)]) dX3_rearrange_57 4 rfl rfl (by decide) rfl ?_
        refine g_goto F 17 dX3_rearrange_60 (by decide) ?_
        refine Go.sub (lv' := [(0, .ref (a 0)), (1, .int x1), (2, .int x2), (3, .int (x3 + 1)), (4, .int (x4 + 1))]) [2, 3, 4, 1, 0] rfl ?_
        exact ih (x3 + 1) (x4 + 1) r4 h
set_option maxHeartbeats 4000000 in
set_option maxRecDepth 100000 in
theorem ok_X3_rearrange (l : Launch) (D : va_G) (cy : Nat → ClassId) (a : Nat → Nat)  (Nn : NetS) (x1 : Int32) (x2 : Int32) (out : NetS) (h : f_X3_rearrange Nn x1 x2 = some out) : OK l D cy yX3_rearrange wsX3_rearrange rm_X3_rearrange [.ref (a 0), .int x1, .int x2] [(sNet cy a Nn)] none [(sNet cy a out)] := by
  refine OKx.of (cc := cX3_rearrange) (maxL := 5) (ret := none) (by decide) rfl (Nat.le_of_ble_eq_true rfl) (fun G F Rq => ?_)
  show Go G 0 0 0 [(0, .ref (a 0)), (1, .int x1), (2, .int x2)] [] [(sNet cy a Nn)]
  replace F : Fx G cX3_rearrange wsX3_rearrange RX3 cy 5 (rm_X3_rearrange) := F
  replace Rq : Rx G "rearrange" none none (fun z => z = [(sNet cy a out)]) 0 0 := Rq
  unfold f_X3_rearrange at h
  refine g_aload_n F dX3_rearrange_0 rfl 0 rfl ?_
  refine g_iload_n F dX3_rearrange_1 rfl 2 rfl ?_
  refine g_aload_n F dX3_rearrange_2 rfl 0 rfl ?_
  refine g_iload_n F dX3_rearrange_3 rfl 1 rfl ?_
  refine g_iconst F (v := (0 : Int32)) dX3_rearrange_4 (by decide) ?_
  obtain ⟨r1, hr1, h⟩ := bnd h
  refine g_cV F [.int x1, .int (0 : Int32)] 0 0 (ok_X3_gather (gl G) (gD G) cy a Nn x1 (0 : Int32) r1 hr1) dX3_rearrange_5 rfl rfl gX3_rearrange_X3_gather rfl ⟨rfl, cd_X3_gather⟩ (by decide) rfl (Nat.le_of_ble_eq_true rfl) [0] (by decide) rfl rfl (sg' := [(sNet cy a r1.2)]) (st' := [.int r1.1, .int x2, .ref (a 0)]) rfl rfl ?_
  obtain ⟨r2, hr2, h⟩ := bnd h
  refine g_cV F [.int x2, .int r1.1] 0 0 (ok_X3_gather (gl G) (gD G) cy a r1.2 x2 r1.1 r2 hr2) dX3_rearrange_8 rfl rfl gX3_rearrange_X3_gather rfl ⟨rfl, cd_X3_gather⟩ (by decide) rfl (Nat.le_of_ble_eq_true rfl) [0] (by decide) rfl rfl (sg' := [(sNet cy a r2.2)]) (st' := [.int r2.1]) rfl rfl ?_
  refine g_pop F dX3_rearrange_11 rfl ?_
  refine g_iconst F (v := (0 : Int32)) dX3_rearrange_12 (by decide) ?_
  refine g_istore_n F (lv' := [(3, .int (0 : Int32)), (0, .ref (a 0)), (1, .int x1), (2, .int x2)]) dX3_rearrange_13 rfl (by decide) rfl ?_
  refine g_iconst F (v := (0 : Int32)) dX3_rearrange_14 (by decide) ?_
  refine g_istore F (lv' := [(4, .int (0 : Int32)), (3, .int (0 : Int32)), (0, .ref (a 0)), (1, .int x1), (2, .int x2)]) dX3_rearrange_15 (by decide) rfl ?_
  refine Go.sub (lv' := [(0, .ref (a 0)), (1, .int x1), (2, .int x2), (3, .int (0 : Int32)), (4, .int (0 : Int32))]) [2, 3, 4, 1, 0] rfl ?_
  refine k_X3_rearrange_17_ok a x1 x2 F Rq _ (fun Nn_5 h => ?_) _ (0 : Int32) (0 : Int32) r2.2 h
  obtain rfl := Option.some.inj h
  exact g_vret F Rq rfl dX3_rearrange_63
theorem hi_X3_put_X3 : ∀ w ∈ u_ws RX3 TX3 7, w ∈ wsX3_put := by decide +kernel
theorem fl_X3_put_9 : Cond.fieldLink RX3 9 "ArcOrder$Net" "out" "[I" ∈ wsX3_put := by decide +kernel
theorem fl_X3_put_15 : Cond.fieldLink RX3 15 "ArcOrder$Net" "in" "[I" ∈ wsX3_put := by decide +kernel
theorem fl_X3_put_35 : Cond.fieldLink RX3 35 "ArcOrder$Net" "arcs" "I" ∈ wsX3_put := by decide +kernel
abbrev rm_X3_put : Room := { frames := 3, cells := 0, slots := 0, locals := 69 }
set_option maxHeartbeats 4000000 in
set_option maxRecDepth 100000 in
theorem ok_X3_put (l : Launch) (D : va_G) (cy : Nat → ClassId) (a : Nat → Nat)  (Nn : NetS) (x1 : Int32) (x2 : Int32) (out : Int32 × NetS) (h : f_X3_put Nn x1 x2 = some out) : OK l D cy yX3_put wsX3_put rm_X3_put [.ref (a 0), .int x1, .int x2] [(sNet cy a Nn)] (some (.int out.1)) [(sNet cy a out.2)] := by
  refine OKx.of (cc := cX3_put) (maxL := 5) (ret := (some .int)) (by decide) rfl (Nat.le_of_ble_eq_true rfl) (fun G F Rq => ?_)
  show Go G 0 0 0 [(0, .ref (a 0)), (1, .int x1), (2, .int x2)] [] [(sNet cy a Nn)]
  replace F : Fx G cX3_put wsX3_put RX3 cy 5 (rm_X3_put) := F
  replace Rq : Rx G "put" (some .int) (some (.int out.1)) (fun z => z = [(sNet cy a out.2)]) 0 0 := Rq
  unfold f_X3_put at h
  refine g_aload_n F dX3_put_0 rfl 0 rfl ?_
  refine g_iload_n F dX3_put_1 rfl 1 rfl ?_
  refine g_iload_n F dX3_put_2 rfl 2 rfl ?_
  obtain ⟨r1, hr1, h⟩ := bnd h
  refine g_cV F [.int x1, .int x2] 0 0 (ok_X3_closesRing (gl G) (gD G) cy a Nn x1 x2 r1 hr1) dX3_put_3 rfl rfl gX3_put_X3_closesRing rfl ⟨rfl, cd_X3_closesRing⟩ (by decide) rfl (Nat.le_of_ble_eq_true rfl) [0] (by decide) rfl rfl (sg' := [(sNet cy a Nn)]) (st' := [.int r1]) rfl rfl ?_
  refine g_if_eq F 12 h dX3_put_6 (by decide) (fun h => ?_) (fun h => ?_)
  · refine g_aload_n F dX3_put_12 rfl 0 rfl ?_
    refine g_iload_n F dX3_put_13 rfl 1 rfl ?_
    refine g_iload_n F dX3_put_14 rfl 2 rfl ?_
    obtain ⟨r2, hr2, h⟩ := bnd h
    refine g_cV F [.int x1, .int x2] 0 0 (ok_X3_before (gl G) (gD G) cy a Nn x1 x2 r2 hr2) dX3_put_15 rfl rfl gX3_put_X3_before rfl ⟨rfl, cd_X3_before⟩ (by decide) rfl (Nat.le_of_ble_eq_true rfl) [0] (by decide) rfl rfl (sg' := [(sNet cy a Nn)]) (st' := [.int r2]) rfl rfl ?_
    refine g_istore_n F (lv' := [(3, .int r2), (0, .ref (a 0)), (1, .int x1), (2, .int x2)]) dX3_put_18 rfl (by decide) rfl ?_
    refine g_aload_n F dX3_put_19 rfl 1 rfl ?_
    refine g_iload_n F dX3_put_20 rfl 2 rfl ?_
    refine g_iload_n F dX3_put_21 rfl 3 rfl ?_
    obtain ⟨r3, hr3, h⟩ := bnd h
    refine g_cV F [.int x1, .int x2] 0 0 (ok_X3_after (gl G) (gD G) cy a Nn x1 x2 r3 hr3) dX3_put_22 rfl rfl gX3_put_X3_after rfl ⟨rfl, cd_X3_after⟩ (by decide) rfl (Nat.le_of_ble_eq_true rfl) [0] (by decide) rfl rfl (sg' := [(sNet cy a Nn)]) (st' := [.int r3]) rfl rfl ?_
    refine g_istore F (lv' := [(4, .int r3), (3, .int r2), (0, .ref (a 0)), (1, .int x1), (2, .int x2)]) dX3_put_25 (by decide) rfl ?_
    refine g_aload_n F dX3_put_27 rfl 2 rfl ?_
    refine g_iload_n F dX3_put_28 rfl 1 rfl ?_
    refine g_iload F dX3_put_29 0 rfl ?_
    obtain ⟨r4, hr4, h⟩ := bnd h
    refine g_cV F [.int r2, .int r3] 0 0 (ok_X3_rearrange (gl G) (gD G) cy a Nn r2 r3 r4 hr4) dX3_put_31 rfl rfl gX3_put_X3_rearrange rfl ⟨rfl, cd_X3_rearrange⟩ (by decide) rfl (Nat.le_of_ble_eq_true rfl) [0] (by decide) rfl rfl (sg' := [(sNet cy a r4)]) (st' := []) rfl rfl ?_
    refine g_aload_n F dX3_put_34 rfl 2 rfl ?_
    refine g_get F (C := RX3) (T := TX3) (N := 7) (ci := 3) (v := .ref (a 3)) hi_X3_put_X3 0 0 2 dX3_put_35 rfl rfl (by decide) fl_X3_put_9 rfl ?_
    refine g_iload_n F dX3_put_38 rfl 3 rfl ?_
    refine g_dup2 F dX3_put_39 rfl rfl ?_
    refine g_iaload F h 0 1 dX3_put_40 rfl (fun h => ?_)
    refine g_iconst F (v := (1 : Int32)) dX3_put_41 (by decide) ?_
    refine g_iload_n F dX3_put_42 rfl 4 rfl ?_
    refine g_ishl F dX3_put_43 ?_
    refine g_ior F dX3_put_44 ?_
    refine g_iastore F h (sg' := [(sNet cy a (r4.1, r4.2.1, (upd r4.2.2.1 (x1).toNatClampNeg ((r4.2.2.1 (x1).toNatClampNeg) ||| ((1 : Int32) <<< (x2 &&& 31)))), r4.2.2.2.1, r4.2.2.2.2.1, r4.2.2.2.2.2.1, r4.2.2.2.2.2.2))]) 0 1 dX3_put_45 rfl rfl (fun h => ?_)
    refine g_aload_n F dX3_put_46 rfl 2 rfl ?_
    refine g_get F (C := RX3) (T := TX3) (N := 7) (ci := 3) (v := .ref (a 4)) hi_X3_put_X3 0 0 3 dX3_put_47 rfl rfl (by decide) fl_X3_put_15 rfl ?_
    refine g_iload_n F dX3_put_50 rfl 4 rfl ?_
    refine g_dup2 F dX3_put_51 rfl rfl ?_
    refine g_iaload F h 0 2 dX3_put_52 rfl (fun h => ?_)
    refine g_iconst F (v := (1 : Int32)) dX3_put_53 (by decide) ?_
    refine g_iload_n F dX3_put_54 rfl 3 rfl ?_
    refine g_ishl F dX3_put_55 ?_
    refine g_ior F dX3_put_56 ?_
    refine g_iastore F h (sg' := [(sNet cy a (r4.1, r4.2.1, (upd r4.2.2.1 (x1).toNatClampNeg ((r4.2.2.1 (x1).toNatClampNeg) ||| ((1 : Int32) <<< (x2 &&& 31)))), (upd r4.2.2.2.1 (x2).toNatClampNeg ((r4.2.2.2.1 (x2).toNatClampNeg) ||| ((1 : Int32) <<< (x1 &&& 31)))), r4.2.2.2.2.1, r4.2.2.2.2.2.1, r4.2.2.2.2.2.2))]) 0 2 dX3_put_57 rfl rfl (fun h => ?_)
    refine g_aload_n F dX3_put_58 rfl 2 rfl ?_
    refine g_dup F dX3_put_59 rfl ?_
    refine g_get F (C := RX3) (T := TX3) (N := 7) (ci := 3) (v := .int r4.2.1) hi_X3_put_X3 0 0 1 dX3_put_60 rfl rfl (by decide) fl_X3_put_35 rfl ?_
    refine g_iconst F (v := (1 : Int32)) dX3_put_63 (by decide) ?_
    refine g_iadd F dX3_put_64 ?_
    refine g_put F (C := RX3) (T := TX3) (N := 7) (ci := 3) (v := .int (r4.2.1 + (1 : Int32))) (ty := .int) (sg' := [(sNet cy a (r4.1, (r4.2.1 + (1 : Int32)), (upd r4.2.2.1 (x1).toNatClampNeg ((r4.2.2.1 (x1).toNatClampNeg) ||| ((1 : Int32) <<< (x2 &&& 31)))), (upd r4.2.2.2.1 (x2).toNatClampNeg ((r4.2.2.2.1 (x2).toNatClampNeg) ||| ((1 : Int32) <<< (x1 &&& 31)))), r4.2.2.2.2.1, r4.2.2.2.2.2.1, r4.2.2.2.2.2.2))]) hi_X3_put_X3 tyX3 tyX3_ok nmX3 0 0 1 dX3_put_65 rfl rfl (by decide) fl_X3_put_35 rfl rfl rfl rfl (Nat.le_of_ble_eq_true rfl) rfl ?_
    refine g_iload_n F dX3_put_68 rfl 1 rfl ?_
    refine g_iload F dX3_put_69 0 rfl ?_
    refine g_ior F dX3_put_71 ?_
    obtain ⟨r5, hr5, h⟩ := bnd h
    refine g_cS F [.int (r2 ||| r3)] (ok_J6_bitCount_0f7a4 (gl G) (gD G) cy (r2 ||| r3) r5 hr5) dX3_put_72 gX3_put_J6_bitCount_0f7a4 rfl cd_J6_bitCount_0f7a4 (by decide) rfl (Nat.le_of_ble_eq_true rfl) [] (by decide) rfl rfl (sg' := [(sNet cy a (r4.1, (r4.2.1 + (1 : Int32)), (upd r4.2.2.1 (x1).toNatClampNeg ((r4.2.2.1 (x1).toNatClampNeg) ||| ((1 : Int32) <<< (x2 &&& 31)))), (upd r4.2.2.2.1 (x2).toNatClampNeg ((r4.2.2.2.1 (x2).toNatClampNeg) ||| ((1 : Int32) <<< (x1 &&& 31)))), r4.2.2.2.2.1, r4.2.2.2.2.2.1, r4.2.2.2.2.2.2))]) (st' := [.int r5]) rfl rfl ?_
    obtain rfl := Option.some.inj h
    exact g_iret F Rq rfl dX3_put_75
  · refine g_bipush F (v := (-4 : Int32)) dX3_put_9 (by decide) ?_
    obtain rfl := Option.some.inj h
    exact g_iret F Rq rfl dX3_put_11
theorem hi_X3_part_X3 : ∀ w ∈ u_ws RX3 TX3 7, w ∈ wsX3_part := by decide +kernel
theorem fl_X3_part_9 : Cond.fieldLink RX3 9 "ArcOrder$Net" "out" "[I" ∈ wsX3_part := by decide +kernel
theorem fl_X3_part_15 : Cond.fieldLink RX3 15 "ArcOrder$Net" "in" "[I" ∈ wsX3_part := by decide +kernel
theorem fl_X3_part_35 : Cond.fieldLink RX3 35 "ArcOrder$Net" "arcs" "I" ∈ wsX3_part := by decide +kernel
abbrev rm_X3_part : Room := { frames := 0, cells := 0, slots := 0, locals := 0 }
set_option maxHeartbeats 4000000 in
set_option maxRecDepth 100000 in
theorem ok_X3_part (l : Launch) (D : va_G) (cy : Nat → ClassId) (a : Nat → Nat)  (Nn : NetS) (x1 : Int32) (x2 : Int32) (out : NetS) (h : f_X3_part Nn x1 x2 = some out) : OK l D cy yX3_part wsX3_part rm_X3_part [.ref (a 0), .int x1, .int x2] [(sNet cy a Nn)] none [(sNet cy a out)] := by
  refine OKx.of (cc := cX3_part) (maxL := 3) (ret := none) (by decide) rfl (Nat.le_of_ble_eq_true rfl) (fun G F Rq => ?_)
  show Go G 0 0 0 [(0, .ref (a 0)), (1, .int x1), (2, .int x2)] [] [(sNet cy a Nn)]
  replace F : Fx G cX3_part wsX3_part RX3 cy 3 (rm_X3_part) := F
  replace Rq : Rx G "part" none none (fun z => z = [(sNet cy a out)]) 0 0 := Rq
  unfold f_X3_part at h
  refine g_aload_n F dX3_part_0 rfl 0 rfl ?_
  refine g_get F (C := RX3) (T := TX3) (N := 7) (ci := 3) (v := .ref (a 3)) hi_X3_part_X3 0 0 2 dX3_part_1 rfl rfl (by decide) fl_X3_part_9 rfl ?_
  refine g_iload_n F dX3_part_4 rfl 1 rfl ?_
  refine g_dup2 F dX3_part_5 rfl rfl ?_
  refine g_iaload F h 0 1 dX3_part_6 rfl (fun h => ?_)
  refine g_iconst F (v := (1 : Int32)) dX3_part_7 (by decide) ?_
  refine g_iload_n F dX3_part_8 rfl 2 rfl ?_
  refine g_ishl F dX3_part_9 ?_
  refine g_iconst F (v := (-1 : Int32)) dX3_part_10 (by decide) ?_
  refine g_ixor F dX3_part_11 ?_
  refine g_iand F dX3_part_12 ?_
  refine g_iastore F h (sg' := [(sNet cy a (Nn.1, Nn.2.1, (upd Nn.2.2.1 (x1).toNatClampNeg ((Nn.2.2.1 (x1).toNatClampNeg) &&& (((1 : Int32) <<< (x2 &&& 31)) ^^^ (-1 : Int32)))), Nn.2.2.2.1, Nn.2.2.2.2.1, Nn.2.2.2.2.2.1, Nn.2.2.2.2.2.2))]) 0 1 dX3_part_13 rfl rfl (fun h => ?_)
  refine g_aload_n F dX3_part_14 rfl 0 rfl ?_
  refine g_get F (C := RX3) (T := TX3) (N := 7) (ci := 3) (v := .ref (a 4)) hi_X3_part_X3 0 0 3 dX3_part_15 rfl rfl (by decide) fl_X3_part_15 rfl ?_
  refine g_iload_n F dX3_part_18 rfl 2 rfl ?_
  refine g_dup2 F dX3_part_19 rfl rfl ?_
  refine g_iaload F h 0 2 dX3_part_20 rfl (fun h => ?_)
  refine g_iconst F (v := (1 : Int32)) dX3_part_21 (by decide) ?_
  refine g_iload_n F dX3_part_22 rfl 1 rfl ?_
  refine g_ishl F dX3_part_23 ?_
  refine g_iconst F (v := (-1 : Int32)) dX3_part_24 (by decide) ?_
  refine g_ixor F dX3_part_25 ?_
  refine g_iand F dX3_part_26 ?_
  refine g_iastore F h (sg' := [(sNet cy a (Nn.1, Nn.2.1, (upd Nn.2.2.1 (x1).toNatClampNeg ((Nn.2.2.1 (x1).toNatClampNeg) &&& (((1 : Int32) <<< (x2 &&& 31)) ^^^ (-1 : Int32)))), (upd Nn.2.2.2.1 (x2).toNatClampNeg ((Nn.2.2.2.1 (x2).toNatClampNeg) &&& (((1 : Int32) <<< (x1 &&& 31)) ^^^ (-1 : Int32)))), Nn.2.2.2.2.1, Nn.2.2.2.2.2.1, Nn.2.2.2.2.2.2))]) 0 2 dX3_part_27 rfl rfl (fun h => ?_)
  refine g_aload_n F dX3_part_28 rfl 0 rfl ?_
  refine g_dup F dX3_part_29 rfl ?_
  refine g_get F (C := RX3) (T := TX3) (N := 7) (ci := 3) (v := .int Nn.2.1) hi_X3_part_X3 0 0 1 dX3_part_30 rfl rfl (by decide) fl_X3_part_35 rfl ?_
  refine g_iconst F (v := (1 : Int32)) dX3_part_33 (by decide) ?_
  refine g_isub F dX3_part_34 ?_
  refine g_put F (C := RX3) (T := TX3) (N := 7) (ci := 3) (v := .int (Nn.2.1 - (1 : Int32))) (ty := .int) (sg' := [(sNet cy a (Nn.1, (Nn.2.1 - (1 : Int32)), (upd Nn.2.2.1 (x1).toNatClampNeg ((Nn.2.2.1 (x1).toNatClampNeg) &&& (((1 : Int32) <<< (x2 &&& 31)) ^^^ (-1 : Int32)))), (upd Nn.2.2.2.1 (x2).toNatClampNeg ((Nn.2.2.2.1 (x2).toNatClampNeg) &&& (((1 : Int32) <<< (x1 &&& 31)) ^^^ (-1 : Int32)))), Nn.2.2.2.2.1, Nn.2.2.2.2.2.1, Nn.2.2.2.2.2.2))]) hi_X3_part_X3 tyX3 tyX3_ok nmX3 0 0 1 dX3_part_35 rfl rfl (by decide) fl_X3_part_35 rfl rfl rfl rfl (Nat.le_of_ble_eq_true rfl) rfl ?_
  obtain rfl := Option.some.inj h
  exact g_vret F Rq rfl dX3_part_38
theorem ns_X3_isReady_X8_holdsBit : Cond.static yX8_holdsBit ∈ wsX3_isReady ∧ Cond.initialized yX8_holdsBit.cls ∈ wsX3_isReady := by decide +kernel
theorem hi_X3_isReady_X3 : ∀ w ∈ u_ws RX3 TX3 7, w ∈ wsX3_isReady := by decide +kernel
theorem fl_X3_isReady_15 : Cond.fieldLink RX3 15 "ArcOrder$Net" "in" "[I" ∈ wsX3_isReady := by decide +kernel
abbrev rm_X3_isReady : Room := { frames := 1, cells := 0, slots := 0, locals := 21 }
set_option maxHeartbeats 4000000 in
set_option maxRecDepth 100000 in
theorem ok_X3_isReady (l : Launch) (D : va_G) (cy : Nat → ClassId) (a : Nat → Nat)  (Nn : NetS) (x1 : Int32) (x2 : Int32) (out : Int32) (h : f_X3_isReady Nn x1 x2 = some out) : OK l D cy yX3_isReady wsX3_isReady rm_X3_isReady [.ref (a 0), .int x1, .int x2] [(sNet cy a Nn)] (some (.int out)) [(sNet cy a Nn)] := by
  refine OKx.of (cc := cX3_isReady) (maxL := 3) (ret := (some .boolean)) (by decide) rfl (Nat.le_of_ble_eq_true rfl) (fun G F Rq => ?_)
  show Go G 0 0 0 [(0, .ref (a 0)), (1, .int x1), (2, .int x2)] [] [(sNet cy a Nn)]
  replace F : Fx G cX3_isReady wsX3_isReady RX3 cy 3 (rm_X3_isReady) := F
  replace Rq : Rx G "isReady" (some .boolean) (some (.int out)) (fun z => z = [(sNet cy a Nn)]) 0 0 := Rq
  unfold f_X3_isReady at h
  refine g_iload_n F dX3_isReady_0 rfl 2 rfl ?_
  refine g_iload_n F dX3_isReady_1 rfl 1 rfl ?_
  obtain ⟨r1, hr1, h⟩ := bnd h
  refine g_cSN F [.int x2, .int x1] (ok_X8_holdsBit (gl G) (gD G) cy x2 x1 r1 hr1) dX3_isReady_2 gX3_isReady_X8_holdsBit_n48 ns_X3_isReady_X8_holdsBit (fun _ h => h.2.2.2.2.2.2.1) rfl cd_X8_holdsBit (by decide) rfl (Nat.le_of_ble_eq_true rfl) [] (by decide) rfl rfl (sg' := [(sNet cy a Nn)]) (st' := [.int r1]) rfl rfl ?_
  refine g_if_ne F 25 h dX3_isReady_5 (by decide) (fun h => ?_) (fun h => ?_)
  · refine g_iconst F (v := (0 : Int32)) dX3_isReady_25 (by decide) ?_
    obtain rfl := Option.some.inj h
    exact g_zret F Rq rfl rfl dX3_isReady_26
  · refine g_aload_n F dX3_isReady_8 rfl 0 rfl ?_
    refine g_get F (C := RX3) (T := TX3) (N := 7) (ci := 3) (v := .ref (a 4)) hi_X3_isReady_X3 0 0 3 dX3_isReady_9 rfl rfl (by decide) fl_X3_isReady_15 rfl ?_
    refine g_iload_n F dX3_isReady_12 rfl 1 rfl ?_
    refine g_iaload F h 0 2 dX3_isReady_13 rfl (fun h => ?_)
    refine g_iload_n F dX3_isReady_14 rfl 2 rfl ?_
    refine g_iconst F (v := (-1 : Int32)) dX3_isReady_15 (by decide) ?_
    refine g_ixor F dX3_isReady_16 ?_
    refine g_iand F dX3_isReady_17 ?_
    refine g_if_ne F 25 h dX3_isReady_18 (by decide) (fun h => ?_) (fun h => ?_)
    · refine g_iconst F (v := (0 : Int32)) dX3_isReady_25 (by decide) ?_
      obtain rfl := Option.some.inj h
      exact g_zret F Rq rfl rfl dX3_isReady_26
    · refine g_iconst F (v := (1 : Int32)) dX3_isReady_21 (by decide) ?_
      refine g_goto F 26 dX3_isReady_22 (by decide) ?_
      obtain rfl := Option.some.inj h
      exact g_zret F Rq rfl rfl dX3_isReady_26
theorem hi_X3_allReady_X3 : ∀ w ∈ u_ws RX3 TX3 7, w ∈ wsX3_allReady := by decide +kernel
theorem fl_X3_allReady_31 : Cond.fieldLink RX3 31 "ArcOrder$Net" "items" "I" ∈ wsX3_allReady := by decide +kernel
abbrev rm_X3_allReady : Room := { frames := 2, cells := 0, slots := 0, locals := 43 }
set_option maxHeartbeats 4000000 in
set_option maxRecDepth 100000 in
theorem k_X3_allReady_4_ok {G : GX} {cy : Nat → ClassId} (a : Nat → Nat)  (x1 : Int32) (Nn : NetS) {out : Int32} (F : Fx G cX3_allReady wsX3_allReady RX3 cy 4 (rm_X3_allReady)) (Rq : Rx G "allReady" (some .int) (some (.int out)) (fun z => z = [(sNet cy a Nn)]) 0 0) (ke : Int32 → Option (Int32)) (hke : ∀ (x2 : Int32) , ke x2 = some out → Go G 0 0 33 [(2, .int x2)] [] [(sNet cy a Nn)]) : ∀ (n : Nat) (x2 : Int32) (x3 : Int32) , k_X3_allReady_4 x1 Nn ke n x2 x3 = some out → Go G 0 0 4 [(0, .ref (a 0)), (1, .int x1), (2, .int x2), (3, .int x3)] [] [(sNet cy a Nn)] := by
  intro n
  induction n with
  | zero =>
    intro x2 x3 h
    exact nosome h
  | succ n ih =>
    intro x2 x3 h
    rw [k_X3_allReady_4.eq_2] at h
    refine g_iload_n F dX3_allReady_4 rfl 3 rfl ?_
    refine g_aload_n F dX3_allReady_5 rfl 0 rfl ?_
    refine g_get F (C := RX3) (T := TX3) (N := 7) (ci := 3) (v := .int Nn.1) hi_X3_allReady_X3 0 0 0 dX3_allReady_6 rfl rfl (by decide) fl_X3_allReady_31 rfl ?_
    refine g_icmp_ge F 33 h dX3_allReady_9 (by decide) (fun h => ?_) (fun h => ?_)
    · refine Go.sub (lv' := [(2, .int x2)]) [2] rfl ?_
      exact hke x2 h
    · refine g_aload_n F dX3_allReady_12 rfl 0 rfl ?_
      refine g_iload_n F dX3_allReady_13 rfl 3 rfl ?_
      refine g_iload_n F dX3_allReady_14 rfl 1 rfl ?_
      obtain ⟨r1, hr1, h⟩ := bnd h
      refine g_cV F [.int x3, .int x1] 0 0 (ok_X3_isReady (gl G) (gD G) cy a Nn x3 x1 r1 hr1) dX3_allReady_15 rfl rfl gX3_allReady_X3_isReady rfl ⟨rfl, cd_X3_isReady⟩ (by decide) rfl (Nat.le_of_ble_eq_true rfl) [0] (by decide) rfl rfl (sg' := [(sNet cy a Nn)]) (st' := [.int r1]) rfl rfl ?_
      refine g_if_eq F 27 h dX3_allReady_18 (by decide) (fun h => ?_) (fun h => ?_)
      · refine g_iinc F (v := (x3 + 1)) (lv' := [(3, .int (x3 + 1)), (0, .ref (a 0)), (1, .int x1), (2, .int x2)]) dX3_allReady_27 3 rfl rfl (by decide) rfl ?_
        refine g_goto F 4 dX3_allReady_30 (by decide) ?_
        refine Go.sub (lv' := [(0, .ref (a 0)), (1, .int x1), (2, .int x2), (3, .int (x3 + 1))]) [1, 2, 3, 0] rfl ?_
        exact ih x2 (x3 + 1) h
      · refine g_iload_n F dX3_allReady_21 rfl 2 rfl ?_
        refine g_iconst F (v := (1 : Int32)) dX3_allReady_22 (by decide) ?_
        refine g_iload_n F dX3_allReady_23 rfl 3 rfl ?_
        refine g_ishl F dX3_allReady_24 ?_
        refine g_ior F dX3_allReady_25 ?_
        refine g_istore_n F (lv' := [(2, .int (x2 ||| ((1 : Int32) <<< (x3 &&& 31)))), (0, .ref (a 0)), (1, .int x1), (3, .int x3)]) dX3_allReady_26 rfl (by decide) rfl ?_
        refine g_iinc F (v := (x3 + 1)) (lv' := [(3, .int (x3 + 1)), (2, .int (x2 ||| ((1 : Int32) <<< (x3 &&& 31)))), (0, .ref (a 0)), (1, .int x1)]) dX3_allReady_27 3 rfl rfl (by decide) rfl ?_
        refine g_goto F 4 dX3_allReady_30 (by decide) ?_
        refine Go.sub (lv' := [(0, .ref (a 0)), (1, .int x1), (2, .int (x2 ||| ((1 : Int32) <<< (x3 &&& 31)))), (3, .int (x3 + 1))]) [2, 3, 1, 0] rfl ?_
        exact ih (x2 ||| ((1 : Int32) <<< (x3 &&& 31))) (x3 + 1) h
set_option maxHeartbeats 4000000 in
set_option maxRecDepth 100000 in
theorem ok_X3_allReady (l : Launch) (D : va_G) (cy : Nat → ClassId) (a : Nat → Nat)  (Nn : NetS) (x1 : Int32) (out : Int32) (h : f_X3_allReady Nn x1 = some out) : OK l D cy yX3_allReady wsX3_allReady rm_X3_allReady [.ref (a 0), .int x1] [(sNet cy a Nn)] (some (.int out)) [(sNet cy a Nn)] := by
  refine OKx.of (cc := cX3_allReady) (maxL := 4) (ret := (some .int)) (by decide) rfl (Nat.le_of_ble_eq_true rfl) (fun G F Rq => ?_)
  show Go G 0 0 0 [(0, .ref (a 0)), (1, .int x1)] [] [(sNet cy a Nn)]
  replace F : Fx G cX3_allReady wsX3_allReady RX3 cy 4 (rm_X3_allReady) := F
  replace Rq : Rx G "allReady" (some .int) (some (.int out)) (fun z => z = [(sNet cy a Nn)]) 0 0 := Rq
  unfold f_X3_allReady at h
  refine g_iconst F (v := (0 : Int32)) dX3_allReady_0 (by decide) ?_
  refine g_istore_n F (lv' := [(2, .int (0 : Int32)), (0, .ref (a 0)), (1, .int x1)]) dX3_allReady_1 rfl (by decide) rfl ?_
  refine g_iconst F (v := (0 : Int32)) dX3_allReady_2 (by decide) ?_
  refine g_istore_n F (lv' := [(3, .int (0 : Int32)), (2, .int (0 : Int32)), (0, .ref (a 0)), (1, .int x1)]) dX3_allReady_3 rfl (by decide) rfl ?_
  refine Go.sub (lv' := [(0, .ref (a 0)), (1, .int x1), (2, .int (0 : Int32)), (3, .int (0 : Int32))]) [2, 3, 1, 0] rfl ?_
  refine k_X3_allReady_4_ok a x1 Nn F Rq _ (fun x2_2 h => ?_) _ (0 : Int32) (0 : Int32) h
  refine g_iload_n F dX3_allReady_33 rfl 0 rfl ?_
  obtain rfl := Option.some.inj h
  exact g_iret F Rq rfl dX3_allReady_34
theorem hi_X3_sort_X3 : ∀ w ∈ u_ws RX3 TX3 7, w ∈ wsX3_sort := by decide +kernel
theorem fl_X3_sort_31 : Cond.fieldLink RX3 31 "ArcOrder$Net" "items" "I" ∈ wsX3_sort := by decide +kernel
abbrev rm_X3_sort : Room := { frames := 2, cells := 0, slots := 0, locals := 43 }
set_option maxHeartbeats 4000000 in
set_option maxRecDepth 100000 in
theorem k_X3_sort_14_ok {G : GX} {cy : Nat → ClassId} (a : Nat → Nat)  (x2 : Int32)  {out : NetS} (F : Fx G cX3_sort wsX3_sort RX3 cy 4 (rm_X3_sort)) (Rq : Rx G "sort" none none (fun z => z = [(sNet cy a out)]) 0 0) (ke : Int32 → NetS → Option (NetS)) (hke : ∀ (x1 : Int32) (Nn : NetS), ke x1 Nn = some out → Go G 0 0 52 [(0, .ref (a 0)), (1, .int x1), (2, .int x2)] [] [(sNet cy a Nn)]) : ∀ (n : Nat) (x1 : Int32) (x3 : Int32) (Nn : NetS), k_X3_sort_14 x2 ke n x1 x3 Nn = some out → Go G 0 0 14 [(0, .ref (a 0)), (1, .int x1), (2, .int x2), (3, .int x3)] [] [(sNet cy a Nn)] := by
  intro n
  induction n with
  | zero =>
    intro x1 x3 Nn h
    exact nosome h
  | succ n ih =>
    intro x1 x3 Nn h
    rw [k_X3_sort_14.eq_2] at h
    refine g_iload_n F dX3_sort_14 rfl 3 rfl ?_
    refine g_aload_n F dX3_sort_15 rfl 0 rfl ?_
    refine g_get F (C := RX3) (T := TX3) (N := 7) (ci := 3) (v := .int Nn.1) hi_X3_sort_X3 0 0 0 dX3_sort_16 rfl rfl (by decide) fl_X3_sort_31 rfl ?_
    refine g_icmp_ge F 52 h dX3_sort_19 (by decide) (fun h => ?_) (fun h => ?_)
    · refine Go.sub (lv' := [(0, .ref (a 0)), (1, .int x1), (2, .int x2)]) [0, 1, 2] rfl ?_
      exact hke x1 Nn h
    · refine g_aload_n F dX3_sort_22 rfl 0 rfl ?_
      refine g_iload_n F dX3_sort_23 rfl 3 rfl ?_
      refine g_iload_n F dX3_sort_24 rfl 1 rfl ?_
      obtain ⟨r1, hr1, h⟩ := bnd h
      refine g_cV F [.int x3, .int x1] 0 0 (ok_X3_isReady (gl G) (gD G) cy a Nn x3 x1 r1 hr1) dX3_sort_25 rfl rfl gX3_sort_X3_isReady rfl ⟨rfl, cd_X3_isReady⟩ (by decide) rfl (Nat.le_of_ble_eq_true rfl) [0] (by decide) rfl rfl (sg' := [(sNet cy a Nn)]) (st' := [.int r1]) rfl rfl ?_
      refine g_if_eq F 46 h dX3_sort_28 (by decide) (fun h => ?_) (fun h => ?_)
      · refine g_iinc F (v := (x3 + 1)) (lv' := [(3, .int (x3 + 1)), (0, .ref (a 0)), (1, .int x1), (2, .int x2)]) dX3_sort_46 3 rfl rfl (by decide) rfl ?_
        refine g_goto F 14 dX3_sort_49 (by decide) ?_
        refine Go.sub (lv' := [(0, .ref (a 0)), (1, .int x1), (2, .int x2), (3, .int (x3 + 1))]) [1, 2, 3, 0] rfl ?_
        exact ih x1 (x3 + 1) Nn h
      · refine g_aload_n F dX3_sort_31 rfl 0 rfl ?_
        refine g_iload_n F dX3_sort_32 rfl 3 rfl ?_
        refine g_iload_n F dX3_sort_33 rfl 2 rfl ?_
        obtain ⟨r2, hr2, h⟩ := bnd h
        refine g_cV F [.int x3, .int x2] 0 0 (ok_X3_stand (gl G) (gD G) cy a Nn x3 x2 r2 hr2) dX3_sort_34 rfl rfl gX3_sort_X3_stand rfl ⟨rfl, cd_X3_stand⟩ (by decide) rfl (Nat.le_of_ble_eq_true rfl) [0] (by decide) rfl rfl (sg' := [(sNet cy a r2)]) (st' := []) rfl rfl ?_
        refine g_iload_n F dX3_sort_37 rfl 1 rfl ?_
        refine g_iconst F (v := (1 : Int32)) dX3_sort_38 (by decide) ?_
        refine g_iload_n F dX3_sort_39 rfl 3 rfl ?_
        refine g_ishl F dX3_sort_40 ?_
        refine g_ior F dX3_sort_41 ?_
        refine g_istore_n F (lv' := [(1, .int (x1 ||| ((1 : Int32) <<< (x3 &&& 31)))), (0, .ref (a 0)), (2, .int x2), (3, .int x3)]) dX3_sort_42 rfl (by decide) rfl ?_
        refine g_goto F 52 dX3_sort_43 (by decide) ?_
        refine Go.sub (lv' := [(0, .ref (a 0)), (1, .int (x1 ||| ((1 : Int32) <<< (x3 &&& 31)))), (2, .int x2)]) [1, 0, 2] rfl ?_
        exact hke (x1 ||| ((1 : Int32) <<< (x3 &&& 31))) r2 h
set_option maxHeartbeats 4000000 in
set_option maxRecDepth 100000 in
theorem k_X3_sort_4_ok {G : GX} {cy : Nat → ClassId} (a : Nat → Nat)    {out : NetS} (F : Fx G cX3_sort wsX3_sort RX3 cy 4 (rm_X3_sort)) (Rq : Rx G "sort" none none (fun z => z = [(sNet cy a out)]) 0 0) (ke : NetS → Option (NetS)) (hke : ∀  (Nn : NetS), ke Nn = some out → Go G 0 0 58 [] [] [(sNet cy a Nn)]) : ∀ (n : Nat) (x1 : Int32) (x2 : Int32) (Nn : NetS), k_X3_sort_4 ke n x1 x2 Nn = some out → Go G 0 0 4 [(0, .ref (a 0)), (1, .int x1), (2, .int x2)] [] [(sNet cy a Nn)] := by
  intro n
  induction n with
  | zero =>
    intro x1 x2 Nn h
    exact nosome h
  | succ n ih =>
    intro x1 x2 Nn h
    rw [k_X3_sort_4.eq_2] at h
    refine g_iload_n F dX3_sort_4 rfl 2 rfl ?_
    refine g_aload_n F dX3_sort_5 rfl 0 rfl ?_
    refine g_get F (C := RX3) (T := TX3) (N := 7) (ci := 3) (v := .int Nn.1) hi_X3_sort_X3 0 0 0 dX3_sort_6 rfl rfl (by decide) fl_X3_sort_31 rfl ?_
    refine g_icmp_ge F 58 h dX3_sort_9 (by decide) (fun h => ?_) (fun h => ?_)
    · refine Go.sub (lv' := []) [] rfl ?_
      exact hke Nn h
    · refine g_iconst F (v := (0 : Int32)) dX3_sort_12 (by decide) ?_
      refine g_istore_n F (lv' := [(3, .int (0 : Int32)), (0, .ref (a 0)), (1, .int x1), (2, .int x2)]) dX3_sort_13 rfl (by decide) rfl ?_
      refine Go.sub (lv' := [(0, .ref (a 0)), (1, .int x1), (2, .int x2), (3, .int (0 : Int32))]) [1, 2, 3, 0] rfl ?_
      refine k_X3_sort_14_ok a x2 F Rq _ (fun x1_3 Nn_3 h => ?_) _ x1 (0 : Int32) Nn h
      refine g_iinc F (v := (x2 + 1)) (lv' := [(2, .int (x2 + 1)), (0, .ref (a 0)), (1, .int x1_3)]) dX3_sort_52 2 rfl rfl (by decide) rfl ?_
      refine g_goto F 4 dX3_sort_55 (by decide) ?_
      refine Go.sub (lv' := [(0, .ref (a 0)), (1, .int x1_3), (2, .int (x2 + 1))]) [1, 2, 0] rfl ?_
      exact ih x1_3 (x2 + 1) Nn_3 h
set_option maxHeartbeats 4000000 in
set_option maxRecDepth 100000 in
theorem ok_X3_sort (l : Launch) (D : va_G) (cy : Nat → ClassId) (a : Nat → Nat)  (Nn : NetS)  (out : NetS) (h : f_X3_sort Nn = some out) : OK l D cy yX3_sort wsX3_sort rm_X3_sort [.ref (a 0)] [(sNet cy a Nn)] none [(sNet cy a out)] := by
  refine OKx.of (cc := cX3_sort) (maxL := 4) (ret := none) (by decide) rfl (Nat.le_of_ble_eq_true rfl) (fun G F Rq => ?_)
  show Go G 0 0 0 [(0, .ref (a 0))] [] [(sNet cy a Nn)]
  replace F : Fx G cX3_sort wsX3_sort RX3 cy 4 (rm_X3_sort) := F
  replace Rq : Rx G "sort" none none (fun z => z = [(sNet cy a out)]) 0 0 := Rq
  unfold f_X3_sort at h
  refine g_iconst F (v := (0 : Int32)) dX3_sort_0 (by decide) ?_
  refine g_istore_n F (lv' := [(1, .int (0 : Int32)), (0, .ref (a 0))]) dX3_sort_1 rfl (by decide) rfl ?_
  refine g_iconst F (v := (0 : Int32)) dX3_sort_2 (by decide) ?_
  refine g_istore_n F (lv' := [(2, .int (0 : Int32)), (1, .int (0 : Int32)), (0, .ref (a 0))]) dX3_sort_3 rfl (by decide) rfl ?_
  refine Go.sub (lv' := [(0, .ref (a 0)), (1, .int (0 : Int32)), (2, .int (0 : Int32))]) [2, 1, 0] rfl ?_
  refine k_X3_sort_4_ok a  F Rq _ (fun Nn_4 h => ?_) _ (0 : Int32) (0 : Int32) Nn h
  obtain rfl := Option.some.inj h
  exact g_vret F Rq rfl dX3_sort_58
theorem hi_X3_longestChain_X3 : ∀ w ∈ u_ws RX3 TX3 7, w ∈ wsX3_longestChain := by decide +kernel
theorem fl_X3_longestChain_31 : Cond.fieldLink RX3 31 "ArcOrder$Net" "items" "I" ∈ wsX3_longestChain := by decide +kernel
abbrev rm_X3_longestChain : Room := { frames := 3, cells := 0, slots := 0, locals := 66 }
set_option maxHeartbeats 4000000 in
set_option maxRecDepth 100000 in
theorem k_X3_longestChain_6_ok {G : GX} {cy : Nat → ClassId} (a : Nat → Nat)   (Nn : NetS) {out : Int32} (F : Fx G cX3_longestChain wsX3_longestChain RX3 cy 4 (rm_X3_longestChain)) (Rq : Rx G "longestChain" (some .int) (some (.int out)) (fun z => z = [(sNet cy a Nn)]) 0 0) (ke : Int32 → Option (Int32)) (hke : ∀ (x2 : Int32) , ke x2 = some out → Go G 0 0 39 [(2, .int x2)] [] [(sNet cy a Nn)]) : ∀ (n : Nat) (x1 : Int32) (x2 : Int32) (x3 : Int32) , k_X3_longestChain_6 Nn ke n x1 x2 x3 = some out → Go G 0 0 6 [(0, .ref (a 0)), (1, .int x1), (2, .int x2), (3, .int x3)] [] [(sNet cy a Nn)] := by
  intro n
  induction n with
  | zero =>
    intro x1 x2 x3 h
    exact nosome h
  | succ n ih =>
    intro x1 x2 x3 h
    rw [k_X3_longestChain_6.eq_2] at h
    refine g_iload_n F dX3_longestChain_6 rfl 3 rfl ?_
    refine g_aload_n F dX3_longestChain_7 rfl 0 rfl ?_
    refine g_get F (C := RX3) (T := TX3) (N := 7) (ci := 3) (v := .int Nn.1) hi_X3_longestChain_X3 0 0 0 dX3_longestChain_8 rfl rfl (by decide) fl_X3_longestChain_31 rfl ?_
    refine g_icmp_ge F 39 h dX3_longestChain_11 (by decide) (fun h => ?_) (fun h => ?_)
    · refine Go.sub (lv' := [(2, .int x2)]) [2] rfl ?_
      exact hke x2 h
    · refine g_iload_n F dX3_longestChain_14 rfl 1 rfl ?_
      refine g_aload_n F dX3_longestChain_15 rfl 0 rfl ?_
      obtain ⟨r1, hr1, h⟩ := bnd h
      refine g_cV F [] 0 0 (ok_X3_everyItem (gl G) (gD G) cy a Nn r1 hr1) dX3_longestChain_16 rfl rfl gX3_longestChain_X3_everyItem rfl ⟨rfl, cd_X3_everyItem⟩ (by decide) rfl (Nat.le_of_ble_eq_true rfl) [0] (by decide) rfl rfl (sg' := [(sNet cy a Nn)]) (st' := [.int r1, .int x1]) rfl rfl ?_
      refine g_icmp_eq F 39 h dX3_longestChain_19 (by decide) (fun h => ?_) (fun h => ?_)
      · refine Go.sub (lv' := [(2, .int x2)]) [2] rfl ?_
        exact hke x2 h
      · refine g_iload_n F dX3_longestChain_22 rfl 1 rfl ?_
        refine g_aload_n F dX3_longestChain_23 rfl 0 rfl ?_
        refine g_iload_n F dX3_longestChain_24 rfl 1 rfl ?_
        obtain ⟨r2, hr2, h⟩ := bnd h
        refine g_cV F [.int x1] 0 0 (ok_X3_allReady (gl G) (gD G) cy a Nn x1 r2 hr2) dX3_longestChain_25 rfl rfl gX3_longestChain_X3_allReady rfl ⟨rfl, cd_X3_allReady⟩ (by decide) rfl (Nat.le_of_ble_eq_true rfl) [0] (by decide) rfl rfl (sg' := [(sNet cy a Nn)]) (st' := [.int r2, .int x1]) rfl rfl ?_
        refine g_ior F dX3_longestChain_28 ?_
        refine g_istore_n F (lv' := [(1, .int (x1 ||| r2)), (0, .ref (a 0)), (2, .int x2), (3, .int x3)]) dX3_longestChain_29 rfl (by decide) rfl ?_
        refine g_iinc F (v := (x2 + 1)) (lv' := [(2, .int (x2 + 1)), (1, .int (x1 ||| r2)), (0, .ref (a 0)), (3, .int x3)]) dX3_longestChain_30 2 rfl rfl (by decide) rfl ?_
        refine g_iinc F (v := (x3 + 1)) (lv' := [(3, .int (x3 + 1)), (2, .int (x2 + 1)), (1, .int (x1 ||| r2)), (0, .ref (a 0))]) dX3_longestChain_33 3 rfl rfl (by decide) rfl ?_
        refine g_goto F 6 dX3_longestChain_36 (by decide) ?_
        refine Go.sub (lv' := [(0, .ref (a 0)), (1, .int (x1 ||| r2)), (2, .int (x2 + 1)), (3, .int (x3 + 1))]) [3, 2, 1, 0] rfl ?_
        exact ih (x1 ||| r2) (x2 + 1) (x3 + 1) h
set_option maxHeartbeats 4000000 in
set_option maxRecDepth 100000 in
theorem ok_X3_longestChain (l : Launch) (D : va_G) (cy : Nat → ClassId) (a : Nat → Nat)  (Nn : NetS)  (out : Int32) (h : f_X3_longestChain Nn = some out) : OK l D cy yX3_longestChain wsX3_longestChain rm_X3_longestChain [.ref (a 0)] [(sNet cy a Nn)] (some (.int out)) [(sNet cy a Nn)] := by
  refine OKx.of (cc := cX3_longestChain) (maxL := 4) (ret := (some .int)) (by decide) rfl (Nat.le_of_ble_eq_true rfl) (fun G F Rq => ?_)
  show Go G 0 0 0 [(0, .ref (a 0))] [] [(sNet cy a Nn)]
  replace F : Fx G cX3_longestChain wsX3_longestChain RX3 cy 4 (rm_X3_longestChain) := F
  replace Rq : Rx G "longestChain" (some .int) (some (.int out)) (fun z => z = [(sNet cy a Nn)]) 0 0 := Rq
  unfold f_X3_longestChain at h
  refine g_iconst F (v := (0 : Int32)) dX3_longestChain_0 (by decide) ?_
  refine g_istore_n F (lv' := [(1, .int (0 : Int32)), (0, .ref (a 0))]) dX3_longestChain_1 rfl (by decide) rfl ?_
  refine g_iconst F (v := (0 : Int32)) dX3_longestChain_2 (by decide) ?_
  refine g_istore_n F (lv' := [(2, .int (0 : Int32)), (1, .int (0 : Int32)), (0, .ref (a 0))]) dX3_longestChain_3 rfl (by decide) rfl ?_
  refine g_iconst F (v := (0 : Int32)) dX3_longestChain_4 (by decide) ?_
  refine g_istore_n F (lv' := [(3, .int (0 : Int32)), (2, .int (0 : Int32)), (1, .int (0 : Int32)), (0, .ref (a 0))]) dX3_longestChain_5 rfl (by decide) rfl ?_
  refine Go.sub (lv' := [(0, .ref (a 0)), (1, .int (0 : Int32)), (2, .int (0 : Int32)), (3, .int (0 : Int32))]) [3, 2, 1, 0] rfl ?_
  refine k_X3_longestChain_6_ok a Nn F Rq _ (fun x2_3 h => ?_) _ (0 : Int32) (0 : Int32) (0 : Int32) h
  refine g_iload_n F dX3_longestChain_39 rfl 0 rfl ?_
  obtain rfl := Option.some.inj h
  exact g_iret F Rq rfl dX3_longestChain_40
theorem hi_X3_placesUnlike_X3 : ∀ w ∈ u_ws RX3 TX3 7, w ∈ wsX3_placesUnlike := by decide +kernel
theorem fl_X3_placesUnlike_31 : Cond.fieldLink RX3 31 "ArcOrder$Net" "items" "I" ∈ wsX3_placesUnlike := by decide +kernel
theorem fl_X3_placesUnlike_21 : Cond.fieldLink RX3 21 "ArcOrder$Net" "place" "[I" ∈ wsX3_placesUnlike := by decide +kernel
abbrev rm_X3_placesUnlike : Room := { frames := 0, cells := 0, slots := 0, locals := 0 }
set_option maxHeartbeats 4000000 in
set_option maxRecDepth 100000 in
theorem k_X3_placesUnlike_4_ok {G : GX} {cy : Nat → ClassId} (a : Nat → Nat) (a1 : Nat → Nat)   (Nn : NetS) (N1 : NetS) {out : Int32} (F : Fx G cX3_placesUnlike wsX3_placesUnlike RX3 cy 4 (rm_X3_placesUnlike)) (Rq : Rx G "placesUnlike" (some .int) (some (.int out)) (fun z => z = [(sNet cy a Nn), (sNet cy a1 N1)]) 0 0) (ke : Int32 → Option (Int32)) (hke : ∀ (x2 : Int32) , ke x2 = some out → Go G 0 0 36 [(2, .int x2)] [] [(sNet cy a Nn), (sNet cy a1 N1)]) : ∀ (n : Nat) (x2 : Int32) (x3 : Int32) , k_X3_placesUnlike_4 Nn N1 ke n x2 x3 = some out → Go G 0 0 4 [(0, .ref (a 0)), (1, .ref (a1 0)), (2, .int x2), (3, .int x3)] [] [(sNet cy a Nn), (sNet cy a1 N1)] := by
  intro n
  induction n with
  | zero =>
    intro x2 x3 h
    exact nosome h
  | succ n ih =>
    intro x2 x3 h
    rw [k_X3_placesUnlike_4.eq_2] at h
    refine g_iload_n F dX3_placesUnlike_4 rfl 3 rfl ?_
    refine g_aload_n F dX3_placesUnlike_5 rfl 0 rfl ?_
    refine g_get F (C := RX3) (T := TX3) (N := 7) (ci := 3) (v := .int Nn.1) hi_X3_placesUnlike_X3 0 0 0 dX3_placesUnlike_6 rfl rfl (by decide) fl_X3_placesUnlike_31 rfl ?_
    refine g_icmp_ge F 36 h dX3_placesUnlike_9 (by decide) (fun h => ?_) (fun h => ?_)
    · refine Go.sub (lv' := [(2, .int x2)]) [2] rfl ?_
      exact hke x2 h
    · refine g_aload_n F dX3_placesUnlike_12 rfl 0 rfl ?_
      refine g_get F (C := RX3) (T := TX3) (N := 7) (ci := 3) (v := .ref (a 6)) hi_X3_placesUnlike_X3 0 0 5 dX3_placesUnlike_13 rfl rfl (by decide) fl_X3_placesUnlike_21 rfl ?_
      refine g_iload_n F dX3_placesUnlike_16 rfl 3 rfl ?_
      refine g_iaload F h 0 4 dX3_placesUnlike_17 rfl (fun h => ?_)
      refine g_aload_n F dX3_placesUnlike_18 rfl 1 rfl ?_
      refine g_get F (C := RX3) (T := TX3) (N := 7) (ci := 3) (v := .ref (a1 6)) hi_X3_placesUnlike_X3 1 0 5 dX3_placesUnlike_19 rfl rfl (by decide) fl_X3_placesUnlike_21 rfl ?_
      refine g_iload_n F dX3_placesUnlike_22 rfl 3 rfl ?_
      refine g_iaload F h 1 4 dX3_placesUnlike_23 rfl (fun h => ?_)
      refine g_icmp_eq F 30 h dX3_placesUnlike_24 (by decide) (fun h => ?_) (fun h => ?_)
      · refine g_iinc F (v := (x3 + 1)) (lv' := [(3, .int (x3 + 1)), (0, .ref (a 0)), (1, .ref (a1 0)), (2, .int x2)]) dX3_placesUnlike_30 3 rfl rfl (by decide) rfl ?_
        refine g_goto F 4 dX3_placesUnlike_33 (by decide) ?_
        refine Go.sub (lv' := [(0, .ref (a 0)), (1, .ref (a1 0)), (2, .int x2), (3, .int (x3 + 1))]) [1, 2, 3, 0] rfl ?_
        exact ih x2 (x3 + 1) h
      · refine g_iinc F (v := (x2 + 1)) (lv' := [(2, .int (x2 + 1)), (0, .ref (a 0)), (1, .ref (a1 0)), (3, .int x3)]) dX3_placesUnlike_27 2 rfl rfl (by decide) rfl ?_
        refine g_iinc F (v := (x3 + 1)) (lv' := [(3, .int (x3 + 1)), (2, .int (x2 + 1)), (0, .ref (a 0)), (1, .ref (a1 0))]) dX3_placesUnlike_30 3 rfl rfl (by decide) rfl ?_
        refine g_goto F 4 dX3_placesUnlike_33 (by decide) ?_
        refine Go.sub (lv' := [(0, .ref (a 0)), (1, .ref (a1 0)), (2, .int (x2 + 1)), (3, .int (x3 + 1))]) [2, 3, 1, 0] rfl ?_
        exact ih (x2 + 1) (x3 + 1) h
set_option maxHeartbeats 4000000 in
set_option maxRecDepth 100000 in
theorem ok_X3_placesUnlike (l : Launch) (D : va_G) (cy : Nat → ClassId) (a : Nat → Nat) (a1 : Nat → Nat)  (Nn : NetS) (N1 : NetS)  (out : Int32) (h : f_X3_placesUnlike Nn N1 = some out) : OK l D cy yX3_placesUnlike wsX3_placesUnlike rm_X3_placesUnlike [.ref (a 0), .ref (a1 0)] [(sNet cy a Nn), (sNet cy a1 N1)] (some (.int out)) [(sNet cy a Nn), (sNet cy a1 N1)] := by
  refine OKx.of (cc := cX3_placesUnlike) (maxL := 4) (ret := (some .int)) (by decide) rfl (Nat.le_of_ble_eq_true rfl) (fun G F Rq => ?_)
  show Go G 0 0 0 [(0, .ref (a 0)), (1, .ref (a1 0))] [] [(sNet cy a Nn), (sNet cy a1 N1)]
  replace F : Fx G cX3_placesUnlike wsX3_placesUnlike RX3 cy 4 (rm_X3_placesUnlike) := F
  replace Rq : Rx G "placesUnlike" (some .int) (some (.int out)) (fun z => z = [(sNet cy a Nn), (sNet cy a1 N1)]) 0 0 := Rq
  unfold f_X3_placesUnlike at h
  refine g_iconst F (v := (0 : Int32)) dX3_placesUnlike_0 (by decide) ?_
  refine g_istore_n F (lv' := [(2, .int (0 : Int32)), (0, .ref (a 0)), (1, .ref (a1 0))]) dX3_placesUnlike_1 rfl (by decide) rfl ?_
  refine g_iconst F (v := (0 : Int32)) dX3_placesUnlike_2 (by decide) ?_
  refine g_istore_n F (lv' := [(3, .int (0 : Int32)), (2, .int (0 : Int32)), (0, .ref (a 0)), (1, .ref (a1 0))]) dX3_placesUnlike_3 rfl (by decide) rfl ?_
  refine Go.sub (lv' := [(0, .ref (a 0)), (1, .ref (a1 0)), (2, .int (0 : Int32)), (3, .int (0 : Int32))]) [2, 3, 1, 0] rfl ?_
  refine k_X3_placesUnlike_4_ok a a1 Nn N1 F Rq _ (fun x2_1 h => ?_) _ (0 : Int32) (0 : Int32) h
  refine g_iload_n F dX3_placesUnlike_36 rfl 0 rfl ?_
  obtain rfl := Option.some.inj h
  exact g_iret F Rq rfl dX3_placesUnlike_37
theorem hi_X3_hasArcsOf_X3 : ∀ w ∈ u_ws RX3 TX3 7, w ∈ wsX3_hasArcsOf := by decide +kernel
theorem fl_X3_hasArcsOf_31 : Cond.fieldLink RX3 31 "ArcOrder$Net" "items" "I" ∈ wsX3_hasArcsOf := by decide +kernel
theorem fl_X3_hasArcsOf_9 : Cond.fieldLink RX3 9 "ArcOrder$Net" "out" "[I" ∈ wsX3_hasArcsOf := by decide +kernel
abbrev rm_X3_hasArcsOf : Room := { frames := 0, cells := 0, slots := 0, locals := 0 }
set_option maxHeartbeats 4000000 in
set_option maxRecDepth 100000 in
theorem k_X3_hasArcsOf_15_ok {G : GX} {cy : Nat → ClassId} (a : Nat → Nat) (a1 : Nat → Nat)   (Nn : NetS) (N1 : NetS) {out : Int32} (F : Fx G cX3_hasArcsOf wsX3_hasArcsOf RX3 cy 3 (rm_X3_hasArcsOf)) (Rq : Rx G "hasArcsOf" (some .boolean) (some (.int out)) (fun z => z = [(sNet cy a Nn), (sNet cy a1 N1)]) 0 0) (ke : Option (Int32)) (hke : ke = some out → Go G 0 0 46 [] [] [(sNet cy a Nn), (sNet cy a1 N1)]) : ∀ (n : Nat) (x2 : Int32) , k_X3_hasArcsOf_15 Nn N1 ke n x2 = some out → Go G 0 0 15 [(0, .ref (a 0)), (1, .ref (a1 0)), (2, .int x2)] [] [(sNet cy a Nn), (sNet cy a1 N1)] := by
  intro n
  induction n with
  | zero =>
    intro x2 h
    exact nosome h
  | succ n ih =>
    intro x2 h
    rw [k_X3_hasArcsOf_15.eq_2] at h
    refine g_iload_n F dX3_hasArcsOf_15 rfl 2 rfl ?_
    refine g_aload_n F dX3_hasArcsOf_16 rfl 0 rfl ?_
    refine g_get F (C := RX3) (T := TX3) (N := 7) (ci := 3) (v := .int Nn.1) hi_X3_hasArcsOf_X3 0 0 0 dX3_hasArcsOf_17 rfl rfl (by decide) fl_X3_hasArcsOf_31 rfl ?_
    refine g_icmp_ge F 46 h dX3_hasArcsOf_20 (by decide) (fun h => ?_) (fun h => ?_)
    · refine Go.sub (lv' := []) [] rfl ?_
      exact hke  h
    · refine g_aload_n F dX3_hasArcsOf_23 rfl 0 rfl ?_
      refine g_get F (C := RX3) (T := TX3) (N := 7) (ci := 3) (v := .ref (a 3)) hi_X3_hasArcsOf_X3 0 0 2 dX3_hasArcsOf_24 rfl rfl (by decide) fl_X3_hasArcsOf_9 rfl ?_
      refine g_iload_n F dX3_hasArcsOf_27 rfl 2 rfl ?_
      refine g_iaload F h 0 1 dX3_hasArcsOf_28 rfl (fun h => ?_)
      refine g_aload_n F dX3_hasArcsOf_29 rfl 1 rfl ?_
      refine g_get F (C := RX3) (T := TX3) (N := 7) (ci := 3) (v := .ref (a1 3)) hi_X3_hasArcsOf_X3 1 0 2 dX3_hasArcsOf_30 rfl rfl (by decide) fl_X3_hasArcsOf_9 rfl ?_
      refine g_iload_n F dX3_hasArcsOf_33 rfl 2 rfl ?_
      refine g_iaload F h 1 1 dX3_hasArcsOf_34 rfl (fun h => ?_)
      refine g_icmp_eq F 40 h dX3_hasArcsOf_35 (by decide) (fun h => ?_) (fun h => ?_)
      · refine g_iinc F (v := (x2 + 1)) (lv' := [(2, .int (x2 + 1)), (0, .ref (a 0)), (1, .ref (a1 0))]) dX3_hasArcsOf_40 2 rfl rfl (by decide) rfl ?_
        refine g_goto F 15 dX3_hasArcsOf_43 (by decide) ?_
        refine Go.sub (lv' := [(0, .ref (a 0)), (1, .ref (a1 0)), (2, .int (x2 + 1))]) [1, 2, 0] rfl ?_
        exact ih (x2 + 1) h
      · refine g_iconst F (v := (0 : Int32)) dX3_hasArcsOf_38 (by decide) ?_
        obtain rfl := Option.some.inj h
        exact g_zret F Rq rfl rfl dX3_hasArcsOf_39
set_option maxHeartbeats 4000000 in
set_option maxRecDepth 100000 in
theorem ok_X3_hasArcsOf (l : Launch) (D : va_G) (cy : Nat → ClassId) (a : Nat → Nat) (a1 : Nat → Nat)  (Nn : NetS) (N1 : NetS)  (out : Int32) (h : f_X3_hasArcsOf Nn N1 = some out) : OK l D cy yX3_hasArcsOf wsX3_hasArcsOf rm_X3_hasArcsOf [.ref (a 0), .ref (a1 0)] [(sNet cy a Nn), (sNet cy a1 N1)] (some (.int out)) [(sNet cy a Nn), (sNet cy a1 N1)] := by
  refine OKx.of (cc := cX3_hasArcsOf) (maxL := 3) (ret := (some .boolean)) (by decide) rfl (Nat.le_of_ble_eq_true rfl) (fun G F Rq => ?_)
  show Go G 0 0 0 [(0, .ref (a 0)), (1, .ref (a1 0))] [] [(sNet cy a Nn), (sNet cy a1 N1)]
  replace F : Fx G cX3_hasArcsOf wsX3_hasArcsOf RX3 cy 3 (rm_X3_hasArcsOf) := F
  replace Rq : Rx G "hasArcsOf" (some .boolean) (some (.int out)) (fun z => z = [(sNet cy a Nn), (sNet cy a1 N1)]) 0 0 := Rq
  unfold f_X3_hasArcsOf at h
  refine g_aload_n F dX3_hasArcsOf_0 rfl 0 rfl ?_
  refine g_get F (C := RX3) (T := TX3) (N := 7) (ci := 3) (v := .int Nn.1) hi_X3_hasArcsOf_X3 0 0 0 dX3_hasArcsOf_1 rfl rfl (by decide) fl_X3_hasArcsOf_31 rfl ?_
  refine g_aload_n F dX3_hasArcsOf_4 rfl 1 rfl ?_
  refine g_get F (C := RX3) (T := TX3) (N := 7) (ci := 3) (v := .int N1.1) hi_X3_hasArcsOf_X3 1 0 0 dX3_hasArcsOf_5 rfl rfl (by decide) fl_X3_hasArcsOf_31 rfl ?_
  refine g_icmp_eq F 13 h dX3_hasArcsOf_8 (by decide) (fun h => ?_) (fun h => ?_)
  · refine g_iconst F (v := (0 : Int32)) dX3_hasArcsOf_13 (by decide) ?_
    refine g_istore_n F (lv' := [(2, .int (0 : Int32)), (0, .ref (a 0)), (1, .ref (a1 0))]) dX3_hasArcsOf_14 rfl (by decide) rfl ?_
    refine Go.sub (lv' := [(0, .ref (a 0)), (1, .ref (a1 0)), (2, .int (0 : Int32))]) [1, 2, 0] rfl ?_
    refine k_X3_hasArcsOf_15_ok a a1 Nn N1 F Rq _ (fun  h => ?_) _ (0 : Int32) h
    refine g_iconst F (v := (1 : Int32)) dX3_hasArcsOf_46 (by decide) ?_
    obtain rfl := Option.some.inj h
    exact g_zret F Rq rfl rfl dX3_hasArcsOf_47
  · refine g_iconst F (v := (0 : Int32)) dX3_hasArcsOf_11 (by decide) ?_
    obtain rfl := Option.some.inj h
    exact g_zret F Rq rfl rfl dX3_hasArcsOf_12
