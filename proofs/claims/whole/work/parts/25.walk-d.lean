theorem hi_X8_type_X8 : ∀ w ∈ u_ws RX8 TX8 11, w ∈ wsX8_type := by decide +kernel
theorem fl_X8_type_22 : Cond.fieldLink RX8 22 "ArcOrder" "text" "LArcOrder$Text;" ∈ wsX8_type := by decide +kernel
theorem hi_X8_type_X7 : ∀ w ∈ u_ws RX7 TX7 6, w ∈ wsX8_type := by decide +kernel
theorem fl_X8_type_80 : Cond.fieldLink RX8 80 "ArcOrder$Text" "length" "I" ∈ wsX8_type := by decide +kernel
abbrev rm_X8_type : Room := { frames := 1, cells := 0, slots := 0, locals := 21 }
set_option maxHeartbeats 4000000 in
set_option maxRecDepth 100000 in
theorem ok_X8_type (l : Launch) (D : va_G) (cy : Nat → ClassId) (ao : Nat → Nat)  (Tt : TxtS) (x1 : Int32) (out : Int32 × TxtS) (h : f_X8_type Tt x1 = some out) : OK l D cy yX8_type wsX8_type rm_X8_type [.ref (ao 0), .int x1] [(sAO ao), (sTxt cy (fun k => ao (30000 + k)) Tt)] (some (.int out.1)) [(sAO ao), (sTxt cy (fun k => ao (30000 + k)) out.2)] := by
  refine OKx.of (cc := cX8_type) (maxL := 2) (ret := (some .int)) (by decide) rfl (Nat.le_of_ble_eq_true rfl) (fun G F Rq => ?_)
  show Go G 0 0 0 [(0, .ref (ao 0)), (1, .int x1)] [] [(sAO ao), (sTxt cy (fun k => ao (30000 + k)) Tt)]
  replace F : Fx G cX8_type wsX8_type RX8 cy 2 (rm_X8_type) := F
  replace Rq : Rx G "type" (some .int) (some (.int out.1)) (fun z => z = [(sAO ao), (sTxt cy (fun k => ao (30000 + k)) out.2)]) 0 0 := Rq
  unfold f_X8_type at h
  refine g_iload_n F dX8_type_0 rfl 1 rfl ?_
  refine g_if_lt F 11 h dX8_type_1 (by decide) (fun h => ?_) (fun h => ?_)
  · refine g_iconst F (v := (-1 : Int32)) dX8_type_11 (by decide) ?_
    obtain rfl := Option.some.inj h
    exact g_iret F Rq rfl dX8_type_12
  · refine g_iload_n F dX8_type_4 rfl 1 rfl ?_
    refine g_sipush F (v := (255 : Int32)) dX8_type_5 (by decide) ?_
    refine g_icmp_le F 13 h dX8_type_8 (by decide) (fun h => ?_) (fun h => ?_)
    · refine g_aload_n F dX8_type_13 rfl 0 rfl ?_
      refine g_get F (C := RX8) (T := TX8) (N := 11) (ci := 8) (v := .ref (ao 30000)) hi_X8_type_X8 0 0 2 dX8_type_14 rfl rfl (by decide) fl_X8_type_22 rfl ?_
      refine g_iload_n F dX8_type_17 rfl 1 rfl ?_
      obtain ⟨r1, hr1, h⟩ := bnd h
      refine g_cV F [.int x1] 0 0 (ok_X7_append (gl G) (gD G) cy (fun k => ao (30000 + k)) Tt x1 r1 hr1) dX8_type_18 rfl rfl gX8_type_X7_append rfl ⟨rfl, cd_X7_append⟩ (by decide) rfl (Nat.le_of_ble_eq_true rfl) [1] (by decide) rfl rfl (sg' := [(sAO ao), (sTxt cy (fun k => ao (30000 + k)) r1.2)]) (st' := [.int r1.1]) rfl rfl ?_
      refine g_if_eq F 34 h dX8_type_21 (by decide) (fun h => ?_) (fun h => ?_)
      · refine g_bipush F (v := (-3 : Int32)) dX8_type_34 (by decide) ?_
        obtain rfl := Option.some.inj h
        exact g_iret F Rq rfl dX8_type_36
      · refine g_aload_n F dX8_type_24 rfl 0 rfl ?_
        refine g_get F (C := RX8) (T := TX8) (N := 11) (ci := 8) (v := .ref (ao 30000)) hi_X8_type_X8 0 0 2 dX8_type_25 rfl rfl (by decide) fl_X8_type_22 rfl ?_
        refine g_get F (C := RX7) (T := TX7) (N := 6) (ci := 7) (v := .int (r1.2.1 0)) hi_X8_type_X7 1 0 0 dX8_type_28 rfl rfl (by decide) fl_X8_type_80 rfl ?_
        refine g_goto F 36 dX8_type_31 (by decide) ?_
        obtain rfl := Option.some.inj h
        exact g_iret F Rq rfl dX8_type_36
    · refine g_iconst F (v := (-1 : Int32)) dX8_type_11 (by decide) ?_
      obtain rfl := Option.some.inj h
      exact g_iret F Rq rfl dX8_type_12
theorem hi_X8_clear_X8 : ∀ w ∈ u_ws RX8 TX8 11, w ∈ wsX8_clear := by decide +kernel
theorem fl_X8_clear_22 : Cond.fieldLink RX8 22 "ArcOrder" "text" "LArcOrder$Text;" ∈ wsX8_clear := by decide +kernel
theorem hi_X8_clear_X7 : ∀ w ∈ u_ws RX7 TX7 6, w ∈ wsX8_clear := by decide +kernel
theorem fl_X8_clear_80 : Cond.fieldLink RX8 80 "ArcOrder$Text" "length" "I" ∈ wsX8_clear := by decide +kernel
abbrev rm_X8_clear : Room := { frames := 0, cells := 0, slots := 0, locals := 0 }
set_option maxHeartbeats 4000000 in
set_option maxRecDepth 100000 in
theorem ok_X8_clear (l : Launch) (D : va_G) (cy : Nat → ClassId) (ao : Nat → Nat)  (Tt : TxtS)  (out : Int32 × TxtS) (h : f_X8_clear Tt = some out) : OK l D cy yX8_clear wsX8_clear rm_X8_clear [.ref (ao 0)] [(sAO ao), (sTxt cy (fun k => ao (30000 + k)) Tt)] (some (.int out.1)) [(sAO ao), (sTxt cy (fun k => ao (30000 + k)) out.2)] := by
  refine OKx.of (cc := cX8_clear) (maxL := 2) (ret := (some .int)) (by decide) rfl (Nat.le_of_ble_eq_true rfl) (fun G F Rq => ?_)
  show Go G 0 0 0 [(0, .ref (ao 0))] [] [(sAO ao), (sTxt cy (fun k => ao (30000 + k)) Tt)]
  replace F : Fx G cX8_clear wsX8_clear RX8 cy 2 (rm_X8_clear) := F
  replace Rq : Rx G "clear" (some .int) (some (.int out.1)) (fun z => z = [(sAO ao), (sTxt cy (fun k => ao (30000 + k)) out.2)]) 0 0 := Rq
  unfold f_X8_clear at h
  refine g_aload_n F dX8_clear_0 rfl 0 rfl ?_
  refine g_get F (C := RX8) (T := TX8) (N := 11) (ci := 8) (v := .ref (ao 30000)) hi_X8_clear_X8 0 0 2 dX8_clear_1 rfl rfl (by decide) fl_X8_clear_22 rfl ?_
  refine g_get F (C := RX7) (T := TX7) (N := 6) (ci := 7) (v := .int (Tt.1 0)) hi_X8_clear_X7 1 0 0 dX8_clear_4 rfl rfl (by decide) fl_X8_clear_80 rfl ?_
  refine g_istore_n F (lv' := [(1, .int (Tt.1 0)), (0, .ref (ao 0))]) dX8_clear_7 rfl (by decide) rfl ?_
  refine g_aload_n F dX8_clear_8 rfl 1 rfl ?_
  refine g_get F (C := RX8) (T := TX8) (N := 11) (ci := 8) (v := .ref (ao 30000)) hi_X8_clear_X8 0 0 2 dX8_clear_9 rfl rfl (by decide) fl_X8_clear_22 rfl ?_
  refine g_iconst F (v := (0 : Int32)) dX8_clear_12 (by decide) ?_
  refine g_put F (C := RX7) (T := TX7) (N := 6) (ci := 7) (v := .int (0 : Int32)) (ty := .int) (sg' := [(sAO ao), (sTxt cy (fun k => ao (30000 + k)) ((upd Tt.1 0 (0 : Int32)), Tt.2))]) hi_X8_clear_X7 tyX7 tyX7_ok nmX7 1 0 0 dX8_clear_13 rfl rfl (by decide) fl_X8_clear_80 rfl rfl rfl rfl (Nat.le_of_ble_eq_true rfl) rfl ?_
  refine g_iload_n F dX8_clear_16 rfl 0 rfl ?_
  obtain rfl := Option.some.inj h
  exact g_iret F Rq rfl dX8_clear_17
theorem hi_X8_store_X8 : ∀ w ∈ u_ws RX8 TX8 11, w ∈ wsX8_store := by decide +kernel
theorem fl_X8_store_22 : Cond.fieldLink RX8 22 "ArcOrder" "text" "LArcOrder$Text;" ∈ wsX8_store := by decide +kernel
theorem fl_X8_store_16 : Cond.fieldLink RX8 16 "ArcOrder" "aside" "LArcOrder$Net;" ∈ wsX8_store := by decide +kernel
theorem fl_X8_store_10 : Cond.fieldLink RX8 10 "ArcOrder" "net" "LArcOrder$Net;" ∈ wsX8_store := by decide +kernel
theorem hi_X8_store_X7 : ∀ w ∈ u_ws RX7 TX7 6, w ∈ wsX8_store := by decide +kernel
theorem fl_X8_store_80 : Cond.fieldLink RX8 80 "ArcOrder$Text" "length" "I" ∈ wsX8_store := by decide +kernel
theorem fl_X8_store_29 : Cond.fieldLink RX8 29 "ArcOrder" "list" "LArcOrder$ArcList;" ∈ wsX8_store := by decide +kernel
theorem hi_X8_store_X0 : ∀ w ∈ u_ws RX0 TX0 3, w ∈ wsX8_store := by decide +kernel
theorem fl_X8_store_92 : Cond.fieldLink RX8 92 "ArcOrder$ArcList" "size" "I" ∈ wsX8_store := by decide +kernel
theorem fl_X8_store_36 : Cond.fieldLink RX8 36 "ArcOrder" "past" "LArcOrder$Past;" ∈ wsX8_store := by decide +kernel
theorem hi_X8_store_X4 : ∀ w ∈ u_ws RX4 TX4 2, w ∈ wsX8_store := by decide +kernel
theorem fl_X8_store_95 : Cond.fieldLink RX8 95 "ArcOrder$Past" "size" "I" ∈ wsX8_store := by decide +kernel
theorem fl_X8_store_50 : Cond.fieldLink RX8 50 "ArcOrder" "sight" "LArcOrder$Sight;" ∈ wsX8_store := by decide +kernel
theorem fl_X8_store_72 : Cond.fieldLink RX8 72 "ArcOrder" "imageKept" "[Z" ∈ wsX8_store := by decide +kernel
abbrev rm_X8_store : Room := { frames := 7, cells := 0, slots := 0, locals := 173 }
set_option maxHeartbeats 4000000 in
set_option maxRecDepth 100000 in
theorem k_X8_store_62_ok {G : GX} {cy : Nat → ClassId} (ao : Nat → Nat)  (x1 : Int32) (Nn : NetS) (Bb : NetS) (Tt : TxtS) (Ll : LstS) (Pp : PstS) (Ss : SgtS) {out : Int32 × NetS × NetS × TxtS × LstS × PstS × SgtS × (Nat → Int32)} (F : Fx G cX8_store wsX8_store RX8 cy 3 (rm_X8_store)) (Rq : Rx G "store" (some .int) (some (.int out.1)) (fun z => z = [(sAO ao), (sNet cy (fun k => ao (10000 + k)) out.2.1), (sNet cy (fun k => ao (20000 + k)) out.2.2.1), (sTxt cy (fun k => ao (30000 + k)) out.2.2.2.1), (sLst cy (fun k => ao (40000 + k)) out.2.2.2.2.1), (sPst cy (fun k => ao (50000 + k)) out.2.2.2.2.2.1), (sSgt cy (fun k => ao (70000 + k)) out.2.2.2.2.2.2.1), (sZ cy (ao 11) 2 out.2.2.2.2.2.2.2)]) 0 0) (ke : (Nat → Int32) → Option (Int32 × NetS × NetS × TxtS × LstS × PstS × SgtS × (Nat → Int32))) (hke : ∀  (o_kept : (Nat → Int32)), ke o_kept = some out → Go G 0 0 80 [(1, .int x1)] [] [(sAO ao), (sNet cy (fun k => ao (10000 + k)) Nn), (sNet cy (fun k => ao (20000 + k)) Bb), (sTxt cy (fun k => ao (30000 + k)) Tt), (sLst cy (fun k => ao (40000 + k)) Ll), (sPst cy (fun k => ao (50000 + k)) Pp), (sSgt cy (fun k => ao (70000 + k)) Ss), (sZ cy (ao 11) 2 o_kept)]) : ∀ (n : Nat) (x2 : Int32) (o_kept : (Nat → Int32)), k_X8_store_62 x1 Nn Bb Tt Ll Pp Ss ke n x2 o_kept = some out → Go G 0 0 62 [(0, .ref (ao 0)), (1, .int x1), (2, .int x2)] [] [(sAO ao), (sNet cy (fun k => ao (10000 + k)) Nn), (sNet cy (fun k => ao (20000 + k)) Bb), (sTxt cy (fun k => ao (30000 + k)) Tt), (sLst cy (fun k => ao (40000 + k)) Ll), (sPst cy (fun k => ao (50000 + k)) Pp), (sSgt cy (fun k => ao (70000 + k)) Ss), (sZ cy (ao 11) 2 o_kept)] := by
  intro n
  induction n with
  | zero =>
    intro x2 o_kept h
    exact nosome h
  | succ n ih =>
    intro x2 o_kept h
    rw [k_X8_store_62.eq_2] at h
    refine g_iload_n F dX8_store_62 rfl 2 rfl ?_
    refine g_iconst F (v := (2 : Int32)) dX8_store_63 (by decide) ?_
    refine g_icmp_ge F 80 h dX8_store_64 (by decide) (fun h => ?_) (fun h => ?_)
    · refine Go.sub (lv' := [(1, .int x1)]) [1] rfl ?_
      exact hke o_kept h
    · refine g_aload_n F dX8_store_67 rfl 0 rfl ?_
      refine g_get F (C := RX8) (T := TX8) (N := 11) (ci := 8) (v := .ref (ao 11)) hi_X8_store_X8 0 0 10 dX8_store_68 rfl rfl (by decide) fl_X8_store_72 rfl ?_
      refine g_iload_n F dX8_store_71 rfl 2 rfl ?_
      refine g_iconst F (v := (0 : Int32)) dX8_store_72 (by decide) ?_
      refine g_zastore F h (sg' := [(sAO ao), (sNet cy (fun k => ao (10000 + k)) Nn), (sNet cy (fun k => ao (20000 + k)) Bb), (sTxt cy (fun k => ao (30000 + k)) Tt), (sLst cy (fun k => ao (40000 + k)) Ll), (sPst cy (fun k => ao (50000 + k)) Pp), (sSgt cy (fun k => ao (70000 + k)) Ss), (sZ cy (ao 11) 2 (upd o_kept (x2).toNatClampNeg (vp_nar .boolean (0 : Int32))))]) 7 0 dX8_store_73 rfl rfl (fun h => ?_)
      refine g_iinc F (v := (x2 + 1)) (lv' := [(2, .int (x2 + 1)), (0, .ref (ao 0)), (1, .int x1)]) dX8_store_74 2 rfl rfl (by decide) rfl ?_
      refine g_goto F 62 dX8_store_77 (by decide) ?_
      refine Go.sub (lv' := [(0, .ref (ao 0)), (1, .int x1), (2, .int (x2 + 1))]) [1, 2, 0] rfl ?_
      exact ih (x2 + 1) (upd o_kept (x2).toNatClampNeg (vp_nar .boolean (0 : Int32))) h
set_option maxHeartbeats 4000000 in
set_option maxRecDepth 100000 in
theorem ok_X8_store (l : Launch) (D : va_G) (cy : Nat → ClassId) (ao : Nat → Nat)  (Nn : NetS) (Bb : NetS) (Tt : TxtS) (Ll : LstS) (Pp : PstS) (Ss : SgtS) (o_kept : (Nat → Int32))  (out : Int32 × NetS × NetS × TxtS × LstS × PstS × SgtS × (Nat → Int32)) (h : f_X8_store Nn Bb Tt Ll Pp Ss o_kept = some out) : OK l D cy yX8_store wsX8_store rm_X8_store [.ref (ao 0)] [(sAO ao), (sNet cy (fun k => ao (10000 + k)) Nn), (sNet cy (fun k => ao (20000 + k)) Bb), (sTxt cy (fun k => ao (30000 + k)) Tt), (sLst cy (fun k => ao (40000 + k)) Ll), (sPst cy (fun k => ao (50000 + k)) Pp), (sSgt cy (fun k => ao (70000 + k)) Ss), (sZ cy (ao 11) 2 o_kept)] (some (.int out.1)) [(sAO ao), (sNet cy (fun k => ao (10000 + k)) out.2.1), (sNet cy (fun k => ao (20000 + k)) out.2.2.1), (sTxt cy (fun k => ao (30000 + k)) out.2.2.2.1), (sLst cy (fun k => ao (40000 + k)) out.2.2.2.2.1), (sPst cy (fun k => ao (50000 + k)) out.2.2.2.2.2.1), (sSgt cy (fun k => ao (70000 + k)) out.2.2.2.2.2.2.1), (sZ cy (ao 11) 2 out.2.2.2.2.2.2.2)] := by
  refine OKx.of (cc := cX8_store) (maxL := 3) (ret := (some .int)) (by decide) rfl (Nat.le_of_ble_eq_true rfl) (fun G F Rq => ?_)
  show Go G 0 0 0 [(0, .ref (ao 0))] [] [(sAO ao), (sNet cy (fun k => ao (10000 + k)) Nn), (sNet cy (fun k => ao (20000 + k)) Bb), (sTxt cy (fun k => ao (30000 + k)) Tt), (sLst cy (fun k => ao (40000 + k)) Ll), (sPst cy (fun k => ao (50000 + k)) Pp), (sSgt cy (fun k => ao (70000 + k)) Ss), (sZ cy (ao 11) 2 o_kept)]
  replace F : Fx G cX8_store wsX8_store RX8 cy 3 (rm_X8_store) := F
  replace Rq : Rx G "store" (some .int) (some (.int out.1)) (fun z => z = [(sAO ao), (sNet cy (fun k => ao (10000 + k)) out.2.1), (sNet cy (fun k => ao (20000 + k)) out.2.2.1), (sTxt cy (fun k => ao (30000 + k)) out.2.2.2.1), (sLst cy (fun k => ao (40000 + k)) out.2.2.2.2.1), (sPst cy (fun k => ao (50000 + k)) out.2.2.2.2.2.1), (sSgt cy (fun k => ao (70000 + k)) out.2.2.2.2.2.2.1), (sZ cy (ao 11) 2 out.2.2.2.2.2.2.2)]) 0 0 := Rq
  unfold f_X8_store at h
  refine g_aload_n F dX8_store_0 rfl 0 rfl ?_
  refine g_get F (C := RX8) (T := TX8) (N := 11) (ci := 8) (v := .ref (ao 30000)) hi_X8_store_X8 0 0 2 dX8_store_1 rfl rfl (by decide) fl_X8_store_22 rfl ?_
  refine g_aload_n F dX8_store_4 rfl 0 rfl ?_
  refine g_get F (C := RX8) (T := TX8) (N := 11) (ci := 8) (v := .ref (ao 20000)) hi_X8_store_X8 0 0 1 dX8_store_5 rfl rfl (by decide) fl_X8_store_16 rfl ?_
  obtain ⟨r1, hr1, h⟩ := bnd h
  refine g_cV F [.ref (ao 20000)] 0 0 (ok_X7_readInto (gl G) (gD G) cy (fun k => ao (30000 + k)) (fun k => ao (20000 + k)) Tt Bb r1 hr1) dX8_store_8 rfl rfl gX8_store_X7_readInto rfl ⟨rfl, cd_X7_readInto⟩ (by decide) rfl (Nat.le_of_ble_eq_true rfl) [3, 2] (by decide) rfl rfl (sg' := [(sAO ao), (sNet cy (fun k => ao (10000 + k)) Nn), (sNet cy (fun k => ao (20000 + k)) r1.2.2), (sTxt cy (fun k => ao (30000 + k)) r1.2.1), (sLst cy (fun k => ao (40000 + k)) Ll), (sPst cy (fun k => ao (50000 + k)) Pp), (sSgt cy (fun k => ao (70000 + k)) Ss), (sZ cy (ao 11) 2 o_kept)]) (st' := [.int r1.1]) rfl rfl ?_
  refine g_istore_n F (lv' := [(1, .int r1.1), (0, .ref (ao 0))]) dX8_store_11 rfl (by decide) rfl ?_
  refine g_iload_n F dX8_store_12 rfl 0 rfl ?_
  refine g_if_ge F 18 h dX8_store_13 (by decide) (fun h => ?_) (fun h => ?_)
  · refine g_aload_n F dX8_store_18 rfl 1 rfl ?_
    refine g_get F (C := RX8) (T := TX8) (N := 11) (ci := 8) (v := .ref (ao 10000)) hi_X8_store_X8 0 0 0 dX8_store_19 rfl rfl (by decide) fl_X8_store_10 rfl ?_
    refine g_aload_n F dX8_store_22 rfl 1 rfl ?_
    refine g_get F (C := RX8) (T := TX8) (N := 11) (ci := 8) (v := .ref (ao 20000)) hi_X8_store_X8 0 0 1 dX8_store_23 rfl rfl (by decide) fl_X8_store_16 rfl ?_
    obtain ⟨r2, hr2, h⟩ := bnd h
    refine g_cV F [.ref (ao 20000)] 0 0 (ok_X3_copyOf (gl G) (gD G) cy (fun k => ao (10000 + k)) (fun k => ao (20000 + k)) Nn r1.2.2 r2 hr2) dX8_store_26 rfl rfl gX8_store_X3_copyOf rfl ⟨rfl, cd_X3_copyOf⟩ (by decide) rfl (Nat.le_of_ble_eq_true rfl) [1, 2] (by decide) rfl rfl (sg' := [(sAO ao), (sNet cy (fun k => ao (10000 + k)) r2), (sNet cy (fun k => ao (20000 + k)) r1.2.2), (sTxt cy (fun k => ao (30000 + k)) r1.2.1), (sLst cy (fun k => ao (40000 + k)) Ll), (sPst cy (fun k => ao (50000 + k)) Pp), (sSgt cy (fun k => ao (70000 + k)) Ss), (sZ cy (ao 11) 2 o_kept)]) (st' := []) rfl rfl ?_
    refine g_aload_n F dX8_store_29 rfl 1 rfl ?_
    refine g_get F (C := RX8) (T := TX8) (N := 11) (ci := 8) (v := .ref (ao 30000)) hi_X8_store_X8 0 0 2 dX8_store_30 rfl rfl (by decide) fl_X8_store_22 rfl ?_
    refine g_iconst F (v := (0 : Int32)) dX8_store_33 (by decide) ?_
    refine g_put F (C := RX7) (T := TX7) (N := 6) (ci := 7) (v := .int (0 : Int32)) (ty := .int) (sg' := [(sAO ao), (sNet cy (fun k => ao (10000 + k)) r2), (sNet cy (fun k => ao (20000 + k)) r1.2.2), (sTxt cy (fun k => ao (30000 + k)) ((upd r1.2.1.1 0 (0 : Int32)), r1.2.1.2)), (sLst cy (fun k => ao (40000 + k)) Ll), (sPst cy (fun k => ao (50000 + k)) Pp), (sSgt cy (fun k => ao (70000 + k)) Ss), (sZ cy (ao 11) 2 o_kept)]) hi_X8_store_X7 tyX7 tyX7_ok nmX7 3 0 0 dX8_store_34 rfl rfl (by decide) fl_X8_store_80 rfl rfl rfl rfl (Nat.le_of_ble_eq_true rfl) rfl ?_
    refine g_aload_n F dX8_store_37 rfl 1 rfl ?_
    refine g_get F (C := RX8) (T := TX8) (N := 11) (ci := 8) (v := .ref (ao 40000)) hi_X8_store_X8 0 0 3 dX8_store_38 rfl rfl (by decide) fl_X8_store_29 rfl ?_
    refine g_iconst F (v := (0 : Int32)) dX8_store_41 (by decide) ?_
    refine g_put F (C := RX0) (T := TX0) (N := 3) (ci := 0) (v := .int (0 : Int32)) (ty := .int) (sg' := [(sAO ao), (sNet cy (fun k => ao (10000 + k)) r2), (sNet cy (fun k => ao (20000 + k)) r1.2.2), (sTxt cy (fun k => ao (30000 + k)) ((upd r1.2.1.1 0 (0 : Int32)), r1.2.1.2)), (sLst cy (fun k => ao (40000 + k)) ((0 : Int32), Ll.2.1, Ll.2.2)), (sPst cy (fun k => ao (50000 + k)) Pp), (sSgt cy (fun k => ao (70000 + k)) Ss), (sZ cy (ao 11) 2 o_kept)]) hi_X8_store_X0 tyX0 tyX0_ok nmX0 4 0 0 dX8_store_42 rfl rfl (by decide) fl_X8_store_92 rfl rfl rfl rfl (Nat.le_of_ble_eq_true rfl) rfl ?_
    refine g_aload_n F dX8_store_45 rfl 1 rfl ?_
    refine g_get F (C := RX8) (T := TX8) (N := 11) (ci := 8) (v := .ref (ao 50000)) hi_X8_store_X8 0 0 4 dX8_store_46 rfl rfl (by decide) fl_X8_store_36 rfl ?_
    refine g_iconst F (v := (0 : Int32)) dX8_store_49 (by decide) ?_
    refine g_put F (C := RX4) (T := TX4) (N := 2) (ci := 4) (v := .int (0 : Int32)) (ty := .int) (sg' := [(sAO ao), (sNet cy (fun k => ao (10000 + k)) r2), (sNet cy (fun k => ao (20000 + k)) r1.2.2), (sTxt cy (fun k => ao (30000 + k)) ((upd r1.2.1.1 0 (0 : Int32)), r1.2.1.2)), (sLst cy (fun k => ao (40000 + k)) ((0 : Int32), Ll.2.1, Ll.2.2)), (sPst cy (fun k => ao (50000 + k)) ((0 : Int32), Pp.2)), (sSgt cy (fun k => ao (70000 + k)) Ss), (sZ cy (ao 11) 2 o_kept)]) hi_X8_store_X4 tyX4 tyX4_ok nmX4 5 0 0 dX8_store_50 rfl rfl (by decide) fl_X8_store_95 rfl rfl rfl rfl (Nat.le_of_ble_eq_true rfl) rfl ?_
    refine g_aload_n F dX8_store_53 rfl 1 rfl ?_
    refine g_get F (C := RX8) (T := TX8) (N := 11) (ci := 8) (v := .ref (ao 70000)) hi_X8_store_X8 0 0 6 dX8_store_54 rfl rfl (by decide) fl_X8_store_50 rfl ?_
    obtain ⟨r3, hr3, h⟩ := bnd h
    refine g_cV F [] 0 0 (ok_X5_empty (gl G) (gD G) cy (fun k => ao (70000 + k)) Ss r3 hr3) dX8_store_57 rfl rfl gX8_store_X5_empty rfl ⟨rfl, cd_X5_empty⟩ (by decide) rfl (Nat.le_of_ble_eq_true rfl) [6] (by decide) rfl rfl (sg' := [(sAO ao), (sNet cy (fun k => ao (10000 + k)) r2), (sNet cy (fun k => ao (20000 + k)) r1.2.2), (sTxt cy (fun k => ao (30000 + k)) ((upd r1.2.1.1 0 (0 : Int32)), r1.2.1.2)), (sLst cy (fun k => ao (40000 + k)) ((0 : Int32), Ll.2.1, Ll.2.2)), (sPst cy (fun k => ao (50000 + k)) ((0 : Int32), Pp.2)), (sSgt cy (fun k => ao (70000 + k)) r3), (sZ cy (ao 11) 2 o_kept)]) (st' := []) rfl rfl ?_
    refine g_iconst F (v := (0 : Int32)) dX8_store_60 (by decide) ?_
    refine g_istore_n F (lv' := [(2, .int (0 : Int32)), (1, .int r1.1), (0, .ref (ao 0))]) dX8_store_61 rfl (by decide) rfl ?_
    refine Go.sub (lv' := [(0, .ref (ao 0)), (1, .int r1.1), (2, .int (0 : Int32))]) [2, 1, 0] rfl ?_
    refine k_X8_store_62_ok ao r1.1 r2 r1.2.2 ((upd r1.2.1.1 0 (0 : Int32)), r1.2.1.2) ((0 : Int32), Ll.2.1, Ll.2.2) ((0 : Int32), Pp.2) r3 F Rq _ (fun o_kept_4 h => ?_) _ (0 : Int32) o_kept h
    refine g_iload_n F dX8_store_80 rfl 0 rfl ?_
    obtain rfl := Option.some.inj h
    exact g_iret F Rq rfl dX8_store_81
  · refine g_iload_n F dX8_store_16 rfl 0 rfl ?_
    obtain rfl := Option.some.inj h
    exact g_iret F Rq rfl dX8_store_17
theorem hi_X8_item_X8 : ∀ w ∈ u_ws RX8 TX8 11, w ∈ wsX8_item := by decide +kernel
theorem fl_X8_item_10 : Cond.fieldLink RX8 10 "ArcOrder" "net" "LArcOrder$Net;" ∈ wsX8_item := by decide +kernel
theorem hi_X8_item_X3 : ∀ w ∈ u_ws RX3 TX3 7, w ∈ wsX8_item := by decide +kernel
theorem fl_X8_item_102 : Cond.fieldLink RX8 102 "ArcOrder$Net" "place" "[I" ∈ wsX8_item := by decide +kernel
theorem fl_X8_item_106 : Cond.fieldLink RX8 106 "ArcOrder$Net" "out" "[I" ∈ wsX8_item := by decide +kernel
theorem fl_X8_item_109 : Cond.fieldLink RX8 109 "ArcOrder$Net" "in" "[I" ∈ wsX8_item := by decide +kernel
theorem fl_X8_item_121 : Cond.fieldLink RX8 121 "ArcOrder$Net" "items" "I" ∈ wsX8_item := by decide +kernel
abbrev rm_X8_item : Room := { frames := 2, cells := 0, slots := 0, locals := 46 }
set_option maxHeartbeats 4000000 in
set_option maxRecDepth 100000 in
theorem ok_X8_item (l : Launch) (D : va_G) (cy : Nat → ClassId) (ao : Nat → Nat)  (Nn : NetS) (x1 : Int32) (x2 : Int32) (out : Int32) (h : f_X8_item Nn x1 x2 = some out) : OK l D cy yX8_item wsX8_item rm_X8_item [.ref (ao 0), .int x1, .int x2] [(sAO ao), (sNet cy (fun k => ao (10000 + k)) Nn)] (some (.int out)) [(sAO ao), (sNet cy (fun k => ao (10000 + k)) Nn)] := by
  refine OKx.of (cc := cX8_item) (maxL := 3) (ret := (some .int)) (by decide) rfl (Nat.le_of_ble_eq_true rfl) (fun G F Rq => ?_)
  show Go G 0 0 0 [(0, .ref (ao 0)), (1, .int x1), (2, .int x2)] [] [(sAO ao), (sNet cy (fun k => ao (10000 + k)) Nn)]
  replace F : Fx G cX8_item wsX8_item RX8 cy 3 (rm_X8_item) := F
  replace Rq : Rx G "item" (some .int) (some (.int out)) (fun z => z = [(sAO ao), (sNet cy (fun k => ao (10000 + k)) Nn)]) 0 0 := Rq
  unfold f_X8_item at h
  refine g_aload_n F dX8_item_0 rfl 0 rfl ?_
  refine g_get F (C := RX8) (T := TX8) (N := 11) (ci := 8) (v := .ref (ao 10000)) hi_X8_item_X8 0 0 0 dX8_item_1 rfl rfl (by decide) fl_X8_item_10 rfl ?_
  refine g_iload_n F dX8_item_4 rfl 1 rfl ?_
  obtain ⟨r1, hr1, h⟩ := bnd h
  refine g_cV F [.int x1] 0 0 (ok_X3_isItem (gl G) (gD G) cy (fun k => ao (10000 + k)) Nn x1 r1 hr1) dX8_item_5 rfl rfl gX8_item_X3_isItem rfl ⟨rfl, cd_X3_isItem⟩ (by decide) rfl (Nat.le_of_ble_eq_true rfl) [1] (by decide) rfl rfl (sg' := [(sAO ao), (sNet cy (fun k => ao (10000 + k)) Nn)]) (st' := [.int r1]) rfl rfl ?_
  refine g_if_ne F 13 h dX8_item_8 (by decide) (fun h => ?_) (fun h => ?_)
  · refine g_iload_n F dX8_item_13 rfl 2 rfl ?_
    refine its h (fun c2 h => ?_) (fun c2 h => ?_)
    · refine g_tin F 56 dX8_item_14 (by rw [c2]; decide) (by rw [c2]; rfl) (by decide) ?_
      refine g_aload_n F dX8_item_56 rfl 0 rfl ?_
      refine g_get F (C := RX8) (T := TX8) (N := 11) (ci := 8) (v := .ref (ao 10000)) hi_X8_item_X8 0 0 0 dX8_item_57 rfl rfl (by decide) fl_X8_item_10 rfl ?_
      refine g_get F (C := RX3) (T := TX3) (N := 7) (ci := 3) (v := .ref (ao 10006)) hi_X8_item_X3 1 0 5 dX8_item_60 rfl rfl (by decide) fl_X8_item_102 rfl ?_
      refine g_iload_n F dX8_item_63 rfl 1 rfl ?_
      refine g_iaload F h 1 4 dX8_item_64 rfl (fun h => ?_)
      obtain rfl := Option.some.inj h
      exact g_iret F Rq rfl dX8_item_65
    refine its h (fun c3 h => ?_) (fun c3 h => ?_)
    · refine g_tin F 66 dX8_item_14 (by rw [c3]; decide) (by rw [c3]; rfl) (by decide) ?_
      refine g_aload_n F dX8_item_66 rfl 0 rfl ?_
      refine g_get F (C := RX8) (T := TX8) (N := 11) (ci := 8) (v := .ref (ao 10000)) hi_X8_item_X8 0 0 0 dX8_item_67 rfl rfl (by decide) fl_X8_item_10 rfl ?_
      refine g_get F (C := RX3) (T := TX3) (N := 7) (ci := 3) (v := .ref (ao 10003)) hi_X8_item_X3 1 0 2 dX8_item_70 rfl rfl (by decide) fl_X8_item_106 rfl ?_
      refine g_iload_n F dX8_item_73 rfl 1 rfl ?_
      refine g_iaload F h 1 1 dX8_item_74 rfl (fun h => ?_)
      obtain rfl := Option.some.inj h
      exact g_iret F Rq rfl dX8_item_75
    refine its h (fun c4 h => ?_) (fun c4 h => ?_)
    · refine g_tin F 76 dX8_item_14 (by rw [c4]; decide) (by rw [c4]; rfl) (by decide) ?_
      refine g_aload_n F dX8_item_76 rfl 0 rfl ?_
      refine g_get F (C := RX8) (T := TX8) (N := 11) (ci := 8) (v := .ref (ao 10000)) hi_X8_item_X8 0 0 0 dX8_item_77 rfl rfl (by decide) fl_X8_item_10 rfl ?_
      refine g_get F (C := RX3) (T := TX3) (N := 7) (ci := 3) (v := .ref (ao 10004)) hi_X8_item_X3 1 0 3 dX8_item_80 rfl rfl (by decide) fl_X8_item_109 rfl ?_
      refine g_iload_n F dX8_item_83 rfl 1 rfl ?_
      refine g_iaload F h 1 2 dX8_item_84 rfl (fun h => ?_)
      obtain rfl := Option.some.inj h
      exact g_iret F Rq rfl dX8_item_85
    refine its h (fun c5 h => ?_) (fun c5 h => ?_)
    · refine g_tin F 86 dX8_item_14 (by rw [c5]; decide) (by rw [c5]; rfl) (by decide) ?_
      refine g_aload_n F dX8_item_86 rfl 0 rfl ?_
      refine g_get F (C := RX8) (T := TX8) (N := 11) (ci := 8) (v := .ref (ao 10000)) hi_X8_item_X8 0 0 0 dX8_item_87 rfl rfl (by decide) fl_X8_item_10 rfl ?_
      refine g_iload_n F dX8_item_90 rfl 1 rfl ?_
      obtain ⟨r6, hr6, h⟩ := bnd h
      refine g_cV F [.int x1] 0 0 (ok_X3_allAheadOf (gl G) (gD G) cy (fun k => ao (10000 + k)) Nn x1 r6 hr6) dX8_item_91 rfl rfl gX8_item_X3_allAheadOf rfl ⟨rfl, cd_X3_allAheadOf⟩ (by decide) rfl (Nat.le_of_ble_eq_true rfl) [1] (by decide) rfl rfl (sg' := [(sAO ao), (sNet cy (fun k => ao (10000 + k)) Nn)]) (st' := [.int r6]) rfl rfl ?_
      obtain ⟨r7, hr7, h⟩ := bnd h
      refine g_cS F [.int r6] (ok_J6_bitCount_0f7a4 (gl G) (gD G) cy r6 r7 hr7) dX8_item_94 gX8_item_J6_bitCount_0f7a4 rfl cd_J6_bitCount_0f7a4 (by decide) rfl (Nat.le_of_ble_eq_true rfl) [] (by decide) rfl rfl (sg' := [(sAO ao), (sNet cy (fun k => ao (10000 + k)) Nn)]) (st' := [.int r7]) rfl rfl ?_
      obtain rfl := Option.some.inj h
      exact g_iret F Rq rfl dX8_item_97
    refine its h (fun c8 h => ?_) (fun c8 h => ?_)
    · refine g_tin F 98 dX8_item_14 (by rw [c8]; decide) (by rw [c8]; rfl) (by decide) ?_
      refine g_aload_n F dX8_item_98 rfl 0 rfl ?_
      refine g_get F (C := RX8) (T := TX8) (N := 11) (ci := 8) (v := .ref (ao 10000)) hi_X8_item_X8 0 0 0 dX8_item_99 rfl rfl (by decide) fl_X8_item_10 rfl ?_
      refine g_get F (C := RX3) (T := TX3) (N := 7) (ci := 3) (v := .int Nn.1) hi_X8_item_X3 1 0 0 dX8_item_102 rfl rfl (by decide) fl_X8_item_121 rfl ?_
      refine g_iconst F (v := (1 : Int32)) dX8_item_105 (by decide) ?_
      refine g_isub F dX8_item_106 ?_
      refine g_aload_n F dX8_item_107 rfl 0 rfl ?_
      refine g_get F (C := RX8) (T := TX8) (N := 11) (ci := 8) (v := .ref (ao 10000)) hi_X8_item_X8 0 0 0 dX8_item_108 rfl rfl (by decide) fl_X8_item_10 rfl ?_
      refine g_iload_n F dX8_item_111 rfl 1 rfl ?_
      obtain ⟨r9, hr9, h⟩ := bnd h
      refine g_cV F [.int x1] 0 0 (ok_X3_allBehind (gl G) (gD G) cy (fun k => ao (10000 + k)) Nn x1 r9 hr9) dX8_item_112 rfl rfl gX8_item_X3_allBehind rfl ⟨rfl, cd_X3_allBehind⟩ (by decide) rfl (Nat.le_of_ble_eq_true rfl) [1] (by decide) rfl rfl (sg' := [(sAO ao), (sNet cy (fun k => ao (10000 + k)) Nn)]) (st' := [.int r9, .int (Nn.1 - (1 : Int32))]) rfl rfl ?_
      obtain ⟨r10, hr10, h⟩ := bnd h
      refine g_cS F [.int r9] (ok_J6_bitCount_0f7a4 (gl G) (gD G) cy r9 r10 hr10) dX8_item_115 gX8_item_J6_bitCount_0f7a4 rfl cd_J6_bitCount_0f7a4 (by decide) rfl (Nat.le_of_ble_eq_true rfl) [] (by decide) rfl rfl (sg' := [(sAO ao), (sNet cy (fun k => ao (10000 + k)) Nn)]) (st' := [.int r10, .int (Nn.1 - (1 : Int32))]) rfl rfl ?_
      refine g_isub F dX8_item_118 ?_
      obtain rfl := Option.some.inj h
      exact g_iret F Rq rfl dX8_item_119
    refine its h (fun c11 h => ?_) (fun c11 h => ?_)
    · refine g_tin F 120 dX8_item_14 (by rw [c11]; decide) (by rw [c11]; rfl) (by decide) ?_
      refine g_aload_n F dX8_item_120 rfl 0 rfl ?_
      refine g_get F (C := RX8) (T := TX8) (N := 11) (ci := 8) (v := .ref (ao 10000)) hi_X8_item_X8 0 0 0 dX8_item_121 rfl rfl (by decide) fl_X8_item_10 rfl ?_
      refine g_iload_n F dX8_item_124 rfl 1 rfl ?_
      obtain ⟨r12, hr12, h⟩ := bnd h
      refine g_cV F [.int x1] 0 0 (ok_X3_allBehind (gl G) (gD G) cy (fun k => ao (10000 + k)) Nn x1 r12 hr12) dX8_item_125 rfl rfl gX8_item_X3_allBehind rfl ⟨rfl, cd_X3_allBehind⟩ (by decide) rfl (Nat.le_of_ble_eq_true rfl) [1] (by decide) rfl rfl (sg' := [(sAO ao), (sNet cy (fun k => ao (10000 + k)) Nn)]) (st' := [.int r12]) rfl rfl ?_
      obtain rfl := Option.some.inj h
      exact g_iret F Rq rfl dX8_item_128
    refine its h (fun c13 h => ?_) (fun c13 h => ?_)
    · refine g_tin F 129 dX8_item_14 (by rw [c13]; decide) (by rw [c13]; rfl) (by decide) ?_
      refine g_aload_n F dX8_item_129 rfl 0 rfl ?_
      refine g_get F (C := RX8) (T := TX8) (N := 11) (ci := 8) (v := .ref (ao 10000)) hi_X8_item_X8 0 0 0 dX8_item_130 rfl rfl (by decide) fl_X8_item_10 rfl ?_
      refine g_iload_n F dX8_item_133 rfl 1 rfl ?_
      obtain ⟨r14, hr14, h⟩ := bnd h
      refine g_cV F [.int x1] 0 0 (ok_X3_allAheadOf (gl G) (gD G) cy (fun k => ao (10000 + k)) Nn x1 r14 hr14) dX8_item_134 rfl rfl gX8_item_X3_allAheadOf rfl ⟨rfl, cd_X3_allAheadOf⟩ (by decide) rfl (Nat.le_of_ble_eq_true rfl) [1] (by decide) rfl rfl (sg' := [(sAO ao), (sNet cy (fun k => ao (10000 + k)) Nn)]) (st' := [.int r14]) rfl rfl ?_
      obtain rfl := Option.some.inj h
      exact g_iret F Rq rfl dX8_item_137
    · refine g_tout F 138 dX8_item_14 (sw_out (n := 6) (by decide) (fun k hk => by match k, hk with | 0, _ => exact c2 | 1, _ => exact c3 | 2, _ => exact c4 | 3, _ => exact c5 | 4, _ => exact c8 | 5, _ => exact c11 | 6, _ => exact c13 | k + 7, hk => omega)) (by decide) ?_
      refine g_iconst F (v := (-1 : Int32)) dX8_item_138 (by decide) ?_
      obtain rfl := Option.some.inj h
      exact g_iret F Rq rfl dX8_item_139
  · refine g_iconst F (v := (-1 : Int32)) dX8_item_11 (by decide) ?_
    obtain rfl := Option.some.inj h
    exact g_iret F Rq rfl dX8_item_12
theorem hi_X8_at_X8 : ∀ w ∈ u_ws RX8 TX8 11, w ∈ wsX8_at := by decide +kernel
theorem fl_X8_at_10 : Cond.fieldLink RX8 10 "ArcOrder" "net" "LArcOrder$Net;" ∈ wsX8_at := by decide +kernel
theorem hi_X8_at_X3 : ∀ w ∈ u_ws RX3 TX3 7, w ∈ wsX8_at := by decide +kernel
theorem fl_X8_at_127 : Cond.fieldLink RX8 127 "ArcOrder$Net" "order" "[I" ∈ wsX8_at := by decide +kernel
abbrev rm_X8_at : Room := { frames := 1, cells := 0, slots := 0, locals := 21 }
set_option maxHeartbeats 4000000 in
set_option maxRecDepth 100000 in
theorem ok_X8_at (l : Launch) (D : va_G) (cy : Nat → ClassId) (ao : Nat → Nat)  (Nn : NetS) (x1 : Int32) (out : Int32) (h : f_X8_at Nn x1 = some out) : OK l D cy yX8_at wsX8_at rm_X8_at [.ref (ao 0), .int x1] [(sAO ao), (sNet cy (fun k => ao (10000 + k)) Nn)] (some (.int out)) [(sAO ao), (sNet cy (fun k => ao (10000 + k)) Nn)] := by
  refine OKx.of (cc := cX8_at) (maxL := 2) (ret := (some .int)) (by decide) rfl (Nat.le_of_ble_eq_true rfl) (fun G F Rq => ?_)
  show Go G 0 0 0 [(0, .ref (ao 0)), (1, .int x1)] [] [(sAO ao), (sNet cy (fun k => ao (10000 + k)) Nn)]
  replace F : Fx G cX8_at wsX8_at RX8 cy 2 (rm_X8_at) := F
  replace Rq : Rx G "at" (some .int) (some (.int out)) (fun z => z = [(sAO ao), (sNet cy (fun k => ao (10000 + k)) Nn)]) 0 0 := Rq
  unfold f_X8_at at h
  refine g_aload_n F dX8_at_0 rfl 0 rfl ?_
  refine g_get F (C := RX8) (T := TX8) (N := 11) (ci := 8) (v := .ref (ao 10000)) hi_X8_at_X8 0 0 0 dX8_at_1 rfl rfl (by decide) fl_X8_at_10 rfl ?_
  refine g_iload_n F dX8_at_4 rfl 1 rfl ?_
  obtain ⟨r1, hr1, h⟩ := bnd h
  refine g_cV F [.int x1] 0 0 (ok_X3_isItem (gl G) (gD G) cy (fun k => ao (10000 + k)) Nn x1 r1 hr1) dX8_at_5 rfl rfl gX8_at_X3_isItem rfl ⟨rfl, cd_X3_isItem⟩ (by decide) rfl (Nat.le_of_ble_eq_true rfl) [1] (by decide) rfl rfl (sg' := [(sAO ao), (sNet cy (fun k => ao (10000 + k)) Nn)]) (st' := [.int r1]) rfl rfl ?_
  refine g_if_eq F 23 h dX8_at_8 (by decide) (fun h => ?_) (fun h => ?_)
  · refine g_iconst F (v := (-1 : Int32)) dX8_at_23 (by decide) ?_
    obtain rfl := Option.some.inj h
    exact g_iret F Rq rfl dX8_at_24
  · refine g_aload_n F dX8_at_11 rfl 0 rfl ?_
    refine g_get F (C := RX8) (T := TX8) (N := 11) (ci := 8) (v := .ref (ao 10000)) hi_X8_at_X8 0 0 0 dX8_at_12 rfl rfl (by decide) fl_X8_at_10 rfl ?_
    refine g_get F (C := RX3) (T := TX3) (N := 7) (ci := 3) (v := .ref (ao 10005)) hi_X8_at_X3 1 0 4 dX8_at_15 rfl rfl (by decide) fl_X8_at_127 rfl ?_
    refine g_iload_n F dX8_at_18 rfl 1 rfl ?_
    refine g_iaload F h 1 3 dX8_at_19 rfl (fun h => ?_)
    refine g_goto F 24 dX8_at_20 (by decide) ?_
    obtain rfl := Option.some.inj h
    exact g_iret F Rq rfl dX8_at_24
theorem hi_X8_freeArcs_X8 : ∀ w ∈ u_ws RX8 TX8 11, w ∈ wsX8_freeArcs := by decide +kernel
theorem fl_X8_freeArcs_10 : Cond.fieldLink RX8 10 "ArcOrder" "net" "LArcOrder$Net;" ∈ wsX8_freeArcs := by decide +kernel
theorem hi_X8_freeArcs_X3 : ∀ w ∈ u_ws RX3 TX3 7, w ∈ wsX8_freeArcs := by decide +kernel
theorem fl_X8_freeArcs_121 : Cond.fieldLink RX8 121 "ArcOrder$Net" "items" "I" ∈ wsX8_freeArcs := by decide +kernel
abbrev rm_X8_freeArcs : Room := { frames := 3, cells := 0, slots := 0, locals := 69 }
set_option maxHeartbeats 4000000 in
set_option maxRecDepth 100000 in
theorem k_X8_freeArcs_17_ok {G : GX} {cy : Nat → ClassId} (ao : Nat → Nat)  (x2 : Int32) (Nn : NetS) {out : Int32} (F : Fx G cX8_freeArcs wsX8_freeArcs RX8 cy 4 (rm_X8_freeArcs)) (Rq : Rx G "freeArcs" (some .int) (some (.int out)) (fun z => z = [(sAO ao), (sNet cy (fun k => ao (10000 + k)) Nn)]) 0 0) (ke : Int32 → Option (Int32)) (hke : ∀ (x1 : Int32) , ke x1 = some out → Go G 0 0 61 [(0, .ref (ao 0)), (1, .int x1), (2, .int x2)] [] [(sAO ao), (sNet cy (fun k => ao (10000 + k)) Nn)]) : ∀ (n : Nat) (x1 : Int32) (x3 : Int32) , k_X8_freeArcs_17 x2 Nn ke n x1 x3 = some out → Go G 0 0 17 [(0, .ref (ao 0)), (1, .int x1), (2, .int x2), (3, .int x3)] [] [(sAO ao), (sNet cy (fun k => ao (10000 + k)) Nn)] := by
  intro n
  induction n with
  | zero =>
    intro x1 x3 h
    exact nosome h
  | succ n ih =>
    intro x1 x3 h
    rw [k_X8_freeArcs_17.eq_2] at h
    refine g_iload_n F dX8_freeArcs_17 rfl 3 rfl ?_
    refine g_aload_n F dX8_freeArcs_18 rfl 0 rfl ?_
    refine g_get F (C := RX8) (T := TX8) (N := 11) (ci := 8) (v := .ref (ao 10000)) hi_X8_freeArcs_X8 0 0 0 dX8_freeArcs_19 rfl rfl (by decide) fl_X8_freeArcs_10 rfl ?_
    refine g_get F (C := RX3) (T := TX3) (N := 7) (ci := 3) (v := .int Nn.1) hi_X8_freeArcs_X3 1 0 0 dX8_freeArcs_22 rfl rfl (by decide) fl_X8_freeArcs_121 rfl ?_
    refine g_icmp_ge F 61 h dX8_freeArcs_25 (by decide) (fun h => ?_) (fun h => ?_)
    · refine Go.sub (lv' := [(0, .ref (ao 0)), (1, .int x1), (2, .int x2)]) [0, 1, 2] rfl ?_
      exact hke x1 h
    · refine g_aload_n F dX8_freeArcs_28 rfl 0 rfl ?_
      refine g_get F (C := RX8) (T := TX8) (N := 11) (ci := 8) (v := .ref (ao 10000)) hi_X8_freeArcs_X8 0 0 0 dX8_freeArcs_29 rfl rfl (by decide) fl_X8_freeArcs_10 rfl ?_
      refine g_iload_n F dX8_freeArcs_32 rfl 2 rfl ?_
      refine g_iload_n F dX8_freeArcs_33 rfl 3 rfl ?_
      obtain ⟨r1, hr1, h⟩ := bnd h
      refine g_cV F [.int x2, .int x3] 0 0 (ok_X3_canTake (gl G) (gD G) cy (fun k => ao (10000 + k)) Nn x2 x3 r1 hr1) dX8_freeArcs_34 rfl rfl gX8_freeArcs_X3_canTake rfl ⟨rfl, cd_X3_canTake⟩ (by decide) rfl (Nat.le_of_ble_eq_true rfl) [1] (by decide) rfl rfl (sg' := [(sAO ao), (sNet cy (fun k => ao (10000 + k)) Nn)]) (st' := [.int r1]) rfl rfl ?_
      refine g_if_eq F 55 h dX8_freeArcs_37 (by decide) (fun h => ?_) (fun h => ?_)
      · refine g_iinc F (v := (x3 + 1)) (lv' := [(3, .int (x3 + 1)), (0, .ref (ao 0)), (1, .int x1), (2, .int x2)]) dX8_freeArcs_55 3 rfl rfl (by decide) rfl ?_
        refine g_goto F 17 dX8_freeArcs_58 (by decide) ?_
        refine Go.sub (lv' := [(0, .ref (ao 0)), (1, .int x1), (2, .int x2), (3, .int (x3 + 1))]) [1, 2, 3, 0] rfl ?_
        exact ih x1 (x3 + 1) h
      · refine g_aload_n F dX8_freeArcs_40 rfl 0 rfl ?_
        refine g_get F (C := RX8) (T := TX8) (N := 11) (ci := 8) (v := .ref (ao 10000)) hi_X8_freeArcs_X8 0 0 0 dX8_freeArcs_41 rfl rfl (by decide) fl_X8_freeArcs_10 rfl ?_
        refine g_iload_n F dX8_freeArcs_44 rfl 2 rfl ?_
        refine g_iload_n F dX8_freeArcs_45 rfl 3 rfl ?_
        obtain ⟨r2, hr2, h⟩ := bnd h
        refine g_cV F [.int x2, .int x3] 0 0 (ok_X3_movedBy (gl G) (gD G) cy (fun k => ao (10000 + k)) Nn x2 x3 r2 hr2) dX8_freeArcs_46 rfl rfl gX8_freeArcs_X3_movedBy rfl ⟨rfl, cd_X3_movedBy⟩ (by decide) rfl (Nat.le_of_ble_eq_true rfl) [1] (by decide) rfl rfl (sg' := [(sAO ao), (sNet cy (fun k => ao (10000 + k)) Nn)]) (st' := [.int r2]) rfl rfl ?_
        refine g_if_ne F 55 h dX8_freeArcs_49 (by decide) (fun h => ?_) (fun h => ?_)
        · refine g_iinc F (v := (x3 + 1)) (lv' := [(3, .int (x3 + 1)), (0, .ref (ao 0)), (1, .int x1), (2, .int x2)]) dX8_freeArcs_55 3 rfl rfl (by decide) rfl ?_
          refine g_goto F 17 dX8_freeArcs_58 (by decide) ?_
          refine Go.sub (lv' := [(0, .ref (ao 0)), (1, .int x1), (2, .int x2), (3, .int (x3 + 1))]) [1, 2, 3, 0] rfl ?_
          exact ih x1 (x3 + 1) h
        · refine g_iinc F (v := (x1 + 1)) (lv' := [(1, .int (x1 + 1)), (0, .ref (ao 0)), (2, .int x2), (3, .int x3)]) dX8_freeArcs_52 1 rfl rfl (by decide) rfl ?_
          refine g_iinc F (v := (x3 + 1)) (lv' := [(3, .int (x3 + 1)), (1, .int (x1 + 1)), (0, .ref (ao 0)), (2, .int x2)]) dX8_freeArcs_55 3 rfl rfl (by decide) rfl ?_
          refine g_goto F 17 dX8_freeArcs_58 (by decide) ?_
          refine Go.sub (lv' := [(0, .ref (ao 0)), (1, .int (x1 + 1)), (2, .int x2), (3, .int (x3 + 1))]) [2, 1, 3, 0] rfl ?_
          exact ih (x1 + 1) (x3 + 1) h
set_option maxHeartbeats 4000000 in
set_option maxRecDepth 100000 in
theorem k_X8_freeArcs_4_ok {G : GX} {cy : Nat → ClassId} (ao : Nat → Nat)   (Nn : NetS) {out : Int32} (F : Fx G cX8_freeArcs wsX8_freeArcs RX8 cy 4 (rm_X8_freeArcs)) (Rq : Rx G "freeArcs" (some .int) (some (.int out)) (fun z => z = [(sAO ao), (sNet cy (fun k => ao (10000 + k)) Nn)]) 0 0) (ke : Int32 → Option (Int32)) (hke : ∀ (x1 : Int32) , ke x1 = some out → Go G 0 0 67 [(1, .int x1)] [] [(sAO ao), (sNet cy (fun k => ao (10000 + k)) Nn)]) : ∀ (n : Nat) (x1 : Int32) (x2 : Int32) , k_X8_freeArcs_4 Nn ke n x1 x2 = some out → Go G 0 0 4 [(0, .ref (ao 0)), (1, .int x1), (2, .int x2)] [] [(sAO ao), (sNet cy (fun k => ao (10000 + k)) Nn)] := by
  intro n
  induction n with
  | zero =>
    intro x1 x2 h
    exact nosome h
  | succ n ih =>
    intro x1 x2 h
    rw [k_X8_freeArcs_4.eq_2] at h
    refine g_iload_n F dX8_freeArcs_4 rfl 2 rfl ?_
    refine g_aload_n F dX8_freeArcs_5 rfl 0 rfl ?_
    refine g_get F (C := RX8) (T := TX8) (N := 11) (ci := 8) (v := .ref (ao 10000)) hi_X8_freeArcs_X8 0 0 0 dX8_freeArcs_6 rfl rfl (by decide) fl_X8_freeArcs_10 rfl ?_
    refine g_get F (C := RX3) (T := TX3) (N := 7) (ci := 3) (v := .int Nn.1) hi_X8_freeArcs_X3 1 0 0 dX8_freeArcs_9 rfl rfl (by decide) fl_X8_freeArcs_121 rfl ?_
    refine g_icmp_ge F 67 h dX8_freeArcs_12 (by decide) (fun h => ?_) (fun h => ?_)
    · refine Go.sub (lv' := [(1, .int x1)]) [1] rfl ?_
      exact hke x1 h
    · refine g_iconst F (v := (0 : Int32)) dX8_freeArcs_15 (by decide) ?_
      refine g_istore_n F (lv' := [(3, .int (0 : Int32)), (0, .ref (ao 0)), (1, .int x1), (2, .int x2)]) dX8_freeArcs_16 rfl (by decide) rfl ?_
      refine Go.sub (lv' := [(0, .ref (ao 0)), (1, .int x1), (2, .int x2), (3, .int (0 : Int32))]) [1, 2, 3, 0] rfl ?_
      refine k_X8_freeArcs_17_ok ao x2 Nn F Rq _ (fun x1_3 h => ?_) _ x1 (0 : Int32) h
      refine g_iinc F (v := (x2 + 1)) (lv' := [(2, .int (x2 + 1)), (0, .ref (ao 0)), (1, .int x1_3)]) dX8_freeArcs_61 2 rfl rfl (by decide) rfl ?_
      refine g_goto F 4 dX8_freeArcs_64 (by decide) ?_
      refine Go.sub (lv' := [(0, .ref (ao 0)), (1, .int x1_3), (2, .int (x2 + 1))]) [1, 2, 0] rfl ?_
      exact ih x1_3 (x2 + 1) h
set_option maxHeartbeats 4000000 in
set_option maxRecDepth 100000 in
theorem ok_X8_freeArcs (l : Launch) (D : va_G) (cy : Nat → ClassId) (ao : Nat → Nat)  (Nn : NetS)  (out : Int32) (h : f_X8_freeArcs Nn = some out) : OK l D cy yX8_freeArcs wsX8_freeArcs rm_X8_freeArcs [.ref (ao 0)] [(sAO ao), (sNet cy (fun k => ao (10000 + k)) Nn)] (some (.int out)) [(sAO ao), (sNet cy (fun k => ao (10000 + k)) Nn)] := by
  refine OKx.of (cc := cX8_freeArcs) (maxL := 4) (ret := (some .int)) (by decide) rfl (Nat.le_of_ble_eq_true rfl) (fun G F Rq => ?_)
  show Go G 0 0 0 [(0, .ref (ao 0))] [] [(sAO ao), (sNet cy (fun k => ao (10000 + k)) Nn)]
  replace F : Fx G cX8_freeArcs wsX8_freeArcs RX8 cy 4 (rm_X8_freeArcs) := F
  replace Rq : Rx G "freeArcs" (some .int) (some (.int out)) (fun z => z = [(sAO ao), (sNet cy (fun k => ao (10000 + k)) Nn)]) 0 0 := Rq
  unfold f_X8_freeArcs at h
  refine g_iconst F (v := (0 : Int32)) dX8_freeArcs_0 (by decide) ?_
  refine g_istore_n F (lv' := [(1, .int (0 : Int32)), (0, .ref (ao 0))]) dX8_freeArcs_1 rfl (by decide) rfl ?_
  refine g_iconst F (v := (0 : Int32)) dX8_freeArcs_2 (by decide) ?_
  refine g_istore_n F (lv' := [(2, .int (0 : Int32)), (1, .int (0 : Int32)), (0, .ref (ao 0))]) dX8_freeArcs_3 rfl (by decide) rfl ?_
  refine Go.sub (lv' := [(0, .ref (ao 0)), (1, .int (0 : Int32)), (2, .int (0 : Int32))]) [2, 1, 0] rfl ?_
  refine k_X8_freeArcs_4_ok ao Nn F Rq _ (fun x1_4 h => ?_) _ (0 : Int32) (0 : Int32) h
  refine g_iload_n F dX8_freeArcs_67 rfl 0 rfl ?_
  obtain rfl := Option.some.inj h
  exact g_iret F Rq rfl dX8_freeArcs_68
theorem hi_X8_arcMovingMost_X8 : ∀ w ∈ u_ws RX8 TX8 11, w ∈ wsX8_arcMovingMost := by decide +kernel
theorem fl_X8_arcMovingMost_10 : Cond.fieldLink RX8 10 "ArcOrder" "net" "LArcOrder$Net;" ∈ wsX8_arcMovingMost := by decide +kernel
theorem hi_X8_arcMovingMost_X3 : ∀ w ∈ u_ws RX3 TX3 7, w ∈ wsX8_arcMovingMost := by decide +kernel
theorem fl_X8_arcMovingMost_121 : Cond.fieldLink RX8 121 "ArcOrder$Net" "items" "I" ∈ wsX8_arcMovingMost := by decide +kernel
abbrev rm_X8_arcMovingMost : Room := { frames := 3, cells := 0, slots := 0, locals := 69 }
set_option maxHeartbeats 4000000 in
set_option maxRecDepth 100000 in
theorem k_X8_arcMovingMost_21_ok {G : GX} {cy : Nat → ClassId} (ao : Nat → Nat)  (x3 : Int32) (Nn : NetS) {out : Int32} (F : Fx G cX8_arcMovingMost wsX8_arcMovingMost RX8 cy 6 (rm_X8_arcMovingMost)) (Rq : Rx G "arcMovingMost" (some .int) (some (.int out)) (fun z => z = [(sAO ao), (sNet cy (fun k => ao (10000 + k)) Nn)]) 0 0) (ke : Int32 → Int32 → Option (Int32)) (hke : ∀ (x1 : Int32) (x2 : Int32) , ke x1 x2 = some out → Go G 0 0 86 [(0, .ref (ao 0)), (1, .int x1), (2, .int x2), (3, .int x3)] [] [(sAO ao), (sNet cy (fun k => ao (10000 + k)) Nn)]) : ∀ (n : Nat) (x1 : Int32) (x2 : Int32) (x4 : Int32) , k_X8_arcMovingMost_21 x3 Nn ke n x1 x2 x4 = some out → Go G 0 0 21 [(0, .ref (ao 0)), (1, .int x1), (2, .int x2), (3, .int x3), (4, .int x4)] [] [(sAO ao), (sNet cy (fun k => ao (10000 + k)) Nn)] := by
  intro n
  induction n with
  | zero =>
    intro x1 x2 x4 h
    exact nosome h
  | succ n ih =>
    intro x1 x2 x4 h
    rw [k_X8_arcMovingMost_21.eq_2] at h
    refine g_iload F dX8_arcMovingMost_21 4 rfl ?_
    refine g_aload_n F dX8_arcMovingMost_23 rfl 0 rfl ?_
    refine g_get F (C := RX8) (T := TX8) (N := 11) (ci := 8) (v := .ref (ao 10000)) hi_X8_arcMovingMost_X8 0 0 0 dX8_arcMovingMost_24 rfl rfl (by decide) fl_X8_arcMovingMost_10 rfl ?_
    refine g_get F (C := RX3) (T := TX3) (N := 7) (ci := 3) (v := .int Nn.1) hi_X8_arcMovingMost_X3 1 0 0 dX8_arcMovingMost_27 rfl rfl (by decide) fl_X8_arcMovingMost_121 rfl ?_
    refine g_icmp_ge F 86 h dX8_arcMovingMost_30 (by decide) (fun h => ?_) (fun h => ?_)
    · refine Go.sub (lv' := [(0, .ref (ao 0)), (1, .int x1), (2, .int x2), (3, .int x3)]) [0, 1, 2, 3] rfl ?_
      exact hke x1 x2 h
    · refine g_aload_n F dX8_arcMovingMost_33 rfl 0 rfl ?_
      refine g_get F (C := RX8) (T := TX8) (N := 11) (ci := 8) (v := .ref (ao 10000)) hi_X8_arcMovingMost_X8 0 0 0 dX8_arcMovingMost_34 rfl rfl (by decide) fl_X8_arcMovingMost_10 rfl ?_
      refine g_iload_n F dX8_arcMovingMost_37 rfl 3 rfl ?_
      refine g_iload F dX8_arcMovingMost_38 4 rfl ?_
      obtain ⟨r1, hr1, h⟩ := bnd h
      refine g_cV F [.int x3, .int x4] 0 0 (ok_X3_canTake (gl G) (gD G) cy (fun k => ao (10000 + k)) Nn x3 x4 r1 hr1) dX8_arcMovingMost_40 rfl rfl gX8_arcMovingMost_X3_canTake rfl ⟨rfl, cd_X3_canTake⟩ (by decide) rfl (Nat.le_of_ble_eq_true rfl) [1] (by decide) rfl rfl (sg' := [(sAO ao), (sNet cy (fun k => ao (10000 + k)) Nn)]) (st' := [.int r1]) rfl rfl ?_
      refine g_if_ne F 49 h dX8_arcMovingMost_43 (by decide) (fun h => ?_) (fun h => ?_)
      · refine g_aload_n F dX8_arcMovingMost_49 rfl 0 rfl ?_
        refine g_get F (C := RX8) (T := TX8) (N := 11) (ci := 8) (v := .ref (ao 10000)) hi_X8_arcMovingMost_X8 0 0 0 dX8_arcMovingMost_50 rfl rfl (by decide) fl_X8_arcMovingMost_10 rfl ?_
        refine g_iload_n F dX8_arcMovingMost_53 rfl 3 rfl ?_
        refine g_iload F dX8_arcMovingMost_54 4 rfl ?_
        obtain ⟨r2, hr2, h⟩ := bnd h
        refine g_cV F [.int x3, .int x4] 0 0 (ok_X3_movedBy (gl G) (gD G) cy (fun k => ao (10000 + k)) Nn x3 x4 r2 hr2) dX8_arcMovingMost_56 rfl rfl gX8_arcMovingMost_X3_movedBy rfl ⟨rfl, cd_X3_movedBy⟩ (by decide) rfl (Nat.le_of_ble_eq_true rfl) [1] (by decide) rfl rfl (sg' := [(sAO ao), (sNet cy (fun k => ao (10000 + k)) Nn)]) (st' := [.int r2]) rfl rfl ?_
        obtain ⟨r3, hr3, h⟩ := bnd h
        refine g_cS F [.int r2] (ok_J6_bitCount_0f7a4 (gl G) (gD G) cy r2 r3 hr3) dX8_arcMovingMost_59 gX8_arcMovingMost_J6_bitCount_0f7a4 rfl cd_J6_bitCount_0f7a4 (by decide) rfl (Nat.le_of_ble_eq_true rfl) [] (by decide) rfl rfl (sg' := [(sAO ao), (sNet cy (fun k => ao (10000 + k)) Nn)]) (st' := [.int r3]) rfl rfl ?_
        refine g_istore F (lv' := [(5, .int r3), (0, .ref (ao 0)), (1, .int x1), (2, .int x2), (3, .int x3), (4, .int x4)]) dX8_arcMovingMost_62 (by decide) rfl ?_
        refine g_iload F dX8_arcMovingMost_64 0 rfl ?_
        refine g_iload_n F dX8_arcMovingMost_66 rfl 3 rfl ?_
        refine g_icmp_le F 80 h dX8_arcMovingMost_67 (by decide) (fun h => ?_) (fun h => ?_)
        · refine g_iinc F (v := (x4 + 1)) (lv' := [(4, .int (x4 + 1)), (5, .int r3), (0, .ref (ao 0)), (1, .int x1), (2, .int x2), (3, .int x3)]) dX8_arcMovingMost_80 5 rfl rfl (by decide) rfl ?_
          refine g_goto F 21 dX8_arcMovingMost_83 (by decide) ?_
          refine Go.sub (lv' := [(0, .ref (ao 0)), (1, .int x1), (2, .int x2), (3, .int x3), (4, .int (x4 + 1))]) [2, 3, 4, 5, 0] rfl ?_
          exact ih x1 x2 (x4 + 1) h
        · refine g_iload F dX8_arcMovingMost_70 0 rfl ?_
          refine g_istore_n F (lv' := [(2, .int r3), (5, .int r3), (0, .ref (ao 0)), (1, .int x1), (3, .int x3), (4, .int x4)]) dX8_arcMovingMost_72 rfl (by decide) rfl ?_
          refine g_iload_n F dX8_arcMovingMost_73 rfl 4 rfl ?_
          refine g_iload F dX8_arcMovingMost_74 5 rfl ?_
          obtain ⟨r4, hr4, h⟩ := bnd h
          refine g_cS F [.int x3, .int x4] (ok_X8_codeOf (gl G) (gD G) cy x3 x4 r4 hr4) dX8_arcMovingMost_76 gX8_arcMovingMost_X8_codeOf rfl cd_X8_codeOf (by decide) rfl (Nat.le_of_ble_eq_true rfl) [] (by decide) rfl rfl (sg' := [(sAO ao), (sNet cy (fun k => ao (10000 + k)) Nn)]) (st' := [.int r4]) rfl rfl ?_
          refine g_istore_n F (lv' := [(1, .int r4), (2, .int r3), (5, .int r3), (0, .ref (ao 0)), (3, .int x3), (4, .int x4)]) dX8_arcMovingMost_79 rfl (by decide) rfl ?_
          refine g_iinc F (v := (x4 + 1)) (lv' := [(4, .int (x4 + 1)), (1, .int r4), (2, .int r3), (5, .int r3), (0, .ref (ao 0)), (3, .int x3)]) dX8_arcMovingMost_80 5 rfl rfl (by decide) rfl ?_
          refine g_goto F 21 dX8_arcMovingMost_83 (by decide) ?_
          refine Go.sub (lv' := [(0, .ref (ao 0)), (1, .int r4), (2, .int r3), (3, .int x3), (4, .int (x4 + 1))]) [4, 1, 2, 5, 0] rfl ?_
          exact ih r4 r3 (x4 + 1) h
      · refine g_goto F 80 dX8_arcMovingMost_46 (by decide) ?_
        refine g_iinc F (v := (x4 + 1)) (lv' := [(4, .int (x4 + 1)), (0, .ref (ao 0)), (1, .int x1), (2, .int x2), (3, .int x3)]) dX8_arcMovingMost_80 4 rfl rfl (by decide) rfl ?_
        refine g_goto F 21 dX8_arcMovingMost_83 (by decide) ?_
        refine Go.sub (lv' := [(0, .ref (ao 0)), (1, .int x1), (2, .int x2), (3, .int x3), (4, .int (x4 + 1))]) [1, 2, 3, 4, 0] rfl ?_
        exact ih x1 x2 (x4 + 1) h
set_option maxHeartbeats 4000000 in
set_option maxRecDepth 100000 in
theorem k_X8_arcMovingMost_7_ok {G : GX} {cy : Nat → ClassId} (ao : Nat → Nat)   (Nn : NetS) {out : Int32} (F : Fx G cX8_arcMovingMost wsX8_arcMovingMost RX8 cy 6 (rm_X8_arcMovingMost)) (Rq : Rx G "arcMovingMost" (some .int) (some (.int out)) (fun z => z = [(sAO ao), (sNet cy (fun k => ao (10000 + k)) Nn)]) 0 0) (ke : Int32 → Option (Int32)) (hke : ∀ (x1 : Int32) , ke x1 = some out → Go G 0 0 92 [(1, .int x1)] [] [(sAO ao), (sNet cy (fun k => ao (10000 + k)) Nn)]) : ∀ (n : Nat) (x1 : Int32) (x2 : Int32) (x3 : Int32) , k_X8_arcMovingMost_7 Nn ke n x1 x2 x3 = some out → Go G 0 0 7 [(0, .ref (ao 0)), (1, .int x1), (2, .int x2), (3, .int x3)] [] [(sAO ao), (sNet cy (fun k => ao (10000 + k)) Nn)] := by
  intro n
  induction n with
  | zero =>
    intro x1 x2 x3 h
    exact nosome h
  | succ n ih =>
    intro x1 x2 x3 h
    rw [k_X8_arcMovingMost_7.eq_2] at h
    refine g_iload_n F dX8_arcMovingMost_7 rfl 3 rfl ?_
    refine g_aload_n F dX8_arcMovingMost_8 rfl 0 rfl ?_
    refine g_get F (C := RX8) (T := TX8) (N := 11) (ci := 8) (v := .ref (ao 10000)) hi_X8_arcMovingMost_X8 0 0 0 dX8_arcMovingMost_9 rfl rfl (by decide) fl_X8_arcMovingMost_10 rfl ?_
    refine g_get F (C := RX3) (T := TX3) (N := 7) (ci := 3) (v := .int Nn.1) hi_X8_arcMovingMost_X3 1 0 0 dX8_arcMovingMost_12 rfl rfl (by decide) fl_X8_arcMovingMost_121 rfl ?_
    refine g_icmp_ge F 92 h dX8_arcMovingMost_15 (by decide) (fun h => ?_) (fun h => ?_)
    · refine Go.sub (lv' := [(1, .int x1)]) [1] rfl ?_
      exact hke x1 h
    · refine g_iconst F (v := (0 : Int32)) dX8_arcMovingMost_18 (by decide) ?_
      refine g_istore F (lv' := [(4, .int (0 : Int32)), (0, .ref (ao 0)), (1, .int x1), (2, .int x2), (3, .int x3)]) dX8_arcMovingMost_19 (by decide) rfl ?_
      refine Go.sub (lv' := [(0, .ref (ao 0)), (1, .int x1), (2, .int x2), (3, .int x3), (4, .int (0 : Int32))]) [1, 2, 3, 4, 0] rfl ?_
      refine k_X8_arcMovingMost_21_ok ao x3 Nn F Rq _ (fun x1_5 x2_5 h => ?_) _ x1 x2 (0 : Int32) h
      refine g_iinc F (v := (x3 + 1)) (lv' := [(3, .int (x3 + 1)), (0, .ref (ao 0)), (1, .int x1_5), (2, .int x2_5)]) dX8_arcMovingMost_86 3 rfl rfl (by decide) rfl ?_
      refine g_goto F 7 dX8_arcMovingMost_89 (by decide) ?_
      refine Go.sub (lv' := [(0, .ref (ao 0)), (1, .int x1_5), (2, .int x2_5), (3, .int (x3 + 1))]) [1, 2, 3, 0] rfl ?_
      exact ih x1_5 x2_5 (x3 + 1) h
set_option maxHeartbeats 4000000 in
set_option maxRecDepth 100000 in
theorem ok_X8_arcMovingMost (l : Launch) (D : va_G) (cy : Nat → ClassId) (ao : Nat → Nat)  (Nn : NetS)  (out : Int32) (h : f_X8_arcMovingMost Nn = some out) : OK l D cy yX8_arcMovingMost wsX8_arcMovingMost rm_X8_arcMovingMost [.ref (ao 0)] [(sAO ao), (sNet cy (fun k => ao (10000 + k)) Nn)] (some (.int out)) [(sAO ao), (sNet cy (fun k => ao (10000 + k)) Nn)] := by
  refine OKx.of (cc := cX8_arcMovingMost) (maxL := 6) (ret := (some .int)) (by decide) rfl (Nat.le_of_ble_eq_true rfl) (fun G F Rq => ?_)
  show Go G 0 0 0 [(0, .ref (ao 0))] [] [(sAO ao), (sNet cy (fun k => ao (10000 + k)) Nn)]
  replace F : Fx G cX8_arcMovingMost wsX8_arcMovingMost RX8 cy 6 (rm_X8_arcMovingMost) := F
  replace Rq : Rx G "arcMovingMost" (some .int) (some (.int out)) (fun z => z = [(sAO ao), (sNet cy (fun k => ao (10000 + k)) Nn)]) 0 0 := Rq
  unfold f_X8_arcMovingMost at h
  refine g_bipush F (v := (-9 : Int32)) dX8_arcMovingMost_0 (by decide) ?_
  refine g_istore_n F (lv' := [(1, .int (-9 : Int32)), (0, .ref (ao 0))]) dX8_arcMovingMost_2 rfl (by decide) rfl ?_
  refine g_iconst F (v := (-1 : Int32)) dX8_arcMovingMost_3 (by decide) ?_
  refine g_istore_n F (lv' := [(2, .int (-1 : Int32)), (1, .int (-9 : Int32)), (0, .ref (ao 0))]) dX8_arcMovingMost_4 rfl (by decide) rfl ?_
  refine g_iconst F (v := (0 : Int32)) dX8_arcMovingMost_5 (by decide) ?_
  refine g_istore_n F (lv' := [(3, .int (0 : Int32)), (2, .int (-1 : Int32)), (1, .int (-9 : Int32)), (0, .ref (ao 0))]) dX8_arcMovingMost_6 rfl (by decide) rfl ?_
  refine Go.sub (lv' := [(0, .ref (ao 0)), (1, .int (-9 : Int32)), (2, .int (-1 : Int32)), (3, .int (0 : Int32))]) [3, 2, 1, 0] rfl ?_
  refine k_X8_arcMovingMost_7_ok ao Nn F Rq _ (fun x1_6 h => ?_) _ (-9 : Int32) (-1 : Int32) (0 : Int32) h
  refine g_iload_n F dX8_arcMovingMost_92 rfl 0 rfl ?_
  obtain rfl := Option.some.inj h
  exact g_iret F Rq rfl dX8_arcMovingMost_93
theorem hi_X8_spareArcs_X8 : ∀ w ∈ u_ws RX8 TX8 11, w ∈ wsX8_spareArcs := by decide +kernel
theorem fl_X8_spareArcs_10 : Cond.fieldLink RX8 10 "ArcOrder" "net" "LArcOrder$Net;" ∈ wsX8_spareArcs := by decide +kernel
theorem hi_X8_spareArcs_X3 : ∀ w ∈ u_ws RX3 TX3 7, w ∈ wsX8_spareArcs := by decide +kernel
theorem fl_X8_spareArcs_121 : Cond.fieldLink RX8 121 "ArcOrder$Net" "items" "I" ∈ wsX8_spareArcs := by decide +kernel
theorem fl_X8_spareArcs_109 : Cond.fieldLink RX8 109 "ArcOrder$Net" "in" "[I" ∈ wsX8_spareArcs := by decide +kernel
abbrev rm_X8_spareArcs : Room := { frames := 2, cells := 0, slots := 0, locals := 46 }
set_option maxHeartbeats 4000000 in
set_option maxRecDepth 100000 in
theorem k_X8_spareArcs_27_ok {G : GX} {cy : Nat → ClassId} (ao : Nat → Nat)  (x2 : Int32) (x3 : Int32) (Nn : NetS) {out : Int32} (F : Fx G cX8_spareArcs wsX8_spareArcs RX8 cy 5 (rm_X8_spareArcs)) (Rq : Rx G "spareArcs" (some .int) (some (.int out)) (fun z => z = [(sAO ao), (sNet cy (fun k => ao (10000 + k)) Nn)]) 0 0) (ke : Int32 → Option (Int32)) (hke : ∀ (x1 : Int32) , ke x1 = some out → Go G 0 0 76 [(0, .ref (ao 0)), (1, .int x1), (2, .int x2)] [] [(sAO ao), (sNet cy (fun k => ao (10000 + k)) Nn)]) : ∀ (n : Nat) (x1 : Int32) (x4 : Int32) , k_X8_spareArcs_27 x2 x3 Nn ke n x1 x4 = some out → Go G 0 0 27 [(0, .ref (ao 0)), (1, .int x1), (2, .int x2), (3, .int x3), (4, .int x4)] [] [(sAO ao), (sNet cy (fun k => ao (10000 + k)) Nn)] := by
  intro n
  induction n with
  | zero =>
    intro x1 x4 h
    exact nosome h
  | succ n ih =>
    intro x1 x4 h
    rw [k_X8_spareArcs_27.eq_2] at h
    refine g_iload F dX8_spareArcs_27 4 rfl ?_
    refine g_aload_n F dX8_spareArcs_29 rfl 0 rfl ?_
    refine g_get F (C := RX8) (T := TX8) (N := 11) (ci := 8) (v := .ref (ao 10000)) hi_X8_spareArcs_X8 0 0 0 dX8_spareArcs_30 rfl rfl (by decide) fl_X8_spareArcs_10 rfl ?_
    refine g_get F (C := RX3) (T := TX3) (N := 7) (ci := 3) (v := .int Nn.1) hi_X8_spareArcs_X3 1 0 0 dX8_spareArcs_33 rfl rfl (by decide) fl_X8_spareArcs_121 rfl ?_
    refine g_icmp_ge F 76 h dX8_spareArcs_36 (by decide) (fun h => ?_) (fun h => ?_)
    · refine Go.sub (lv' := [(0, .ref (ao 0)), (1, .int x1), (2, .int x2)]) [0, 1, 2] rfl ?_
      exact hke x1 h
    · refine g_aload_n F dX8_spareArcs_39 rfl 0 rfl ?_
      refine g_get F (C := RX8) (T := TX8) (N := 11) (ci := 8) (v := .ref (ao 10000)) hi_X8_spareArcs_X8 0 0 0 dX8_spareArcs_40 rfl rfl (by decide) fl_X8_spareArcs_10 rfl ?_
      refine g_iload_n F dX8_spareArcs_43 rfl 2 rfl ?_
      refine g_iload F dX8_spareArcs_44 4 rfl ?_
      obtain ⟨r2, hr2, h⟩ := bnd h
      refine g_cV F [.int x2, .int x4] 0 0 (ok_X3_has (gl G) (gD G) cy (fun k => ao (10000 + k)) Nn x2 x4 r2 hr2) dX8_spareArcs_46 rfl rfl gX8_spareArcs_X3_has rfl ⟨rfl, cd_X3_has⟩ (by decide) rfl (Nat.le_of_ble_eq_true rfl) [1] (by decide) rfl rfl (sg' := [(sAO ao), (sNet cy (fun k => ao (10000 + k)) Nn)]) (st' := [.int r2]) rfl rfl ?_
      refine g_if_eq F 70 h dX8_spareArcs_49 (by decide) (fun h => ?_) (fun h => ?_)
      · refine g_iinc F (v := (x4 + 1)) (lv' := [(4, .int (x4 + 1)), (0, .ref (ao 0)), (1, .int x1), (2, .int x2), (3, .int x3)]) dX8_spareArcs_70 4 rfl rfl (by decide) rfl ?_
        refine g_goto F 27 dX8_spareArcs_73 (by decide) ?_
        refine Go.sub (lv' := [(0, .ref (ao 0)), (1, .int x1), (2, .int x2), (3, .int x3), (4, .int (x4 + 1))]) [1, 2, 3, 4, 0] rfl ?_
        exact ih x1 (x4 + 1) h
      · refine g_aload_n F dX8_spareArcs_52 rfl 0 rfl ?_
        refine g_get F (C := RX8) (T := TX8) (N := 11) (ci := 8) (v := .ref (ao 10000)) hi_X8_spareArcs_X8 0 0 0 dX8_spareArcs_53 rfl rfl (by decide) fl_X8_spareArcs_10 rfl ?_
        refine g_get F (C := RX3) (T := TX3) (N := 7) (ci := 3) (v := .ref (ao 10004)) hi_X8_spareArcs_X3 1 0 3 dX8_spareArcs_56 rfl rfl (by decide) fl_X8_spareArcs_109 rfl ?_
        refine g_iload F dX8_spareArcs_59 4 rfl ?_
        refine g_iaload F h 1 2 dX8_spareArcs_61 rfl (fun h => ?_)
        refine g_iload_n F dX8_spareArcs_62 rfl 3 rfl ?_
        refine g_iand F dX8_spareArcs_63 ?_
        refine g_if_eq F 70 h dX8_spareArcs_64 (by decide) (fun h => ?_) (fun h => ?_)
        · refine g_iinc F (v := (x4 + 1)) (lv' := [(4, .int (x4 + 1)), (0, .ref (ao 0)), (1, .int x1), (2, .int x2), (3, .int x3)]) dX8_spareArcs_70 4 rfl rfl (by decide) rfl ?_
          refine g_goto F 27 dX8_spareArcs_73 (by decide) ?_
          refine Go.sub (lv' := [(0, .ref (ao 0)), (1, .int x1), (2, .int x2), (3, .int x3), (4, .int (x4 + 1))]) [1, 2, 3, 4, 0] rfl ?_
          exact ih x1 (x4 + 1) h
        · refine g_iinc F (v := (x1 + 1)) (lv' := [(1, .int (x1 + 1)), (0, .ref (ao 0)), (2, .int x2), (3, .int x3), (4, .int x4)]) dX8_spareArcs_67 1 rfl rfl (by decide) rfl ?_
          refine g_iinc F (v := (x4 + 1)) (lv' := [(4, .int (x4 + 1)), (1, .int (x1 + 1)), (0, .ref (ao 0)), (2, .int x2), (3, .int x3)]) dX8_spareArcs_70 4 rfl rfl (by decide) rfl ?_
          refine g_goto F 27 dX8_spareArcs_73 (by decide) ?_
          refine Go.sub (lv' := [(0, .ref (ao 0)), (1, .int (x1 + 1)), (2, .int x2), (3, .int x3), (4, .int (x4 + 1))]) [2, 1, 3, 4, 0] rfl ?_
          exact ih (x1 + 1) (x4 + 1) h
set_option maxHeartbeats 4000000 in
set_option maxRecDepth 100000 in
theorem k_X8_spareArcs_4_ok {G : GX} {cy : Nat → ClassId} (ao : Nat → Nat)   (Nn : NetS) {out : Int32} (F : Fx G cX8_spareArcs wsX8_spareArcs RX8 cy 5 (rm_X8_spareArcs)) (Rq : Rx G "spareArcs" (some .int) (some (.int out)) (fun z => z = [(sAO ao), (sNet cy (fun k => ao (10000 + k)) Nn)]) 0 0) (ke : Int32 → Option (Int32)) (hke : ∀ (x1 : Int32) , ke x1 = some out → Go G 0 0 82 [(1, .int x1)] [] [(sAO ao), (sNet cy (fun k => ao (10000 + k)) Nn)]) : ∀ (n : Nat) (x1 : Int32) (x2 : Int32) , k_X8_spareArcs_4 Nn ke n x1 x2 = some out → Go G 0 0 4 [(0, .ref (ao 0)), (1, .int x1), (2, .int x2)] [] [(sAO ao), (sNet cy (fun k => ao (10000 + k)) Nn)] := by
  intro n
  induction n with
  | zero =>
    intro x1 x2 h
    exact nosome h
  | succ n ih =>
    intro x1 x2 h
    rw [k_X8_spareArcs_4.eq_2] at h
    refine g_iload_n F dX8_spareArcs_4 rfl 2 rfl ?_
    refine g_aload_n F dX8_spareArcs_5 rfl 0 rfl ?_
    refine g_get F (C := RX8) (T := TX8) (N := 11) (ci := 8) (v := .ref (ao 10000)) hi_X8_spareArcs_X8 0 0 0 dX8_spareArcs_6 rfl rfl (by decide) fl_X8_spareArcs_10 rfl ?_
    refine g_get F (C := RX3) (T := TX3) (N := 7) (ci := 3) (v := .int Nn.1) hi_X8_spareArcs_X3 1 0 0 dX8_spareArcs_9 rfl rfl (by decide) fl_X8_spareArcs_121 rfl ?_
    refine g_icmp_ge F 82 h dX8_spareArcs_12 (by decide) (fun h => ?_) (fun h => ?_)
    · refine Go.sub (lv' := [(1, .int x1)]) [1] rfl ?_
      exact hke x1 h
    · refine g_aload_n F dX8_spareArcs_15 rfl 0 rfl ?_
      refine g_get F (C := RX8) (T := TX8) (N := 11) (ci := 8) (v := .ref (ao 10000)) hi_X8_spareArcs_X8 0 0 0 dX8_spareArcs_16 rfl rfl (by decide) fl_X8_spareArcs_10 rfl ?_
      refine g_iload_n F dX8_spareArcs_19 rfl 2 rfl ?_
      obtain ⟨r1, hr1, h⟩ := bnd h
      refine g_cV F [.int x2] 0 0 (ok_X3_allBehind (gl G) (gD G) cy (fun k => ao (10000 + k)) Nn x2 r1 hr1) dX8_spareArcs_20 rfl rfl gX8_spareArcs_X3_allBehind rfl ⟨rfl, cd_X3_allBehind⟩ (by decide) rfl (Nat.le_of_ble_eq_true rfl) [1] (by decide) rfl rfl (sg' := [(sAO ao), (sNet cy (fun k => ao (10000 + k)) Nn)]) (st' := [.int r1]) rfl rfl ?_
      refine g_istore_n F (lv' := [(3, .int r1), (0, .ref (ao 0)), (1, .int x1), (2, .int x2)]) dX8_spareArcs_23 rfl (by decide) rfl ?_
      refine g_iconst F (v := (0 : Int32)) dX8_spareArcs_24 (by decide) ?_
      refine g_istore F (lv' := [(4, .int (0 : Int32)), (3, .int r1), (0, .ref (ao 0)), (1, .int x1), (2, .int x2)]) dX8_spareArcs_25 (by decide) rfl ?_
      refine Go.sub (lv' := [(0, .ref (ao 0)), (1, .int x1), (2, .int x2), (3, .int r1), (4, .int (0 : Int32))]) [2, 3, 4, 1, 0] rfl ?_
      refine k_X8_spareArcs_27_ok ao x2 r1 Nn F Rq _ (fun x1_3 h => ?_) _ x1 (0 : Int32) h
      refine g_iinc F (v := (x2 + 1)) (lv' := [(2, .int (x2 + 1)), (0, .ref (ao 0)), (1, .int x1_3)]) dX8_spareArcs_76 2 rfl rfl (by decide) rfl ?_
      refine g_goto F 4 dX8_spareArcs_79 (by decide) ?_
      refine Go.sub (lv' := [(0, .ref (ao 0)), (1, .int x1_3), (2, .int (x2 + 1))]) [1, 2, 0] rfl ?_
      exact ih x1_3 (x2 + 1) h
set_option maxHeartbeats 4000000 in
set_option maxRecDepth 100000 in
theorem ok_X8_spareArcs (l : Launch) (D : va_G) (cy : Nat → ClassId) (ao : Nat → Nat)  (Nn : NetS)  (out : Int32) (h : f_X8_spareArcs Nn = some out) : OK l D cy yX8_spareArcs wsX8_spareArcs rm_X8_spareArcs [.ref (ao 0)] [(sAO ao), (sNet cy (fun k => ao (10000 + k)) Nn)] (some (.int out)) [(sAO ao), (sNet cy (fun k => ao (10000 + k)) Nn)] := by
  refine OKx.of (cc := cX8_spareArcs) (maxL := 5) (ret := (some .int)) (by decide) rfl (Nat.le_of_ble_eq_true rfl) (fun G F Rq => ?_)
  show Go G 0 0 0 [(0, .ref (ao 0))] [] [(sAO ao), (sNet cy (fun k => ao (10000 + k)) Nn)]
  replace F : Fx G cX8_spareArcs wsX8_spareArcs RX8 cy 5 (rm_X8_spareArcs) := F
  replace Rq : Rx G "spareArcs" (some .int) (some (.int out)) (fun z => z = [(sAO ao), (sNet cy (fun k => ao (10000 + k)) Nn)]) 0 0 := Rq
  unfold f_X8_spareArcs at h
  refine g_iconst F (v := (0 : Int32)) dX8_spareArcs_0 (by decide) ?_
  refine g_istore_n F (lv' := [(1, .int (0 : Int32)), (0, .ref (ao 0))]) dX8_spareArcs_1 rfl (by decide) rfl ?_
  refine g_iconst F (v := (0 : Int32)) dX8_spareArcs_2 (by decide) ?_
  refine g_istore_n F (lv' := [(2, .int (0 : Int32)), (1, .int (0 : Int32)), (0, .ref (ao 0))]) dX8_spareArcs_3 rfl (by decide) rfl ?_
  refine Go.sub (lv' := [(0, .ref (ao 0)), (1, .int (0 : Int32)), (2, .int (0 : Int32))]) [2, 1, 0] rfl ?_
  refine k_X8_spareArcs_4_ok ao Nn F Rq _ (fun x1_4 h => ?_) _ (0 : Int32) (0 : Int32) h
  refine g_iload_n F dX8_spareArcs_82 rfl 0 rfl ?_
  obtain rfl := Option.some.inj h
  exact g_iret F Rq rfl dX8_spareArcs_83
theorem hi_X8_now_X8 : ∀ w ∈ u_ws RX8 TX8 11, w ∈ wsX8_now := by decide +kernel
theorem fl_X8_now_10 : Cond.fieldLink RX8 10 "ArcOrder" "net" "LArcOrder$Net;" ∈ wsX8_now := by decide +kernel
theorem hi_X8_now_X3 : ∀ w ∈ u_ws RX3 TX3 7, w ∈ wsX8_now := by decide +kernel
theorem fl_X8_now_130 : Cond.fieldLink RX8 130 "ArcOrder$Net" "arcs" "I" ∈ wsX8_now := by decide +kernel
theorem fl_X8_now_36 : Cond.fieldLink RX8 36 "ArcOrder" "past" "LArcOrder$Past;" ∈ wsX8_now := by decide +kernel
theorem hi_X8_now_X4 : ∀ w ∈ u_ws RX4 TX4 2, w ∈ wsX8_now := by decide +kernel
theorem fl_X8_now_95 : Cond.fieldLink RX8 95 "ArcOrder$Past" "size" "I" ∈ wsX8_now := by decide +kernel
abbrev rm_X8_now : Room := { frames := 4, cells := 0, slots := 0, locals := 94 }
set_option maxHeartbeats 4000000 in
set_option maxRecDepth 100000 in
theorem ok_X8_now (l : Launch) (D : va_G) (cy : Nat → ClassId) (ao : Nat → Nat)  (Nn : NetS) (Pp : PstS) (x1 : Int32) (out : Int32) (h : f_X8_now Nn Pp x1 = some out) : OK l D cy yX8_now wsX8_now rm_X8_now [.ref (ao 0), .int x1] [(sAO ao), (sNet cy (fun k => ao (10000 + k)) Nn), (sPst cy (fun k => ao (50000 + k)) Pp)] (some (.int out)) [(sAO ao), (sNet cy (fun k => ao (10000 + k)) Nn), (sPst cy (fun k => ao (50000 + k)) Pp)] := by
  refine OKx.of (cc := cX8_now) (maxL := 2) (ret := (some .int)) (by decide) rfl (Nat.le_of_ble_eq_true rfl) (fun G F Rq => ?_)
  show Go G 0 0 0 [(0, .ref (ao 0)), (1, .int x1)] [] [(sAO ao), (sNet cy (fun k => ao (10000 + k)) Nn), (sPst cy (fun k => ao (50000 + k)) Pp)]
  replace F : Fx G cX8_now wsX8_now RX8 cy 2 (rm_X8_now) := F
  replace Rq : Rx G "now" (some .int) (some (.int out)) (fun z => z = [(sAO ao), (sNet cy (fun k => ao (10000 + k)) Nn), (sPst cy (fun k => ao (50000 + k)) Pp)]) 0 0 := Rq
  unfold f_X8_now at h
  refine g_iload_n F dX8_now_0 rfl 1 rfl ?_
  refine its h (fun c1 h => ?_) (fun c1 h => ?_)
  · refine g_tin F 40 dX8_now_1 (by rw [c1]; decide) (by rw [c1]; rfl) (by decide) ?_
    refine g_aload_n F dX8_now_40 rfl 0 rfl ?_
    refine g_get F (C := RX8) (T := TX8) (N := 11) (ci := 8) (v := .ref (ao 10000)) hi_X8_now_X8 0 0 0 dX8_now_41 rfl rfl (by decide) fl_X8_now_10 rfl ?_
    refine g_get F (C := RX3) (T := TX3) (N := 7) (ci := 3) (v := .int Nn.2.1) hi_X8_now_X3 1 0 1 dX8_now_44 rfl rfl (by decide) fl_X8_now_130 rfl ?_
    obtain rfl := Option.some.inj h
    exact g_iret F Rq rfl dX8_now_47
  refine its h (fun c2 h => ?_) (fun c2 h => ?_)
  · refine g_tin F 48 dX8_now_1 (by rw [c2]; decide) (by rw [c2]; rfl) (by decide) ?_
    refine g_aload_n F dX8_now_48 rfl 0 rfl ?_
    obtain ⟨r3, hr3, h⟩ := bnd h
    refine g_cV F [] 0 0 (ok_X8_freeArcs (gl G) (gD G) cy ao Nn r3 hr3) dX8_now_49 rfl rfl gX8_now_X8_freeArcs rfl ⟨rfl, cd_X8_freeArcs⟩ (by decide) rfl (Nat.le_of_ble_eq_true rfl) [0, 1] (by decide) rfl rfl (sg' := [(sAO ao), (sNet cy (fun k => ao (10000 + k)) Nn), (sPst cy (fun k => ao (50000 + k)) Pp)]) (st' := [.int r3]) rfl rfl ?_
    obtain rfl := Option.some.inj h
    exact g_iret F Rq rfl dX8_now_52
  refine its h (fun c4 h => ?_) (fun c4 h => ?_)
  · refine g_tin F 53 dX8_now_1 (by rw [c4]; decide) (by rw [c4]; rfl) (by decide) ?_
    refine g_aload_n F dX8_now_53 rfl 0 rfl ?_
    obtain ⟨r5, hr5, h⟩ := bnd h
    refine g_cV F [] 0 0 (ok_X8_arcMovingMost (gl G) (gD G) cy ao Nn r5 hr5) dX8_now_54 rfl rfl gX8_now_X8_arcMovingMost rfl ⟨rfl, cd_X8_arcMovingMost⟩ (by decide) rfl (Nat.le_of_ble_eq_true rfl) [0, 1] (by decide) rfl rfl (sg' := [(sAO ao), (sNet cy (fun k => ao (10000 + k)) Nn), (sPst cy (fun k => ao (50000 + k)) Pp)]) (st' := [.int r5]) rfl rfl ?_
    obtain rfl := Option.some.inj h
    exact g_iret F Rq rfl dX8_now_57
  refine its h (fun c6 h => ?_) (fun c6 h => ?_)
  · refine g_tin F 58 dX8_now_1 (by rw [c6]; decide) (by rw [c6]; rfl) (by decide) ?_
    refine g_aload_n F dX8_now_58 rfl 0 rfl ?_
    refine g_get F (C := RX8) (T := TX8) (N := 11) (ci := 8) (v := .ref (ao 10000)) hi_X8_now_X8 0 0 0 dX8_now_59 rfl rfl (by decide) fl_X8_now_10 rfl ?_
    obtain ⟨r7, hr7, h⟩ := bnd h
    refine g_cV F [] 0 0 (ok_X3_longestChain (gl G) (gD G) cy (fun k => ao (10000 + k)) Nn r7 hr7) dX8_now_62 rfl rfl gX8_now_X3_longestChain rfl ⟨rfl, cd_X3_longestChain⟩ (by decide) rfl (Nat.le_of_ble_eq_true rfl) [1] (by decide) rfl rfl (sg' := [(sAO ao), (sNet cy (fun k => ao (10000 + k)) Nn), (sPst cy (fun k => ao (50000 + k)) Pp)]) (st' := [.int r7]) rfl rfl ?_
    obtain rfl := Option.some.inj h
    exact g_iret F Rq rfl dX8_now_65
  refine its h (fun c8 h => ?_) (fun c8 h => ?_)
  · refine g_tin F 66 dX8_now_1 (by rw [c8]; decide) (by rw [c8]; rfl) (by decide) ?_
    refine g_aload_n F dX8_now_66 rfl 0 rfl ?_
    obtain ⟨r9, hr9, h⟩ := bnd h
    refine g_cV F [] 0 0 (ok_X8_spareArcs (gl G) (gD G) cy ao Nn r9 hr9) dX8_now_67 rfl rfl gX8_now_X8_spareArcs rfl ⟨rfl, cd_X8_spareArcs⟩ (by decide) rfl (Nat.le_of_ble_eq_true rfl) [0, 1] (by decide) rfl rfl (sg' := [(sAO ao), (sNet cy (fun k => ao (10000 + k)) Nn), (sPst cy (fun k => ao (50000 + k)) Pp)]) (st' := [.int r9]) rfl rfl ?_
    obtain rfl := Option.some.inj h
    exact g_iret F Rq rfl dX8_now_70
  refine its h (fun c10 h => ?_) (fun c10 h => ?_)
  · refine g_tin F 71 dX8_now_1 (by rw [c10]; decide) (by rw [c10]; rfl) (by decide) ?_
    refine g_aload_n F dX8_now_71 rfl 0 rfl ?_
    refine g_get F (C := RX8) (T := TX8) (N := 11) (ci := 8) (v := .ref (ao 50000)) hi_X8_now_X8 0 0 4 dX8_now_72 rfl rfl (by decide) fl_X8_now_36 rfl ?_
    refine g_get F (C := RX4) (T := TX4) (N := 2) (ci := 4) (v := .int Pp.1) hi_X8_now_X4 2 0 0 dX8_now_75 rfl rfl (by decide) fl_X8_now_95 rfl ?_
    obtain rfl := Option.some.inj h
    exact g_iret F Rq rfl dX8_now_78
  · refine g_tout F 79 dX8_now_1 (sw_out (n := 5) (by decide) (fun k hk => by match k, hk with | 0, _ => exact c1 | 1, _ => exact c2 | 2, _ => exact c4 | 3, _ => exact c6 | 4, _ => exact c8 | 5, _ => exact c10 | k + 6, hk => omega)) (by decide) ?_
    refine g_iconst F (v := (-1 : Int32)) dX8_now_79 (by decide) ?_
    obtain rfl := Option.some.inj h
    exact g_iret F Rq rfl dX8_now_80
theorem hi_X8_puts_X8 : ∀ w ∈ u_ws RX8 TX8 11, w ∈ wsX8_puts := by decide +kernel
theorem fl_X8_puts_10 : Cond.fieldLink RX8 10 "ArcOrder" "net" "LArcOrder$Net;" ∈ wsX8_puts := by decide +kernel
theorem fl_X8_puts_36 : Cond.fieldLink RX8 36 "ArcOrder" "past" "LArcOrder$Past;" ∈ wsX8_puts := by decide +kernel
theorem fl_X8_puts_43 : Cond.fieldLink RX8 43 "ArcOrder" "ring" "LArcOrder$Lap;" ∈ wsX8_puts := by decide +kernel
abbrev rm_X8_puts : Room := { frames := 4, cells := 0, slots := 0, locals := 221 }
set_option maxHeartbeats 4000000 in
set_option maxRecDepth 100000 in
theorem ok_X8_puts (l : Launch) (D : va_G) (cy : Nat → ClassId) (ao : Nat → Nat)  (Nn : NetS) (Pp : PstS) (Rr : LapS) (x1 : Int32) (x2 : Int32) (out : Int32 × NetS × PstS × LapS) (h : f_X8_puts Nn Pp Rr x1 x2 = some out) : OK l D cy yX8_puts wsX8_puts rm_X8_puts [.ref (ao 0), .int x1, .int x2] [(sAO ao), (sNet cy (fun k => ao (10000 + k)) Nn), (sPst cy (fun k => ao (50000 + k)) Pp), (sLap cy (fun k => ao (60000 + k)) Rr)] (some (.int out.1)) [(sAO ao), (sNet cy (fun k => ao (10000 + k)) out.2.1), (sPst cy (fun k => ao (50000 + k)) out.2.2.1), (sLap cy (fun k => ao (60000 + k)) out.2.2.2)] := by
  refine OKx.of (cc := cX8_puts) (maxL := 3) (ret := (some .int)) (by decide) rfl (Nat.le_of_ble_eq_true rfl) (fun G F Rq => ?_)
  show Go G 0 0 0 [(0, .ref (ao 0)), (1, .int x1), (2, .int x2)] [] [(sAO ao), (sNet cy (fun k => ao (10000 + k)) Nn), (sPst cy (fun k => ao (50000 + k)) Pp), (sLap cy (fun k => ao (60000 + k)) Rr)]
  replace F : Fx G cX8_puts wsX8_puts RX8 cy 3 (rm_X8_puts) := F
  replace Rq : Rx G "puts" (some .int) (some (.int out.1)) (fun z => z = [(sAO ao), (sNet cy (fun k => ao (10000 + k)) out.2.1), (sPst cy (fun k => ao (50000 + k)) out.2.2.1), (sLap cy (fun k => ao (60000 + k)) out.2.2.2)]) 0 0 := Rq
  unfold f_X8_puts at h
  refine g_aload_n F dX8_puts_0 rfl 0 rfl ?_
  refine g_get F (C := RX8) (T := TX8) (N := 11) (ci := 8) (v := .ref (ao 10000)) hi_X8_puts_X8 0 0 0 dX8_puts_1 rfl rfl (by decide) fl_X8_puts_10 rfl ?_
  refine g_iload_n F dX8_puts_4 rfl 1 rfl ?_
  refine g_iload_n F dX8_puts_5 rfl 2 rfl ?_
  obtain ⟨r1, hr1, h⟩ := bnd h
  refine g_cV F [.int x1, .int x2] 0 0 (ok_X3_isPair (gl G) (gD G) cy (fun k => ao (10000 + k)) Nn x1 x2 r1 hr1) dX8_puts_6 rfl rfl gX8_puts_X3_isPair rfl ⟨rfl, cd_X3_isPair⟩ (by decide) rfl (Nat.le_of_ble_eq_true rfl) [1] (by decide) rfl rfl (sg' := [(sAO ao), (sNet cy (fun k => ao (10000 + k)) Nn), (sPst cy (fun k => ao (50000 + k)) Pp), (sLap cy (fun k => ao (60000 + k)) Rr)]) (st' := [.int r1]) rfl rfl ?_
  refine g_if_ne F 14 h dX8_puts_9 (by decide) (fun h => ?_) (fun h => ?_)
  · refine g_aload_n F dX8_puts_14 rfl 0 rfl ?_
    refine g_get F (C := RX8) (T := TX8) (N := 11) (ci := 8) (v := .ref (ao 10000)) hi_X8_puts_X8 0 0 0 dX8_puts_15 rfl rfl (by decide) fl_X8_puts_10 rfl ?_
    refine g_iload_n F dX8_puts_18 rfl 1 rfl ?_
    refine g_iload_n F dX8_puts_19 rfl 2 rfl ?_
    obtain ⟨r2, hr2, h⟩ := bnd h
    refine g_cV F [.int x1, .int x2] 0 0 (ok_X3_has (gl G) (gD G) cy (fun k => ao (10000 + k)) Nn x1 x2 r2 hr2) dX8_puts_20 rfl rfl gX8_puts_X3_has rfl ⟨rfl, cd_X3_has⟩ (by decide) rfl (Nat.le_of_ble_eq_true rfl) [1] (by decide) rfl rfl (sg' := [(sAO ao), (sNet cy (fun k => ao (10000 + k)) Nn), (sPst cy (fun k => ao (50000 + k)) Pp), (sLap cy (fun k => ao (60000 + k)) Rr)]) (st' := [.int r2]) rfl rfl ?_
    refine g_if_eq F 29 h dX8_puts_23 (by decide) (fun h => ?_) (fun h => ?_)
    · refine g_aload_n F dX8_puts_29 rfl 0 rfl ?_
      refine g_get F (C := RX8) (T := TX8) (N := 11) (ci := 8) (v := .ref (ao 10000)) hi_X8_puts_X8 0 0 0 dX8_puts_30 rfl rfl (by decide) fl_X8_puts_10 rfl ?_
      refine g_iload_n F dX8_puts_33 rfl 1 rfl ?_
      refine g_iload_n F dX8_puts_34 rfl 2 rfl ?_
      obtain ⟨r3, hr3, h⟩ := bnd h
      refine g_cV F [.int x1, .int x2] 0 0 (ok_X3_closesRing (gl G) (gD G) cy (fun k => ao (10000 + k)) Nn x1 x2 r3 hr3) dX8_puts_35 rfl rfl gX8_puts_X3_closesRing rfl ⟨rfl, cd_X3_closesRing⟩ (by decide) rfl (Nat.le_of_ble_eq_true rfl) [1] (by decide) rfl rfl (sg' := [(sAO ao), (sNet cy (fun k => ao (10000 + k)) Nn), (sPst cy (fun k => ao (50000 + k)) Pp), (sLap cy (fun k => ao (60000 + k)) Rr)]) (st' := [.int r3]) rfl rfl ?_
      refine g_if_eq F 57 h dX8_puts_38 (by decide) (fun h => ?_) (fun h => ?_)
      · refine g_aload_n F dX8_puts_57 rfl 0 rfl ?_
        refine g_get F (C := RX8) (T := TX8) (N := 11) (ci := 8) (v := .ref (ao 50000)) hi_X8_puts_X8 0 0 4 dX8_puts_58 rfl rfl (by decide) fl_X8_puts_36 rfl ?_
        refine g_aload_n F dX8_puts_61 rfl 0 rfl ?_
        refine g_get F (C := RX8) (T := TX8) (N := 11) (ci := 8) (v := .ref (ao 10000)) hi_X8_puts_X8 0 0 0 dX8_puts_62 rfl rfl (by decide) fl_X8_puts_10 rfl ?_
        obtain ⟨r4, hr4, h⟩ := bnd h
        refine g_cV F [.ref (ao 10000)] 0 0 (ok_X4_push (gl G) (gD G) cy (fun k => ao (50000 + k)) (fun k => ao (10000 + k)) Pp Nn r4 hr4) dX8_puts_65 rfl rfl gX8_puts_X4_push rfl ⟨rfl, cd_X4_push⟩ (by decide) rfl (Nat.le_of_ble_eq_true rfl) [2, 1] (by decide) rfl rfl (sg' := [(sAO ao), (sNet cy (fun k => ao (10000 + k)) Nn), (sPst cy (fun k => ao (50000 + k)) r4), (sLap cy (fun k => ao (60000 + k)) Rr)]) (st' := []) rfl rfl ?_
        refine g_aload_n F dX8_puts_68 rfl 0 rfl ?_
        refine g_get F (C := RX8) (T := TX8) (N := 11) (ci := 8) (v := .ref (ao 10000)) hi_X8_puts_X8 0 0 0 dX8_puts_69 rfl rfl (by decide) fl_X8_puts_10 rfl ?_
        refine g_iload_n F dX8_puts_72 rfl 1 rfl ?_
        refine g_iload_n F dX8_puts_73 rfl 2 rfl ?_
        obtain ⟨r5, hr5, h⟩ := bnd h
        refine g_cV F [.int x1, .int x2] 0 0 (ok_X3_put (gl G) (gD G) cy (fun k => ao (10000 + k)) Nn x1 x2 r5 hr5) dX8_puts_74 rfl rfl gX8_puts_X3_put rfl ⟨rfl, cd_X3_put⟩ (by decide) rfl (Nat.le_of_ble_eq_true rfl) [1] (by decide) rfl rfl (sg' := [(sAO ao), (sNet cy (fun k => ao (10000 + k)) r5.2), (sPst cy (fun k => ao (50000 + k)) r4), (sLap cy (fun k => ao (60000 + k)) Rr)]) (st' := [.int r5.1]) rfl rfl ?_
        obtain rfl := Option.some.inj h
        exact g_iret F Rq rfl dX8_puts_77
      · refine g_aload_n F dX8_puts_41 rfl 0 rfl ?_
        refine g_get F (C := RX8) (T := TX8) (N := 11) (ci := 8) (v := .ref (ao 60000)) hi_X8_puts_X8 0 0 5 dX8_puts_42 rfl rfl (by decide) fl_X8_puts_43 rfl ?_
        refine g_aload_n F dX8_puts_45 rfl 0 rfl ?_
        refine g_get F (C := RX8) (T := TX8) (N := 11) (ci := 8) (v := .ref (ao 10000)) hi_X8_puts_X8 0 0 0 dX8_puts_46 rfl rfl (by decide) fl_X8_puts_10 rfl ?_
        refine g_iload_n F dX8_puts_49 rfl 1 rfl ?_
        refine g_iload_n F dX8_puts_50 rfl 2 rfl ?_
        obtain ⟨r6, hr6, h⟩ := bnd h
        refine g_cV F [.ref (ao 10000), .int x1, .int x2] 0 0 (ok_X2_trace (gl G) (gD G) cy (fun k => ao (60000 + k)) (fun k => ao (10000 + k)) Rr Nn x1 x2 r6 hr6) dX8_puts_51 rfl rfl gX8_puts_X2_trace rfl ⟨rfl, cd_X2_trace⟩ (by decide) rfl (Nat.le_of_ble_eq_true rfl) [3, 1] (by decide) rfl rfl (sg' := [(sAO ao), (sNet cy (fun k => ao (10000 + k)) Nn), (sPst cy (fun k => ao (50000 + k)) Pp), (sLap cy (fun k => ao (60000 + k)) r6)]) (st' := []) rfl rfl ?_
        refine g_bipush F (v := (-4 : Int32)) dX8_puts_54 (by decide) ?_
        obtain rfl := Option.some.inj h
        exact g_iret F Rq rfl dX8_puts_56
    · refine g_bipush F (v := (-2 : Int32)) dX8_puts_26 (by decide) ?_
      obtain rfl := Option.some.inj h
      exact g_iret F Rq rfl dX8_puts_28
  · refine g_iconst F (v := (-1 : Int32)) dX8_puts_12 (by decide) ?_
    obtain rfl := Option.some.inj h
    exact g_iret F Rq rfl dX8_puts_13
theorem hi_X8_lists_X8 : ∀ w ∈ u_ws RX8 TX8 11, w ∈ wsX8_lists := by decide +kernel
theorem fl_X8_lists_10 : Cond.fieldLink RX8 10 "ArcOrder" "net" "LArcOrder$Net;" ∈ wsX8_lists := by decide +kernel
theorem fl_X8_lists_29 : Cond.fieldLink RX8 29 "ArcOrder" "list" "LArcOrder$ArcList;" ∈ wsX8_lists := by decide +kernel
theorem hi_X8_lists_X0 : ∀ w ∈ u_ws RX0 TX0 3, w ∈ wsX8_lists := by decide +kernel
theorem fl_X8_lists_92 : Cond.fieldLink RX8 92 "ArcOrder$ArcList" "size" "I" ∈ wsX8_lists := by decide +kernel
abbrev rm_X8_lists : Room := { frames := 2, cells := 0, slots := 0, locals := 43 }
set_option maxHeartbeats 4000000 in
set_option maxRecDepth 100000 in
theorem ok_X8_lists (l : Launch) (D : va_G) (cy : Nat → ClassId) (ao : Nat → Nat)  (Nn : NetS) (Ll : LstS) (x1 : Int32) (x2 : Int32) (out : Int32 × LstS) (h : f_X8_lists Nn Ll x1 x2 = some out) : OK l D cy yX8_lists wsX8_lists rm_X8_lists [.ref (ao 0), .int x1, .int x2] [(sAO ao), (sNet cy (fun k => ao (10000 + k)) Nn), (sLst cy (fun k => ao (40000 + k)) Ll)] (some (.int out.1)) [(sAO ao), (sNet cy (fun k => ao (10000 + k)) Nn), (sLst cy (fun k => ao (40000 + k)) out.2)] := by
  refine OKx.of (cc := cX8_lists) (maxL := 3) (ret := (some .int)) (by decide) rfl (Nat.le_of_ble_eq_true rfl) (fun G F Rq => ?_)
  show Go G 0 0 0 [(0, .ref (ao 0)), (1, .int x1), (2, .int x2)] [] [(sAO ao), (sNet cy (fun k => ao (10000 + k)) Nn), (sLst cy (fun k => ao (40000 + k)) Ll)]
  replace F : Fx G cX8_lists wsX8_lists RX8 cy 3 (rm_X8_lists) := F
  replace Rq : Rx G "lists" (some .int) (some (.int out.1)) (fun z => z = [(sAO ao), (sNet cy (fun k => ao (10000 + k)) Nn), (sLst cy (fun k => ao (40000 + k)) out.2)]) 0 0 := Rq
  unfold f_X8_lists at h
  refine g_aload_n F dX8_lists_0 rfl 0 rfl ?_
  refine g_get F (C := RX8) (T := TX8) (N := 11) (ci := 8) (v := .ref (ao 10000)) hi_X8_lists_X8 0 0 0 dX8_lists_1 rfl rfl (by decide) fl_X8_lists_10 rfl ?_
  refine g_iload_n F dX8_lists_4 rfl 1 rfl ?_
  refine g_iload_n F dX8_lists_5 rfl 2 rfl ?_
  obtain ⟨r1, hr1, h⟩ := bnd h
  refine g_cV F [.int x1, .int x2] 0 0 (ok_X3_isPair (gl G) (gD G) cy (fun k => ao (10000 + k)) Nn x1 x2 r1 hr1) dX8_lists_6 rfl rfl gX8_lists_X3_isPair rfl ⟨rfl, cd_X3_isPair⟩ (by decide) rfl (Nat.le_of_ble_eq_true rfl) [1] (by decide) rfl rfl (sg' := [(sAO ao), (sNet cy (fun k => ao (10000 + k)) Nn), (sLst cy (fun k => ao (40000 + k)) Ll)]) (st' := [.int r1]) rfl rfl ?_
  refine g_if_ne F 14 h dX8_lists_9 (by decide) (fun h => ?_) (fun h => ?_)
  · refine g_aload_n F dX8_lists_14 rfl 0 rfl ?_
    refine g_get F (C := RX8) (T := TX8) (N := 11) (ci := 8) (v := .ref (ao 10000)) hi_X8_lists_X8 0 0 0 dX8_lists_15 rfl rfl (by decide) fl_X8_lists_10 rfl ?_
    refine g_iload_n F dX8_lists_18 rfl 1 rfl ?_
    refine g_iload_n F dX8_lists_19 rfl 2 rfl ?_
    obtain ⟨r2, hr2, h⟩ := bnd h
    refine g_cV F [.int x1, .int x2] 0 0 (ok_X3_has (gl G) (gD G) cy (fun k => ao (10000 + k)) Nn x1 x2 r2 hr2) dX8_lists_20 rfl rfl gX8_lists_X3_has rfl ⟨rfl, cd_X3_has⟩ (by decide) rfl (Nat.le_of_ble_eq_true rfl) [1] (by decide) rfl rfl (sg' := [(sAO ao), (sNet cy (fun k => ao (10000 + k)) Nn), (sLst cy (fun k => ao (40000 + k)) Ll)]) (st' := [.int r2]) rfl rfl ?_
    refine g_if_ne F 38 h dX8_lists_23 (by decide) (fun h => ?_) (fun h => ?_)
    · refine g_bipush F (v := (-2 : Int32)) dX8_lists_38 (by decide) ?_
      obtain rfl := Option.some.inj h
      exact g_iret F Rq rfl dX8_lists_40
    · refine g_aload_n F dX8_lists_26 rfl 0 rfl ?_
      refine g_get F (C := RX8) (T := TX8) (N := 11) (ci := 8) (v := .ref (ao 40000)) hi_X8_lists_X8 0 0 3 dX8_lists_27 rfl rfl (by decide) fl_X8_lists_29 rfl ?_
      refine g_iload_n F dX8_lists_30 rfl 1 rfl ?_
      refine g_iload_n F dX8_lists_31 rfl 2 rfl ?_
      obtain ⟨r3, hr3, h⟩ := bnd h
      refine g_cV F [.int x1, .int x2] 0 0 (ok_X0_holds (gl G) (gD G) cy (fun k => ao (40000 + k)) Ll x1 x2 r3 hr3) dX8_lists_32 rfl rfl gX8_lists_X0_holds rfl ⟨rfl, cd_X0_holds⟩ (by decide) rfl (Nat.le_of_ble_eq_true rfl) [2] (by decide) rfl rfl (sg' := [(sAO ao), (sNet cy (fun k => ao (10000 + k)) Nn), (sLst cy (fun k => ao (40000 + k)) Ll)]) (st' := [.int r3]) rfl rfl ?_
      refine g_if_eq F 41 h dX8_lists_35 (by decide) (fun h => ?_) (fun h => ?_)
      · refine g_aload_n F dX8_lists_41 rfl 0 rfl ?_
        refine g_get F (C := RX8) (T := TX8) (N := 11) (ci := 8) (v := .ref (ao 40000)) hi_X8_lists_X8 0 0 3 dX8_lists_42 rfl rfl (by decide) fl_X8_lists_29 rfl ?_
        refine g_iload_n F dX8_lists_45 rfl 1 rfl ?_
        refine g_iload_n F dX8_lists_46 rfl 2 rfl ?_
        obtain ⟨r4, hr4, h⟩ := bnd h
        refine g_cV F [.int x1, .int x2] 0 0 (ok_X0_append (gl G) (gD G) cy (fun k => ao (40000 + k)) Ll x1 x2 r4 hr4) dX8_lists_47 rfl rfl gX8_lists_X0_append rfl ⟨rfl, cd_X0_append⟩ (by decide) rfl (Nat.le_of_ble_eq_true rfl) [2] (by decide) rfl rfl (sg' := [(sAO ao), (sNet cy (fun k => ao (10000 + k)) Nn), (sLst cy (fun k => ao (40000 + k)) r4.2)]) (st' := [.int r4.1]) rfl rfl ?_
        refine g_if_eq F 63 h dX8_lists_50 (by decide) (fun h => ?_) (fun h => ?_)
        · refine g_bipush F (v := (-3 : Int32)) dX8_lists_63 (by decide) ?_
          obtain rfl := Option.some.inj h
          exact g_iret F Rq rfl dX8_lists_65
        · refine g_aload_n F dX8_lists_53 rfl 0 rfl ?_
          refine g_get F (C := RX8) (T := TX8) (N := 11) (ci := 8) (v := .ref (ao 40000)) hi_X8_lists_X8 0 0 3 dX8_lists_54 rfl rfl (by decide) fl_X8_lists_29 rfl ?_
          refine g_get F (C := RX0) (T := TX0) (N := 3) (ci := 0) (v := .int r4.2.1) hi_X8_lists_X0 2 0 0 dX8_lists_57 rfl rfl (by decide) fl_X8_lists_92 rfl ?_
          refine g_goto F 65 dX8_lists_60 (by decide) ?_
          obtain rfl := Option.some.inj h
          exact g_iret F Rq rfl dX8_lists_65
      · refine g_bipush F (v := (-2 : Int32)) dX8_lists_38 (by decide) ?_
        obtain rfl := Option.some.inj h
        exact g_iret F Rq rfl dX8_lists_40
  · refine g_iconst F (v := (-1 : Int32)) dX8_lists_12 (by decide) ?_
    obtain rfl := Option.some.inj h
    exact g_iret F Rq rfl dX8_lists_13
theorem hi_X8_putListed_X8 : ∀ w ∈ u_ws RX8 TX8 11, w ∈ wsX8_putListed := by decide +kernel
theorem fl_X8_putListed_29 : Cond.fieldLink RX8 29 "ArcOrder" "list" "LArcOrder$ArcList;" ∈ wsX8_putListed := by decide +kernel
theorem hi_X8_putListed_X0 : ∀ w ∈ u_ws RX0 TX0 3, w ∈ wsX8_putListed := by decide +kernel
theorem fl_X8_putListed_92 : Cond.fieldLink RX8 92 "ArcOrder$ArcList" "size" "I" ∈ wsX8_putListed := by decide +kernel
theorem fl_X8_putListed_234 : Cond.fieldLink RX8 234 "ArcOrder$ArcList" "from" "[I" ∈ wsX8_putListed := by decide +kernel
theorem fl_X8_putListed_237 : Cond.fieldLink RX8 237 "ArcOrder$ArcList" "to" "[I" ∈ wsX8_putListed := by decide +kernel
theorem fl_X8_putListed_10 : Cond.fieldLink RX8 10 "ArcOrder" "net" "LArcOrder$Net;" ∈ wsX8_putListed := by decide +kernel
theorem fl_X8_putListed_43 : Cond.fieldLink RX8 43 "ArcOrder" "ring" "LArcOrder$Lap;" ∈ wsX8_putListed := by decide +kernel
abbrev rm_X8_putListed : Room := { frames := 4, cells := 0, slots := 0, locals := 93 }
set_option maxHeartbeats 4000000 in
set_option maxRecDepth 100000 in
theorem k_X8_putListed_2_ok {G : GX} {cy : Nat → ClassId} (ao : Nat → Nat)   (Ll : LstS) {out : Int32 × NetS × LapS} (F : Fx G cX8_putListed wsX8_putListed RX8 cy 4 (rm_X8_putListed)) (Rq : Rx G "putListed" (some .boolean) (some (.int out.1)) (fun z => z = [(sAO ao), (sNet cy (fun k => ao (10000 + k)) out.2.1), (sLst cy (fun k => ao (40000 + k)) Ll), (sLap cy (fun k => ao (60000 + k)) out.2.2)]) 0 0) (ke : NetS → LapS → Option (Int32 × NetS × LapS)) (hke : ∀  (Nn : NetS) (Rr : LapS), ke Nn Rr = some out → Go G 0 0 76 [] [] [(sAO ao), (sNet cy (fun k => ao (10000 + k)) Nn), (sLst cy (fun k => ao (40000 + k)) Ll), (sLap cy (fun k => ao (60000 + k)) Rr)]) : ∀ (n : Nat) (x1 : Int32) (Nn : NetS) (Rr : LapS), k_X8_putListed_2 Ll ke n x1 Nn Rr = some out → Go G 0 0 2 [(0, .ref (ao 0)), (1, .int x1)] [] [(sAO ao), (sNet cy (fun k => ao (10000 + k)) Nn), (sLst cy (fun k => ao (40000 + k)) Ll), (sLap cy (fun k => ao (60000 + k)) Rr)] := by
  intro n
  induction n with
  | zero =>
    intro x1 Nn Rr h
    exact nosome h
  | succ n ih =>
    intro x1 Nn Rr h
    rw [k_X8_putListed_2.eq_2] at h
    refine g_iload_n F dX8_putListed_2 rfl 1 rfl ?_
    refine g_aload_n F dX8_putListed_3 rfl 0 rfl ?_
    refine g_get F (C := RX8) (T := TX8) (N := 11) (ci := 8) (v := .ref (ao 40000)) hi_X8_putListed_X8 0 0 3 dX8_putListed_4 rfl rfl (by decide) fl_X8_putListed_29 rfl ?_
    refine g_get F (C := RX0) (T := TX0) (N := 3) (ci := 0) (v := .int Ll.1) hi_X8_putListed_X0 2 0 0 dX8_putListed_7 rfl rfl (by decide) fl_X8_putListed_92 rfl ?_
    refine g_icmp_ge F 76 h dX8_putListed_10 (by decide) (fun h => ?_) (fun h => ?_)
    · refine Go.sub (lv' := []) [] rfl ?_
      exact hke Nn Rr h
    · refine g_aload_n F dX8_putListed_13 rfl 0 rfl ?_
      refine g_get F (C := RX8) (T := TX8) (N := 11) (ci := 8) (v := .ref (ao 40000)) hi_X8_putListed_X8 0 0 3 dX8_putListed_14 rfl rfl (by decide) fl_X8_putListed_29 rfl ?_
      refine g_get F (C := RX0) (T := TX0) (N := 3) (ci := 0) (v := .ref (ao 40002)) hi_X8_putListed_X0 2 0 1 dX8_putListed_17 rfl rfl (by decide) fl_X8_putListed_234 rfl ?_
      refine g_iload_n F dX8_putListed_20 rfl 1 rfl ?_
      refine g_iaload F h 2 1 dX8_putListed_21 rfl (fun h => ?_)
      refine g_istore_n F (lv' := [(2, .int (Ll.2.1 (x1).toNatClampNeg)), (0, .ref (ao 0)), (1, .int x1)]) dX8_putListed_22 rfl (by decide) rfl ?_
      refine g_aload_n F dX8_putListed_23 rfl 1 rfl ?_
      refine g_get F (C := RX8) (T := TX8) (N := 11) (ci := 8) (v := .ref (ao 40000)) hi_X8_putListed_X8 0 0 3 dX8_putListed_24 rfl rfl (by decide) fl_X8_putListed_29 rfl ?_
      refine g_get F (C := RX0) (T := TX0) (N := 3) (ci := 0) (v := .ref (ao 40003)) hi_X8_putListed_X0 2 0 2 dX8_putListed_27 rfl rfl (by decide) fl_X8_putListed_237 rfl ?_
      refine g_iload_n F dX8_putListed_30 rfl 2 rfl ?_
      refine g_iaload F h 2 2 dX8_putListed_31 rfl (fun h => ?_)
      refine g_istore_n F (lv' := [(3, .int (Ll.2.2 (x1).toNatClampNeg)), (2, .int (Ll.2.1 (x1).toNatClampNeg)), (0, .ref (ao 0)), (1, .int x1)]) dX8_putListed_32 rfl (by decide) rfl ?_
      refine g_aload_n F dX8_putListed_33 rfl 2 rfl ?_
      refine g_get F (C := RX8) (T := TX8) (N := 11) (ci := 8) (v := .ref (ao 10000)) hi_X8_putListed_X8 0 0 0 dX8_putListed_34 rfl rfl (by decide) fl_X8_putListed_10 rfl ?_
      refine g_iload_n F dX8_putListed_37 rfl 1 rfl ?_
      refine g_iload_n F dX8_putListed_38 rfl 0 rfl ?_
      obtain ⟨r1, hr1, h⟩ := bnd h
      refine g_cV F [.int (Ll.2.1 (x1).toNatClampNeg), .int (Ll.2.2 (x1).toNatClampNeg)] 0 0 (ok_X3_closesRing (gl G) (gD G) cy (fun k => ao (10000 + k)) Nn (Ll.2.1 (x1).toNatClampNeg) (Ll.2.2 (x1).toNatClampNeg) r1 hr1) dX8_putListed_39 rfl rfl gX8_putListed_X3_closesRing rfl ⟨rfl, cd_X3_closesRing⟩ (by decide) rfl (Nat.le_of_ble_eq_true rfl) [1] (by decide) rfl rfl (sg' := [(sAO ao), (sNet cy (fun k => ao (10000 + k)) Nn), (sLst cy (fun k => ao (40000 + k)) Ll), (sLap cy (fun k => ao (60000 + k)) Rr)]) (st' := [.int r1]) rfl rfl ?_
      refine g_if_eq F 60 h dX8_putListed_42 (by decide) (fun h => ?_) (fun h => ?_)
      · refine g_aload_n F dX8_putListed_60 rfl 2 rfl ?_
        refine g_get F (C := RX8) (T := TX8) (N := 11) (ci := 8) (v := .ref (ao 10000)) hi_X8_putListed_X8 0 0 0 dX8_putListed_61 rfl rfl (by decide) fl_X8_putListed_10 rfl ?_
        refine g_iload_n F dX8_putListed_64 rfl 1 rfl ?_
        refine g_iload_n F dX8_putListed_65 rfl 0 rfl ?_
        obtain ⟨r2, hr2, h⟩ := bnd h
        refine g_cV F [.int (Ll.2.1 (x1).toNatClampNeg), .int (Ll.2.2 (x1).toNatClampNeg)] 0 0 (ok_X3_put (gl G) (gD G) cy (fun k => ao (10000 + k)) Nn (Ll.2.1 (x1).toNatClampNeg) (Ll.2.2 (x1).toNatClampNeg) r2 hr2) dX8_putListed_66 rfl rfl gX8_putListed_X3_put rfl ⟨rfl, cd_X3_put⟩ (by decide) rfl (Nat.le_of_ble_eq_true rfl) [1] (by decide) rfl rfl (sg' := [(sAO ao), (sNet cy (fun k => ao (10000 + k)) r2.2), (sLst cy (fun k => ao (40000 + k)) Ll), (sLap cy (fun k => ao (60000 + k)) Rr)]) (st' := [.int r2.1]) rfl rfl ?_
        refine g_pop F dX8_putListed_69 rfl ?_
        refine g_iinc F (v := (x1 + 1)) (lv' := [(1, .int (x1 + 1)), (3, .int (Ll.2.2 (x1).toNatClampNeg)), (2, .int (Ll.2.1 (x1).toNatClampNeg)), (0, .ref (ao 0))]) dX8_putListed_70 3 rfl rfl (by decide) rfl ?_
        refine g_goto F 2 dX8_putListed_73 (by decide) ?_
        refine Go.sub (lv' := [(0, .ref (ao 0)), (1, .int (x1 + 1))]) [3, 0] rfl ?_
        exact ih (x1 + 1) r2.2 Rr h
      · refine g_aload_n F dX8_putListed_45 rfl 2 rfl ?_
        refine g_get F (C := RX8) (T := TX8) (N := 11) (ci := 8) (v := .ref (ao 60000)) hi_X8_putListed_X8 0 0 5 dX8_putListed_46 rfl rfl (by decide) fl_X8_putListed_43 rfl ?_
        refine g_aload_n F dX8_putListed_49 rfl 2 rfl ?_
        refine g_get F (C := RX8) (T := TX8) (N := 11) (ci := 8) (v := .ref (ao 10000)) hi_X8_putListed_X8 0 0 0 dX8_putListed_50 rfl rfl (by decide) fl_X8_putListed_10 rfl ?_
        refine g_iload_n F dX8_putListed_53 rfl 1 rfl ?_
        refine g_iload_n F dX8_putListed_54 rfl 0 rfl ?_
        obtain ⟨r3, hr3, h⟩ := bnd h
        refine g_cV F [.ref (ao 10000), .int (Ll.2.1 (x1).toNatClampNeg), .int (Ll.2.2 (x1).toNatClampNeg)] 0 0 (ok_X2_trace (gl G) (gD G) cy (fun k => ao (60000 + k)) (fun k => ao (10000 + k)) Rr Nn (Ll.2.1 (x1).toNatClampNeg) (Ll.2.2 (x1).toNatClampNeg) r3 hr3) dX8_putListed_55 rfl rfl gX8_putListed_X2_trace rfl ⟨rfl, cd_X2_trace⟩ (by decide) rfl (Nat.le_of_ble_eq_true rfl) [3, 1] (by decide) rfl rfl (sg' := [(sAO ao), (sNet cy (fun k => ao (10000 + k)) Nn), (sLst cy (fun k => ao (40000 + k)) Ll), (sLap cy (fun k => ao (60000 + k)) r3)]) (st' := []) rfl rfl ?_
        refine g_iconst F (v := (0 : Int32)) dX8_putListed_58 (by decide) ?_
        obtain rfl := Option.some.inj h
        exact g_zret F Rq rfl rfl dX8_putListed_59
set_option maxHeartbeats 4000000 in
set_option maxRecDepth 100000 in
theorem ok_X8_putListed (l : Launch) (D : va_G) (cy : Nat → ClassId) (ao : Nat → Nat)  (Nn : NetS) (Ll : LstS) (Rr : LapS)  (out : Int32 × NetS × LapS) (h : f_X8_putListed Nn Ll Rr = some out) : OK l D cy yX8_putListed wsX8_putListed rm_X8_putListed [.ref (ao 0)] [(sAO ao), (sNet cy (fun k => ao (10000 + k)) Nn), (sLst cy (fun k => ao (40000 + k)) Ll), (sLap cy (fun k => ao (60000 + k)) Rr)] (some (.int out.1)) [(sAO ao), (sNet cy (fun k => ao (10000 + k)) out.2.1), (sLst cy (fun k => ao (40000 + k)) Ll), (sLap cy (fun k => ao (60000 + k)) out.2.2)] := by
  refine OKx.of (cc := cX8_putListed) (maxL := 4) (ret := (some .boolean)) (by decide) rfl (Nat.le_of_ble_eq_true rfl) (fun G F Rq => ?_)
  show Go G 0 0 0 [(0, .ref (ao 0))] [] [(sAO ao), (sNet cy (fun k => ao (10000 + k)) Nn), (sLst cy (fun k => ao (40000 + k)) Ll), (sLap cy (fun k => ao (60000 + k)) Rr)]
  replace F : Fx G cX8_putListed wsX8_putListed RX8 cy 4 (rm_X8_putListed) := F
  replace Rq : Rx G "putListed" (some .boolean) (some (.int out.1)) (fun z => z = [(sAO ao), (sNet cy (fun k => ao (10000 + k)) out.2.1), (sLst cy (fun k => ao (40000 + k)) Ll), (sLap cy (fun k => ao (60000 + k)) out.2.2)]) 0 0 := Rq
  unfold f_X8_putListed at h
  refine g_iconst F (v := (0 : Int32)) dX8_putListed_0 (by decide) ?_
  refine g_istore_n F (lv' := [(1, .int (0 : Int32)), (0, .ref (ao 0))]) dX8_putListed_1 rfl (by decide) rfl ?_
  refine Go.sub (lv' := [(0, .ref (ao 0)), (1, .int (0 : Int32))]) [1, 0] rfl ?_
  refine k_X8_putListed_2_ok ao Ll F Rq _ (fun Nn_4 Rr_4 h => ?_) _ (0 : Int32) Nn Rr h
  refine g_iconst F (v := (1 : Int32)) dX8_putListed_76 (by decide) ?_
  obtain rfl := Option.some.inj h
  exact g_zret F Rq rfl rfl dX8_putListed_77
theorem hi_X8_adds_X8 : ∀ w ∈ u_ws RX8 TX8 11, w ∈ wsX8_adds := by decide +kernel
theorem fl_X8_adds_29 : Cond.fieldLink RX8 29 "ArcOrder" "list" "LArcOrder$ArcList;" ∈ wsX8_adds := by decide +kernel
theorem hi_X8_adds_X0 : ∀ w ∈ u_ws RX0 TX0 3, w ∈ wsX8_adds := by decide +kernel
theorem fl_X8_adds_92 : Cond.fieldLink RX8 92 "ArcOrder$ArcList" "size" "I" ∈ wsX8_adds := by decide +kernel
theorem fl_X8_adds_10 : Cond.fieldLink RX8 10 "ArcOrder" "net" "LArcOrder$Net;" ∈ wsX8_adds := by decide +kernel
theorem fl_X8_adds_16 : Cond.fieldLink RX8 16 "ArcOrder" "aside" "LArcOrder$Net;" ∈ wsX8_adds := by decide +kernel
theorem fl_X8_adds_36 : Cond.fieldLink RX8 36 "ArcOrder" "past" "LArcOrder$Past;" ∈ wsX8_adds := by decide +kernel
abbrev rm_X8_adds : Room := { frames := 5, cells := 0, slots := 0, locals := 221 }
set_option maxHeartbeats 4000000 in
set_option maxRecDepth 100000 in
theorem ok_X8_adds (l : Launch) (D : va_G) (cy : Nat → ClassId) (ao : Nat → Nat)  (Nn : NetS) (Bb : NetS) (Ll : LstS) (Pp : PstS) (Rr : LapS)  (out : Int32 × NetS × NetS × LstS × PstS × LapS) (h : f_X8_adds Nn Bb Ll Pp Rr = some out) : OK l D cy yX8_adds wsX8_adds rm_X8_adds [.ref (ao 0)] [(sAO ao), (sNet cy (fun k => ao (10000 + k)) Nn), (sNet cy (fun k => ao (20000 + k)) Bb), (sLst cy (fun k => ao (40000 + k)) Ll), (sPst cy (fun k => ao (50000 + k)) Pp), (sLap cy (fun k => ao (60000 + k)) Rr)] (some (.int out.1)) [(sAO ao), (sNet cy (fun k => ao (10000 + k)) out.2.1), (sNet cy (fun k => ao (20000 + k)) out.2.2.1), (sLst cy (fun k => ao (40000 + k)) out.2.2.2.1), (sPst cy (fun k => ao (50000 + k)) out.2.2.2.2.1), (sLap cy (fun k => ao (60000 + k)) out.2.2.2.2.2)] := by
  refine OKx.of (cc := cX8_adds) (maxL := 2) (ret := (some .int)) (by decide) rfl (Nat.le_of_ble_eq_true rfl) (fun G F Rq => ?_)
  show Go G 0 0 0 [(0, .ref (ao 0))] [] [(sAO ao), (sNet cy (fun k => ao (10000 + k)) Nn), (sNet cy (fun k => ao (20000 + k)) Bb), (sLst cy (fun k => ao (40000 + k)) Ll), (sPst cy (fun k => ao (50000 + k)) Pp), (sLap cy (fun k => ao (60000 + k)) Rr)]
  replace F : Fx G cX8_adds wsX8_adds RX8 cy 2 (rm_X8_adds) := F
  replace Rq : Rx G "adds" (some .int) (some (.int out.1)) (fun z => z = [(sAO ao), (sNet cy (fun k => ao (10000 + k)) out.2.1), (sNet cy (fun k => ao (20000 + k)) out.2.2.1), (sLst cy (fun k => ao (40000 + k)) out.2.2.2.1), (sPst cy (fun k => ao (50000 + k)) out.2.2.2.2.1), (sLap cy (fun k => ao (60000 + k)) out.2.2.2.2.2)]) 0 0 := Rq
  unfold f_X8_adds at h
  refine g_aload_n F dX8_adds_0 rfl 0 rfl ?_
  refine g_get F (C := RX8) (T := TX8) (N := 11) (ci := 8) (v := .ref (ao 40000)) hi_X8_adds_X8 0 0 3 dX8_adds_1 rfl rfl (by decide) fl_X8_adds_29 rfl ?_
  refine g_get F (C := RX0) (T := TX0) (N := 3) (ci := 0) (v := .int Ll.1) hi_X8_adds_X0 3 0 0 dX8_adds_4 rfl rfl (by decide) fl_X8_adds_92 rfl ?_
  refine g_if_eq F 24 h dX8_adds_7 (by decide) (fun h => ?_) (fun h => ?_)
  · refine g_bipush F (v := (-2 : Int32)) dX8_adds_24 (by decide) ?_
    obtain rfl := Option.some.inj h
    exact g_iret F Rq rfl dX8_adds_26
  · refine g_aload_n F dX8_adds_10 rfl 0 rfl ?_
    refine g_get F (C := RX8) (T := TX8) (N := 11) (ci := 8) (v := .ref (ao 40000)) hi_X8_adds_X8 0 0 3 dX8_adds_11 rfl rfl (by decide) fl_X8_adds_29 rfl ?_
    refine g_aload_n F dX8_adds_14 rfl 0 rfl ?_
    refine g_get F (C := RX8) (T := TX8) (N := 11) (ci := 8) (v := .ref (ao 10000)) hi_X8_adds_X8 0 0 0 dX8_adds_15 rfl rfl (by decide) fl_X8_adds_10 rfl ?_
    obtain ⟨r1, hr1, h⟩ := bnd h
    refine g_cV F [.ref (ao 10000)] 0 0 (ok_X0_isAnyIn (gl G) (gD G) cy (fun k => ao (40000 + k)) (fun k => ao (10000 + k)) Ll Nn r1 hr1) dX8_adds_18 rfl rfl gX8_adds_X0_isAnyIn rfl ⟨rfl, cd_X0_isAnyIn⟩ (by decide) rfl (Nat.le_of_ble_eq_true rfl) [3, 1] (by decide) rfl rfl (sg' := [(sAO ao), (sNet cy (fun k => ao (10000 + k)) Nn), (sNet cy (fun k => ao (20000 + k)) Bb), (sLst cy (fun k => ao (40000 + k)) Ll), (sPst cy (fun k => ao (50000 + k)) Pp), (sLap cy (fun k => ao (60000 + k)) Rr)]) (st' := [.int r1]) rfl rfl ?_
    refine g_if_eq F 27 h dX8_adds_21 (by decide) (fun h => ?_) (fun h => ?_)
    · refine g_aload_n F dX8_adds_27 rfl 0 rfl ?_
      refine g_get F (C := RX8) (T := TX8) (N := 11) (ci := 8) (v := .ref (ao 20000)) hi_X8_adds_X8 0 0 1 dX8_adds_28 rfl rfl (by decide) fl_X8_adds_16 rfl ?_
      refine g_aload_n F dX8_adds_31 rfl 0 rfl ?_
      refine g_get F (C := RX8) (T := TX8) (N := 11) (ci := 8) (v := .ref (ao 10000)) hi_X8_adds_X8 0 0 0 dX8_adds_32 rfl rfl (by decide) fl_X8_adds_10 rfl ?_
      obtain ⟨r2, hr2, h⟩ := bnd h
      refine g_cV F [.ref (ao 10000)] 0 0 (ok_X3_copyOf (gl G) (gD G) cy (fun k => ao (20000 + k)) (fun k => ao (10000 + k)) Bb Nn r2 hr2) dX8_adds_35 rfl rfl gX8_adds_X3_copyOf rfl ⟨rfl, cd_X3_copyOf⟩ (by decide) rfl (Nat.le_of_ble_eq_true rfl) [2, 1] (by decide) rfl rfl (sg' := [(sAO ao), (sNet cy (fun k => ao (10000 + k)) Nn), (sNet cy (fun k => ao (20000 + k)) r2), (sLst cy (fun k => ao (40000 + k)) Ll), (sPst cy (fun k => ao (50000 + k)) Pp), (sLap cy (fun k => ao (60000 + k)) Rr)]) (st' := []) rfl rfl ?_
      refine g_aload_n F dX8_adds_38 rfl 0 rfl ?_
      obtain ⟨r3, hr3, h⟩ := bnd h
      refine g_cV F [] 0 0 (ok_X8_putListed (gl G) (gD G) cy ao Nn Ll Rr r3 hr3) dX8_adds_39 rfl rfl gX8_adds_X8_putListed rfl ⟨rfl, cd_X8_putListed⟩ (by decide) rfl (Nat.le_of_ble_eq_true rfl) [0, 1, 3, 5] (by decide) rfl rfl (sg' := [(sAO ao), (sNet cy (fun k => ao (10000 + k)) r3.2.1), (sNet cy (fun k => ao (20000 + k)) r2), (sLst cy (fun k => ao (40000 + k)) Ll), (sPst cy (fun k => ao (50000 + k)) Pp), (sLap cy (fun k => ao (60000 + k)) r3.2.2)]) (st' := [.int r3.1]) rfl rfl ?_
      refine g_istore_n F (lv' := [(1, .int r3.1), (0, .ref (ao 0))]) dX8_adds_42 rfl (by decide) rfl ?_
      refine g_aload_n F dX8_adds_43 rfl 1 rfl ?_
      refine g_get F (C := RX8) (T := TX8) (N := 11) (ci := 8) (v := .ref (ao 40000)) hi_X8_adds_X8 0 0 3 dX8_adds_44 rfl rfl (by decide) fl_X8_adds_29 rfl ?_
      refine g_iconst F (v := (0 : Int32)) dX8_adds_47 (by decide) ?_
      refine g_put F (C := RX0) (T := TX0) (N := 3) (ci := 0) (v := .int (0 : Int32)) (ty := .int) (sg' := [(sAO ao), (sNet cy (fun k => ao (10000 + k)) r3.2.1), (sNet cy (fun k => ao (20000 + k)) r2), (sLst cy (fun k => ao (40000 + k)) ((0 : Int32), Ll.2.1, Ll.2.2)), (sPst cy (fun k => ao (50000 + k)) Pp), (sLap cy (fun k => ao (60000 + k)) r3.2.2)]) hi_X8_adds_X0 tyX0 tyX0_ok nmX0 3 0 0 dX8_adds_48 rfl rfl (by decide) fl_X8_adds_92 rfl rfl rfl rfl (Nat.le_of_ble_eq_true rfl) rfl ?_
      refine g_iload_n F dX8_adds_51 rfl 0 rfl ?_
      refine g_if_ne F 69 h dX8_adds_52 (by decide) (fun h => ?_) (fun h => ?_)
      · refine g_aload_n F dX8_adds_69 rfl 1 rfl ?_
        refine g_get F (C := RX8) (T := TX8) (N := 11) (ci := 8) (v := .ref (ao 50000)) hi_X8_adds_X8 0 0 4 dX8_adds_70 rfl rfl (by decide) fl_X8_adds_36 rfl ?_
        refine g_aload_n F dX8_adds_73 rfl 1 rfl ?_
        refine g_get F (C := RX8) (T := TX8) (N := 11) (ci := 8) (v := .ref (ao 20000)) hi_X8_adds_X8 0 0 1 dX8_adds_74 rfl rfl (by decide) fl_X8_adds_16 rfl ?_
        obtain ⟨r4, hr4, h⟩ := bnd h
        refine g_cV F [.ref (ao 20000)] 0 0 (ok_X4_push (gl G) (gD G) cy (fun k => ao (50000 + k)) (fun k => ao (20000 + k)) Pp r2 r4 hr4) dX8_adds_77 rfl rfl gX8_adds_X4_push rfl ⟨rfl, cd_X4_push⟩ (by decide) rfl (Nat.le_of_ble_eq_true rfl) [4, 2] (by decide) rfl rfl (sg' := [(sAO ao), (sNet cy (fun k => ao (10000 + k)) r3.2.1), (sNet cy (fun k => ao (20000 + k)) r2), (sLst cy (fun k => ao (40000 + k)) ((0 : Int32), Ll.2.1, Ll.2.2)), (sPst cy (fun k => ao (50000 + k)) r4), (sLap cy (fun k => ao (60000 + k)) r3.2.2)]) (st' := []) rfl rfl ?_
        refine g_aload_n F dX8_adds_80 rfl 1 rfl ?_
        refine g_get F (C := RX8) (T := TX8) (N := 11) (ci := 8) (v := .ref (ao 10000)) hi_X8_adds_X8 0 0 0 dX8_adds_81 rfl rfl (by decide) fl_X8_adds_10 rfl ?_
        refine g_aload_n F dX8_adds_84 rfl 1 rfl ?_
        refine g_get F (C := RX8) (T := TX8) (N := 11) (ci := 8) (v := .ref (ao 20000)) hi_X8_adds_X8 0 0 1 dX8_adds_85 rfl rfl (by decide) fl_X8_adds_16 rfl ?_
        obtain ⟨r5, hr5, h⟩ := bnd h
        refine g_cV F [.ref (ao 20000)] 0 0 (ok_X3_placesUnlike (gl G) (gD G) cy (fun k => ao (10000 + k)) (fun k => ao (20000 + k)) r3.2.1 r2 r5 hr5) dX8_adds_88 rfl rfl gX8_adds_X3_placesUnlike rfl ⟨rfl, cd_X3_placesUnlike⟩ (by decide) rfl (Nat.le_of_ble_eq_true rfl) [1, 2] (by decide) rfl rfl (sg' := [(sAO ao), (sNet cy (fun k => ao (10000 + k)) r3.2.1), (sNet cy (fun k => ao (20000 + k)) r2), (sLst cy (fun k => ao (40000 + k)) ((0 : Int32), Ll.2.1, Ll.2.2)), (sPst cy (fun k => ao (50000 + k)) r4), (sLap cy (fun k => ao (60000 + k)) r3.2.2)]) (st' := [.int r5]) rfl rfl ?_
        obtain rfl := Option.some.inj h
        exact g_iret F Rq rfl dX8_adds_91
      · refine g_aload_n F dX8_adds_55 rfl 1 rfl ?_
        refine g_get F (C := RX8) (T := TX8) (N := 11) (ci := 8) (v := .ref (ao 10000)) hi_X8_adds_X8 0 0 0 dX8_adds_56 rfl rfl (by decide) fl_X8_adds_10 rfl ?_
        refine g_aload_n F dX8_adds_59 rfl 1 rfl ?_
        refine g_get F (C := RX8) (T := TX8) (N := 11) (ci := 8) (v := .ref (ao 20000)) hi_X8_adds_X8 0 0 1 dX8_adds_60 rfl rfl (by decide) fl_X8_adds_16 rfl ?_
        obtain ⟨r6, hr6, h⟩ := bnd h
        refine g_cV F [.ref (ao 20000)] 0 0 (ok_X3_copyOf (gl G) (gD G) cy (fun k => ao (10000 + k)) (fun k => ao (20000 + k)) r3.2.1 r2 r6 hr6) dX8_adds_63 rfl rfl gX8_adds_X3_copyOf rfl ⟨rfl, cd_X3_copyOf⟩ (by decide) rfl (Nat.le_of_ble_eq_true rfl) [1, 2] (by decide) rfl rfl (sg' := [(sAO ao), (sNet cy (fun k => ao (10000 + k)) r6), (sNet cy (fun k => ao (20000 + k)) r2), (sLst cy (fun k => ao (40000 + k)) ((0 : Int32), Ll.2.1, Ll.2.2)), (sPst cy (fun k => ao (50000 + k)) Pp), (sLap cy (fun k => ao (60000 + k)) r3.2.2)]) (st' := []) rfl rfl ?_
        refine g_bipush F (v := (-4 : Int32)) dX8_adds_66 (by decide) ?_
        obtain rfl := Option.some.inj h
        exact g_iret F Rq rfl dX8_adds_68
    · refine g_bipush F (v := (-2 : Int32)) dX8_adds_24 (by decide) ?_
      obtain rfl := Option.some.inj h
      exact g_iret F Rq rfl dX8_adds_26
theorem hi_X8_cuts_X8 : ∀ w ∈ u_ws RX8 TX8 11, w ∈ wsX8_cuts := by decide +kernel
theorem fl_X8_cuts_10 : Cond.fieldLink RX8 10 "ArcOrder" "net" "LArcOrder$Net;" ∈ wsX8_cuts := by decide +kernel
theorem fl_X8_cuts_36 : Cond.fieldLink RX8 36 "ArcOrder" "past" "LArcOrder$Past;" ∈ wsX8_cuts := by decide +kernel
theorem hi_X8_cuts_X3 : ∀ w ∈ u_ws RX3 TX3 7, w ∈ wsX8_cuts := by decide +kernel
theorem fl_X8_cuts_130 : Cond.fieldLink RX8 130 "ArcOrder$Net" "arcs" "I" ∈ wsX8_cuts := by decide +kernel
abbrev rm_X8_cuts : Room := { frames := 4, cells := 0, slots := 0, locals := 221 }
set_option maxHeartbeats 4000000 in
set_option maxRecDepth 100000 in
theorem ok_X8_cuts (l : Launch) (D : va_G) (cy : Nat → ClassId) (ao : Nat → Nat)  (Nn : NetS) (Pp : PstS) (x1 : Int32) (x2 : Int32) (out : Int32 × NetS × PstS) (h : f_X8_cuts Nn Pp x1 x2 = some out) : OK l D cy yX8_cuts wsX8_cuts rm_X8_cuts [.ref (ao 0), .int x1, .int x2] [(sAO ao), (sNet cy (fun k => ao (10000 + k)) Nn), (sPst cy (fun k => ao (50000 + k)) Pp)] (some (.int out.1)) [(sAO ao), (sNet cy (fun k => ao (10000 + k)) out.2.1), (sPst cy (fun k => ao (50000 + k)) out.2.2)] := by
  refine OKx.of (cc := cX8_cuts) (maxL := 3) (ret := (some .int)) (by decide) rfl (Nat.le_of_ble_eq_true rfl) (fun G F Rq => ?_)
  show Go G 0 0 0 [(0, .ref (ao 0)), (1, .int x1), (2, .int x2)] [] [(sAO ao), (sNet cy (fun k => ao (10000 + k)) Nn), (sPst cy (fun k => ao (50000 + k)) Pp)]
  replace F : Fx G cX8_cuts wsX8_cuts RX8 cy 3 (rm_X8_cuts) := F
  replace Rq : Rx G "cuts" (some .int) (some (.int out.1)) (fun z => z = [(sAO ao), (sNet cy (fun k => ao (10000 + k)) out.2.1), (sPst cy (fun k => ao (50000 + k)) out.2.2)]) 0 0 := Rq
  unfold f_X8_cuts at h
  refine g_aload_n F dX8_cuts_0 rfl 0 rfl ?_
  refine g_get F (C := RX8) (T := TX8) (N := 11) (ci := 8) (v := .ref (ao 10000)) hi_X8_cuts_X8 0 0 0 dX8_cuts_1 rfl rfl (by decide) fl_X8_cuts_10 rfl ?_
  refine g_iload_n F dX8_cuts_4 rfl 1 rfl ?_
  refine g_iload_n F dX8_cuts_5 rfl 2 rfl ?_
  obtain ⟨r1, hr1, h⟩ := bnd h
  refine g_cV F [.int x1, .int x2] 0 0 (ok_X3_isPair (gl G) (gD G) cy (fun k => ao (10000 + k)) Nn x1 x2 r1 hr1) dX8_cuts_6 rfl rfl gX8_cuts_X3_isPair rfl ⟨rfl, cd_X3_isPair⟩ (by decide) rfl (Nat.le_of_ble_eq_true rfl) [1] (by decide) rfl rfl (sg' := [(sAO ao), (sNet cy (fun k => ao (10000 + k)) Nn), (sPst cy (fun k => ao (50000 + k)) Pp)]) (st' := [.int r1]) rfl rfl ?_
  refine g_if_ne F 14 h dX8_cuts_9 (by decide) (fun h => ?_) (fun h => ?_)
  · refine g_aload_n F dX8_cuts_14 rfl 0 rfl ?_
    refine g_get F (C := RX8) (T := TX8) (N := 11) (ci := 8) (v := .ref (ao 10000)) hi_X8_cuts_X8 0 0 0 dX8_cuts_15 rfl rfl (by decide) fl_X8_cuts_10 rfl ?_
    refine g_iload_n F dX8_cuts_18 rfl 1 rfl ?_
    refine g_iload_n F dX8_cuts_19 rfl 2 rfl ?_
    obtain ⟨r2, hr2, h⟩ := bnd h
    refine g_cV F [.int x1, .int x2] 0 0 (ok_X3_has (gl G) (gD G) cy (fun k => ao (10000 + k)) Nn x1 x2 r2 hr2) dX8_cuts_20 rfl rfl gX8_cuts_X3_has rfl ⟨rfl, cd_X3_has⟩ (by decide) rfl (Nat.le_of_ble_eq_true rfl) [1] (by decide) rfl rfl (sg' := [(sAO ao), (sNet cy (fun k => ao (10000 + k)) Nn), (sPst cy (fun k => ao (50000 + k)) Pp)]) (st' := [.int r2]) rfl rfl ?_
    refine g_if_ne F 29 h dX8_cuts_23 (by decide) (fun h => ?_) (fun h => ?_)
    · refine g_aload_n F dX8_cuts_29 rfl 0 rfl ?_
      refine g_get F (C := RX8) (T := TX8) (N := 11) (ci := 8) (v := .ref (ao 50000)) hi_X8_cuts_X8 0 0 4 dX8_cuts_30 rfl rfl (by decide) fl_X8_cuts_36 rfl ?_
      refine g_aload_n F dX8_cuts_33 rfl 0 rfl ?_
      refine g_get F (C := RX8) (T := TX8) (N := 11) (ci := 8) (v := .ref (ao 10000)) hi_X8_cuts_X8 0 0 0 dX8_cuts_34 rfl rfl (by decide) fl_X8_cuts_10 rfl ?_
      obtain ⟨r3, hr3, h⟩ := bnd h
      refine g_cV F [.ref (ao 10000)] 0 0 (ok_X4_push (gl G) (gD G) cy (fun k => ao (50000 + k)) (fun k => ao (10000 + k)) Pp Nn r3 hr3) dX8_cuts_37 rfl rfl gX8_cuts_X4_push rfl ⟨rfl, cd_X4_push⟩ (by decide) rfl (Nat.le_of_ble_eq_true rfl) [2, 1] (by decide) rfl rfl (sg' := [(sAO ao), (sNet cy (fun k => ao (10000 + k)) Nn), (sPst cy (fun k => ao (50000 + k)) r3)]) (st' := []) rfl rfl ?_
      refine g_aload_n F dX8_cuts_40 rfl 0 rfl ?_
      refine g_get F (C := RX8) (T := TX8) (N := 11) (ci := 8) (v := .ref (ao 10000)) hi_X8_cuts_X8 0 0 0 dX8_cuts_41 rfl rfl (by decide) fl_X8_cuts_10 rfl ?_
      refine g_iload_n F dX8_cuts_44 rfl 1 rfl ?_
      refine g_iload_n F dX8_cuts_45 rfl 2 rfl ?_
      obtain ⟨r4, hr4, h⟩ := bnd h
      refine g_cV F [.int x1, .int x2] 0 0 (ok_X3_part (gl G) (gD G) cy (fun k => ao (10000 + k)) Nn x1 x2 r4 hr4) dX8_cuts_46 rfl rfl gX8_cuts_X3_part rfl ⟨rfl, cd_X3_part⟩ (by decide) rfl (Nat.le_of_ble_eq_true rfl) [1] (by decide) rfl rfl (sg' := [(sAO ao), (sNet cy (fun k => ao (10000 + k)) r4), (sPst cy (fun k => ao (50000 + k)) r3)]) (st' := []) rfl rfl ?_
      refine g_aload_n F dX8_cuts_49 rfl 0 rfl ?_
      refine g_get F (C := RX8) (T := TX8) (N := 11) (ci := 8) (v := .ref (ao 10000)) hi_X8_cuts_X8 0 0 0 dX8_cuts_50 rfl rfl (by decide) fl_X8_cuts_10 rfl ?_
      refine g_get F (C := RX3) (T := TX3) (N := 7) (ci := 3) (v := .int r4.2.1) hi_X8_cuts_X3 1 0 1 dX8_cuts_53 rfl rfl (by decide) fl_X8_cuts_130 rfl ?_
      obtain rfl := Option.some.inj h
      exact g_iret F Rq rfl dX8_cuts_56
    · refine g_bipush F (v := (-2 : Int32)) dX8_cuts_26 (by decide) ?_
      obtain rfl := Option.some.inj h
      exact g_iret F Rq rfl dX8_cuts_28
  · refine g_iconst F (v := (-1 : Int32)) dX8_cuts_12 (by decide) ?_
    obtain rfl := Option.some.inj h
    exact g_iret F Rq rfl dX8_cuts_13
theorem hi_X8_sorts_X8 : ∀ w ∈ u_ws RX8 TX8 11, w ∈ wsX8_sorts := by decide +kernel
theorem fl_X8_sorts_36 : Cond.fieldLink RX8 36 "ArcOrder" "past" "LArcOrder$Past;" ∈ wsX8_sorts := by decide +kernel
theorem fl_X8_sorts_10 : Cond.fieldLink RX8 10 "ArcOrder" "net" "LArcOrder$Net;" ∈ wsX8_sorts := by decide +kernel
theorem fl_X8_sorts_16 : Cond.fieldLink RX8 16 "ArcOrder" "aside" "LArcOrder$Net;" ∈ wsX8_sorts := by decide +kernel
abbrev rm_X8_sorts : Room := { frames := 4, cells := 0, slots := 0, locals := 221 }
set_option maxHeartbeats 4000000 in
set_option maxRecDepth 100000 in
theorem ok_X8_sorts (l : Launch) (D : va_G) (cy : Nat → ClassId) (ao : Nat → Nat)  (Nn : NetS) (Bb : NetS) (Pp : PstS)  (out : Int32 × NetS × NetS × PstS) (h : f_X8_sorts Nn Bb Pp = some out) : OK l D cy yX8_sorts wsX8_sorts rm_X8_sorts [.ref (ao 0)] [(sAO ao), (sNet cy (fun k => ao (10000 + k)) Nn), (sNet cy (fun k => ao (20000 + k)) Bb), (sPst cy (fun k => ao (50000 + k)) Pp)] (some (.int out.1)) [(sAO ao), (sNet cy (fun k => ao (10000 + k)) out.2.1), (sNet cy (fun k => ao (20000 + k)) out.2.2.1), (sPst cy (fun k => ao (50000 + k)) out.2.2.2)] := by
  refine OKx.of (cc := cX8_sorts) (maxL := 1) (ret := (some .int)) (by decide) rfl (Nat.le_of_ble_eq_true rfl) (fun G F Rq => ?_)
  show Go G 0 0 0 [(0, .ref (ao 0))] [] [(sAO ao), (sNet cy (fun k => ao (10000 + k)) Nn), (sNet cy (fun k => ao (20000 + k)) Bb), (sPst cy (fun k => ao (50000 + k)) Pp)]
  replace F : Fx G cX8_sorts wsX8_sorts RX8 cy 1 (rm_X8_sorts) := F
  replace Rq : Rx G "sorts" (some .int) (some (.int out.1)) (fun z => z = [(sAO ao), (sNet cy (fun k => ao (10000 + k)) out.2.1), (sNet cy (fun k => ao (20000 + k)) out.2.2.1), (sPst cy (fun k => ao (50000 + k)) out.2.2.2)]) 0 0 := Rq
  unfold f_X8_sorts at h
  refine g_aload_n F dX8_sorts_0 rfl 0 rfl ?_
  refine g_get F (C := RX8) (T := TX8) (N := 11) (ci := 8) (v := .ref (ao 50000)) hi_X8_sorts_X8 0 0 4 dX8_sorts_1 rfl rfl (by decide) fl_X8_sorts_36 rfl ?_
  refine g_aload_n F dX8_sorts_4 rfl 0 rfl ?_
  refine g_get F (C := RX8) (T := TX8) (N := 11) (ci := 8) (v := .ref (ao 10000)) hi_X8_sorts_X8 0 0 0 dX8_sorts_5 rfl rfl (by decide) fl_X8_sorts_10 rfl ?_
  obtain ⟨r1, hr1, h⟩ := bnd h
  refine g_cV F [.ref (ao 10000)] 0 0 (ok_X4_push (gl G) (gD G) cy (fun k => ao (50000 + k)) (fun k => ao (10000 + k)) Pp Nn r1 hr1) dX8_sorts_8 rfl rfl gX8_sorts_X4_push rfl ⟨rfl, cd_X4_push⟩ (by decide) rfl (Nat.le_of_ble_eq_true rfl) [3, 1] (by decide) rfl rfl (sg' := [(sAO ao), (sNet cy (fun k => ao (10000 + k)) Nn), (sNet cy (fun k => ao (20000 + k)) Bb), (sPst cy (fun k => ao (50000 + k)) r1)]) (st' := []) rfl rfl ?_
  refine g_aload_n F dX8_sorts_11 rfl 0 rfl ?_
  refine g_get F (C := RX8) (T := TX8) (N := 11) (ci := 8) (v := .ref (ao 20000)) hi_X8_sorts_X8 0 0 1 dX8_sorts_12 rfl rfl (by decide) fl_X8_sorts_16 rfl ?_
  refine g_aload_n F dX8_sorts_15 rfl 0 rfl ?_
  refine g_get F (C := RX8) (T := TX8) (N := 11) (ci := 8) (v := .ref (ao 10000)) hi_X8_sorts_X8 0 0 0 dX8_sorts_16 rfl rfl (by decide) fl_X8_sorts_10 rfl ?_
  obtain ⟨r2, hr2, h⟩ := bnd h
  refine g_cV F [.ref (ao 10000)] 0 0 (ok_X3_copyOf (gl G) (gD G) cy (fun k => ao (20000 + k)) (fun k => ao (10000 + k)) Bb Nn r2 hr2) dX8_sorts_19 rfl rfl gX8_sorts_X3_copyOf rfl ⟨rfl, cd_X3_copyOf⟩ (by decide) rfl (Nat.le_of_ble_eq_true rfl) [2, 1] (by decide) rfl rfl (sg' := [(sAO ao), (sNet cy (fun k => ao (10000 + k)) Nn), (sNet cy (fun k => ao (20000 + k)) r2), (sPst cy (fun k => ao (50000 + k)) r1)]) (st' := []) rfl rfl ?_
  refine g_aload_n F dX8_sorts_22 rfl 0 rfl ?_
  refine g_get F (C := RX8) (T := TX8) (N := 11) (ci := 8) (v := .ref (ao 10000)) hi_X8_sorts_X8 0 0 0 dX8_sorts_23 rfl rfl (by decide) fl_X8_sorts_10 rfl ?_
  obtain ⟨r3, hr3, h⟩ := bnd h
  refine g_cV F [] 0 0 (ok_X3_sort (gl G) (gD G) cy (fun k => ao (10000 + k)) Nn r3 hr3) dX8_sorts_26 rfl rfl gX8_sorts_X3_sort rfl ⟨rfl, cd_X3_sort⟩ (by decide) rfl (Nat.le_of_ble_eq_true rfl) [1] (by decide) rfl rfl (sg' := [(sAO ao), (sNet cy (fun k => ao (10000 + k)) r3), (sNet cy (fun k => ao (20000 + k)) r2), (sPst cy (fun k => ao (50000 + k)) r1)]) (st' := []) rfl rfl ?_
  refine g_aload_n F dX8_sorts_29 rfl 0 rfl ?_
  refine g_get F (C := RX8) (T := TX8) (N := 11) (ci := 8) (v := .ref (ao 10000)) hi_X8_sorts_X8 0 0 0 dX8_sorts_30 rfl rfl (by decide) fl_X8_sorts_10 rfl ?_
  refine g_aload_n F dX8_sorts_33 rfl 0 rfl ?_
  refine g_get F (C := RX8) (T := TX8) (N := 11) (ci := 8) (v := .ref (ao 20000)) hi_X8_sorts_X8 0 0 1 dX8_sorts_34 rfl rfl (by decide) fl_X8_sorts_16 rfl ?_
  obtain ⟨r4, hr4, h⟩ := bnd h
  refine g_cV F [.ref (ao 20000)] 0 0 (ok_X3_placesUnlike (gl G) (gD G) cy (fun k => ao (10000 + k)) (fun k => ao (20000 + k)) r3 r2 r4 hr4) dX8_sorts_37 rfl rfl gX8_sorts_X3_placesUnlike rfl ⟨rfl, cd_X3_placesUnlike⟩ (by decide) rfl (Nat.le_of_ble_eq_true rfl) [1, 2] (by decide) rfl rfl (sg' := [(sAO ao), (sNet cy (fun k => ao (10000 + k)) r3), (sNet cy (fun k => ao (20000 + k)) r2), (sPst cy (fun k => ao (50000 + k)) r1)]) (st' := [.int r4]) rfl rfl ?_
  obtain rfl := Option.some.inj h
  exact g_iret F Rq rfl dX8_sorts_40
theorem hi_X8_undo_X8 : ∀ w ∈ u_ws RX8 TX8 11, w ∈ wsX8_undo := by decide +kernel
theorem fl_X8_undo_36 : Cond.fieldLink RX8 36 "ArcOrder" "past" "LArcOrder$Past;" ∈ wsX8_undo := by decide +kernel
theorem fl_X8_undo_10 : Cond.fieldLink RX8 10 "ArcOrder" "net" "LArcOrder$Net;" ∈ wsX8_undo := by decide +kernel
theorem hi_X8_undo_X4 : ∀ w ∈ u_ws RX4 TX4 2, w ∈ wsX8_undo := by decide +kernel
theorem fl_X8_undo_95 : Cond.fieldLink RX8 95 "ArcOrder$Past" "size" "I" ∈ wsX8_undo := by decide +kernel
abbrev rm_X8_undo : Room := { frames := 4, cells := 0, slots := 0, locals := 221 }
set_option maxHeartbeats 4000000 in
set_option maxRecDepth 100000 in
theorem ok_X8_undo (l : Launch) (D : va_G) (cy : Nat → ClassId) (ao : Nat → Nat)  (Nn : NetS) (Pp : PstS)  (out : Int32 × NetS × PstS) (h : f_X8_undo Nn Pp = some out) : OK l D cy yX8_undo wsX8_undo rm_X8_undo [.ref (ao 0)] [(sAO ao), (sNet cy (fun k => ao (10000 + k)) Nn), (sPst cy (fun k => ao (50000 + k)) Pp)] (some (.int out.1)) [(sAO ao), (sNet cy (fun k => ao (10000 + k)) out.2.1), (sPst cy (fun k => ao (50000 + k)) out.2.2)] := by
  refine OKx.of (cc := cX8_undo) (maxL := 1) (ret := (some .int)) (by decide) rfl (Nat.le_of_ble_eq_true rfl) (fun G F Rq => ?_)
  show Go G 0 0 0 [(0, .ref (ao 0))] [] [(sAO ao), (sNet cy (fun k => ao (10000 + k)) Nn), (sPst cy (fun k => ao (50000 + k)) Pp)]
  replace F : Fx G cX8_undo wsX8_undo RX8 cy 1 (rm_X8_undo) := F
  replace Rq : Rx G "undo" (some .int) (some (.int out.1)) (fun z => z = [(sAO ao), (sNet cy (fun k => ao (10000 + k)) out.2.1), (sPst cy (fun k => ao (50000 + k)) out.2.2)]) 0 0 := Rq
  unfold f_X8_undo at h
  refine g_aload_n F dX8_undo_0 rfl 0 rfl ?_
  refine g_get F (C := RX8) (T := TX8) (N := 11) (ci := 8) (v := .ref (ao 50000)) hi_X8_undo_X8 0 0 4 dX8_undo_1 rfl rfl (by decide) fl_X8_undo_36 rfl ?_
  refine g_aload_n F dX8_undo_4 rfl 0 rfl ?_
  refine g_get F (C := RX8) (T := TX8) (N := 11) (ci := 8) (v := .ref (ao 10000)) hi_X8_undo_X8 0 0 0 dX8_undo_5 rfl rfl (by decide) fl_X8_undo_10 rfl ?_
  obtain ⟨r1, hr1, h⟩ := bnd h
  refine g_cV F [.ref (ao 10000)] 0 0 (ok_X4_pop (gl G) (gD G) cy (fun k => ao (50000 + k)) (fun k => ao (10000 + k)) Pp Nn r1 hr1) dX8_undo_8 rfl rfl gX8_undo_X4_pop rfl ⟨rfl, cd_X4_pop⟩ (by decide) rfl (Nat.le_of_ble_eq_true rfl) [2, 1] (by decide) rfl rfl (sg' := [(sAO ao), (sNet cy (fun k => ao (10000 + k)) r1.2.2), (sPst cy (fun k => ao (50000 + k)) r1.2.1)]) (st' := [.int r1.1]) rfl rfl ?_
  refine g_if_eq F 24 h dX8_undo_11 (by decide) (fun h => ?_) (fun h => ?_)
  · refine g_bipush F (v := (-2 : Int32)) dX8_undo_24 (by decide) ?_
    obtain rfl := Option.some.inj h
    exact g_iret F Rq rfl dX8_undo_26
  · refine g_aload_n F dX8_undo_14 rfl 0 rfl ?_
    refine g_get F (C := RX8) (T := TX8) (N := 11) (ci := 8) (v := .ref (ao 50000)) hi_X8_undo_X8 0 0 4 dX8_undo_15 rfl rfl (by decide) fl_X8_undo_36 rfl ?_
    refine g_get F (C := RX4) (T := TX4) (N := 2) (ci := 4) (v := .int r1.2.1.1) hi_X8_undo_X4 2 0 0 dX8_undo_18 rfl rfl (by decide) fl_X8_undo_95 rfl ?_
    refine g_goto F 26 dX8_undo_21 (by decide) ?_
    obtain rfl := Option.some.inj h
    exact g_iret F Rq rfl dX8_undo_26
theorem hi_X8_lap_X8 : ∀ w ∈ u_ws RX8 TX8 11, w ∈ wsX8_lap := by decide +kernel
theorem fl_X8_lap_43 : Cond.fieldLink RX8 43 "ArcOrder" "ring" "LArcOrder$Lap;" ∈ wsX8_lap := by decide +kernel
theorem hi_X8_lap_X2 : ∀ w ∈ u_ws RX2 TX2 3, w ∈ wsX8_lap := by decide +kernel
theorem fl_X8_lap_193 : Cond.fieldLink RX8 193 "ArcOrder$Lap" "length" "I" ∈ wsX8_lap := by decide +kernel
theorem fl_X8_lap_194 : Cond.fieldLink RX8 194 "ArcOrder$Lap" "items" "[I" ∈ wsX8_lap := by decide +kernel
abbrev rm_X8_lap : Room := { frames := 0, cells := 0, slots := 0, locals := 0 }
set_option maxHeartbeats 4000000 in
set_option maxRecDepth 100000 in
theorem ok_X8_lap (l : Launch) (D : va_G) (cy : Nat → ClassId) (ao : Nat → Nat)  (Rr : LapS) (x1 : Int32) (out : Int32) (h : f_X8_lap Rr x1 = some out) : OK l D cy yX8_lap wsX8_lap rm_X8_lap [.ref (ao 0), .int x1] [(sAO ao), (sLap cy (fun k => ao (60000 + k)) Rr)] (some (.int out)) [(sAO ao), (sLap cy (fun k => ao (60000 + k)) Rr)] := by
  refine OKx.of (cc := cX8_lap) (maxL := 2) (ret := (some .int)) (by decide) rfl (Nat.le_of_ble_eq_true rfl) (fun G F Rq => ?_)
  show Go G 0 0 0 [(0, .ref (ao 0)), (1, .int x1)] [] [(sAO ao), (sLap cy (fun k => ao (60000 + k)) Rr)]
  replace F : Fx G cX8_lap wsX8_lap RX8 cy 2 (rm_X8_lap) := F
  replace Rq : Rx G "lap" (some .int) (some (.int out)) (fun z => z = [(sAO ao), (sLap cy (fun k => ao (60000 + k)) Rr)]) 0 0 := Rq
  unfold f_X8_lap at h
  refine g_iload_n F dX8_lap_0 rfl 1 rfl ?_
  refine g_iconst F (v := (-1 : Int32)) dX8_lap_1 (by decide) ?_
  refine g_icmp_ge F 7 h dX8_lap_2 (by decide) (fun h => ?_) (fun h => ?_)
  · refine g_iload_n F dX8_lap_7 rfl 1 rfl ?_
    refine g_iconst F (v := (-1 : Int32)) dX8_lap_8 (by decide) ?_
    refine g_icmp_ne F 20 h dX8_lap_9 (by decide) (fun h => ?_) (fun h => ?_)
    · refine g_iload_n F dX8_lap_20 rfl 1 rfl ?_
      refine g_aload_n F dX8_lap_21 rfl 0 rfl ?_
      refine g_get F (C := RX8) (T := TX8) (N := 11) (ci := 8) (v := .ref (ao 60000)) hi_X8_lap_X8 0 0 5 dX8_lap_22 rfl rfl (by decide) fl_X8_lap_43 rfl ?_
      refine g_get F (C := RX2) (T := TX2) (N := 3) (ci := 2) (v := .int Rr.1) hi_X8_lap_X2 1 0 0 dX8_lap_25 rfl rfl (by decide) fl_X8_lap_193 rfl ?_
      refine g_icmp_ge F 43 h dX8_lap_28 (by decide) (fun h => ?_) (fun h => ?_)
      · refine g_bipush F (v := (-9 : Int32)) dX8_lap_43 (by decide) ?_
        obtain rfl := Option.some.inj h
        exact g_iret F Rq rfl dX8_lap_45
      · refine g_aload_n F dX8_lap_31 rfl 0 rfl ?_
        refine g_get F (C := RX8) (T := TX8) (N := 11) (ci := 8) (v := .ref (ao 60000)) hi_X8_lap_X8 0 0 5 dX8_lap_32 rfl rfl (by decide) fl_X8_lap_43 rfl ?_
        refine g_get F (C := RX2) (T := TX2) (N := 3) (ci := 2) (v := .ref (ao 60002)) hi_X8_lap_X2 1 0 1 dX8_lap_35 rfl rfl (by decide) fl_X8_lap_194 rfl ?_
        refine g_iload_n F dX8_lap_38 rfl 1 rfl ?_
        refine g_iaload F h 1 1 dX8_lap_39 rfl (fun h => ?_)
        refine g_goto F 45 dX8_lap_40 (by decide) ?_
        obtain rfl := Option.some.inj h
        exact g_iret F Rq rfl dX8_lap_45
    · refine g_aload_n F dX8_lap_12 rfl 0 rfl ?_
      refine g_get F (C := RX8) (T := TX8) (N := 11) (ci := 8) (v := .ref (ao 60000)) hi_X8_lap_X8 0 0 5 dX8_lap_13 rfl rfl (by decide) fl_X8_lap_43 rfl ?_
      refine g_get F (C := RX2) (T := TX2) (N := 3) (ci := 2) (v := .int Rr.1) hi_X8_lap_X2 1 0 0 dX8_lap_16 rfl rfl (by decide) fl_X8_lap_193 rfl ?_
      obtain rfl := Option.some.inj h
      exact g_iret F Rq rfl dX8_lap_19
  · refine g_iconst F (v := (-1 : Int32)) dX8_lap_5 (by decide) ?_
    obtain rfl := Option.some.inj h
    exact g_iret F Rq rfl dX8_lap_6
theorem hi_X8_arc_X8 : ∀ w ∈ u_ws RX8 TX8 11, w ∈ wsX8_arc := by decide +kernel
theorem fl_X8_arc_10 : Cond.fieldLink RX8 10 "ArcOrder" "net" "LArcOrder$Net;" ∈ wsX8_arc := by decide +kernel
abbrev rm_X8_arc : Room := { frames := 3, cells := 0, slots := 0, locals := 69 }
set_option maxHeartbeats 4000000 in
set_option maxRecDepth 100000 in
theorem ok_X8_arc (l : Launch) (D : va_G) (cy : Nat → ClassId) (ao : Nat → Nat)  (Nn : NetS) (x1 : Int32) (x2 : Int32) (x3 : Int32) (out : Int32) (h : f_X8_arc Nn x1 x2 x3 = some out) : OK l D cy yX8_arc wsX8_arc rm_X8_arc [.ref (ao 0), .int x1, .int x2, .int x3] [(sAO ao), (sNet cy (fun k => ao (10000 + k)) Nn)] (some (.int out)) [(sAO ao), (sNet cy (fun k => ao (10000 + k)) Nn)] := by
  refine OKx.of (cc := cX8_arc) (maxL := 4) (ret := (some .int)) (by decide) rfl (Nat.le_of_ble_eq_true rfl) (fun G F Rq => ?_)
  show Go G 0 0 0 [(0, .ref (ao 0)), (1, .int x1), (2, .int x2), (3, .int x3)] [] [(sAO ao), (sNet cy (fun k => ao (10000 + k)) Nn)]
  replace F : Fx G cX8_arc wsX8_arc RX8 cy 4 (rm_X8_arc) := F
  replace Rq : Rx G "arc" (some .int) (some (.int out)) (fun z => z = [(sAO ao), (sNet cy (fun k => ao (10000 + k)) Nn)]) 0 0 := Rq
  unfold f_X8_arc at h
  refine g_aload_n F dX8_arc_0 rfl 0 rfl ?_
  refine g_get F (C := RX8) (T := TX8) (N := 11) (ci := 8) (v := .ref (ao 10000)) hi_X8_arc_X8 0 0 0 dX8_arc_1 rfl rfl (by decide) fl_X8_arc_10 rfl ?_
  refine g_iload_n F dX8_arc_4 rfl 1 rfl ?_
  refine g_iload_n F dX8_arc_5 rfl 2 rfl ?_
  obtain ⟨r1, hr1, h⟩ := bnd h
  refine g_cV F [.int x1, .int x2] 0 0 (ok_X3_isPair (gl G) (gD G) cy (fun k => ao (10000 + k)) Nn x1 x2 r1 hr1) dX8_arc_6 rfl rfl gX8_arc_X3_isPair rfl ⟨rfl, cd_X3_isPair⟩ (by decide) rfl (Nat.le_of_ble_eq_true rfl) [1] (by decide) rfl rfl (sg' := [(sAO ao), (sNet cy (fun k => ao (10000 + k)) Nn)]) (st' := [.int r1]) rfl rfl ?_
  refine g_if_eq F 21 h dX8_arc_9 (by decide) (fun h => ?_) (fun h => ?_)
  · refine g_iconst F (v := (-1 : Int32)) dX8_arc_21 (by decide) ?_
    obtain rfl := Option.some.inj h
    exact g_iret F Rq rfl dX8_arc_22
  · refine g_iload_n F dX8_arc_12 rfl 3 rfl ?_
    refine g_if_lt F 21 h dX8_arc_13 (by decide) (fun h => ?_) (fun h => ?_)
    · refine g_iconst F (v := (-1 : Int32)) dX8_arc_21 (by decide) ?_
      obtain rfl := Option.some.inj h
      exact g_iret F Rq rfl dX8_arc_22
    · refine g_iload_n F dX8_arc_16 rfl 3 rfl ?_
      refine g_iconst F (v := (3 : Int32)) dX8_arc_17 (by decide) ?_
      refine g_icmp_le F 23 h dX8_arc_18 (by decide) (fun h => ?_) (fun h => ?_)
      · refine g_aload_n F dX8_arc_23 rfl 0 rfl ?_
        refine g_get F (C := RX8) (T := TX8) (N := 11) (ci := 8) (v := .ref (ao 10000)) hi_X8_arc_X8 0 0 0 dX8_arc_24 rfl rfl (by decide) fl_X8_arc_10 rfl ?_
        refine g_iload_n F dX8_arc_27 rfl 1 rfl ?_
        refine g_iload_n F dX8_arc_28 rfl 2 rfl ?_
        obtain ⟨r2, hr2, h⟩ := bnd h
        refine g_cV F [.int x1, .int x2] 0 0 (ok_X3_has (gl G) (gD G) cy (fun k => ao (10000 + k)) Nn x1 x2 r2 hr2) dX8_arc_29 rfl rfl gX8_arc_X3_has rfl ⟨rfl, cd_X3_has⟩ (by decide) rfl (Nat.le_of_ble_eq_true rfl) [1] (by decide) rfl rfl (sg' := [(sAO ao), (sNet cy (fun k => ao (10000 + k)) Nn)]) (st' := [.int r2]) rfl rfl ?_
        refine g_if_eq F 38 h dX8_arc_32 (by decide) (fun h => ?_) (fun h => ?_)
        · refine g_iload_n F dX8_arc_38 rfl 3 rfl ?_
          refine its h (fun c3 h => ?_) (fun c3 h => ?_)
          · refine g_tin F 64 dX8_arc_39 (by rw [c3]; decide) (by rw [c3]; rfl) (by decide) ?_
            refine g_aload_n F dX8_arc_64 rfl 0 rfl ?_
            refine g_get F (C := RX8) (T := TX8) (N := 11) (ci := 8) (v := .ref (ao 10000)) hi_X8_arc_X8 0 0 0 dX8_arc_65 rfl rfl (by decide) fl_X8_arc_10 rfl ?_
            refine g_iload_n F dX8_arc_68 rfl 1 rfl ?_
            refine g_iload_n F dX8_arc_69 rfl 2 rfl ?_
            obtain ⟨r4, hr4, h⟩ := bnd h
            refine g_cV F [.int x1, .int x2] 0 0 (ok_X3_movedBy (gl G) (gD G) cy (fun k => ao (10000 + k)) Nn x1 x2 r4 hr4) dX8_arc_70 rfl rfl gX8_arc_X3_movedBy rfl ⟨rfl, cd_X3_movedBy⟩ (by decide) rfl (Nat.le_of_ble_eq_true rfl) [1] (by decide) rfl rfl (sg' := [(sAO ao), (sNet cy (fun k => ao (10000 + k)) Nn)]) (st' := [.int r4]) rfl rfl ?_
            obtain rfl := Option.some.inj h
            exact g_iret F Rq rfl dX8_arc_73
          refine its h (fun c5 h => ?_) (fun c5 h => ?_)
          · refine g_tin F 74 dX8_arc_39 (by rw [c5]; decide) (by rw [c5]; rfl) (by decide) ?_
            refine g_aload_n F dX8_arc_74 rfl 0 rfl ?_
            refine g_get F (C := RX8) (T := TX8) (N := 11) (ci := 8) (v := .ref (ao 10000)) hi_X8_arc_X8 0 0 0 dX8_arc_75 rfl rfl (by decide) fl_X8_arc_10 rfl ?_
            refine g_iload_n F dX8_arc_78 rfl 1 rfl ?_
            refine g_iload_n F dX8_arc_79 rfl 2 rfl ?_
            obtain ⟨r6, hr6, h⟩ := bnd h
            refine g_cV F [.int x1, .int x2] 0 0 (ok_X3_closesRing (gl G) (gD G) cy (fun k => ao (10000 + k)) Nn x1 x2 r6 hr6) dX8_arc_80 rfl rfl gX8_arc_X3_closesRing rfl ⟨rfl, cd_X3_closesRing⟩ (by decide) rfl (Nat.le_of_ble_eq_true rfl) [1] (by decide) rfl rfl (sg' := [(sAO ao), (sNet cy (fun k => ao (10000 + k)) Nn)]) (st' := [.int r6]) rfl rfl ?_
            refine g_if_eq F 90 h dX8_arc_83 (by decide) (fun h => ?_) (fun h => ?_)
            · refine g_iconst F (v := (0 : Int32)) dX8_arc_90 (by decide) ?_
              obtain rfl := Option.some.inj h
              exact g_iret F Rq rfl dX8_arc_91
            · refine g_iconst F (v := (1 : Int32)) dX8_arc_86 (by decide) ?_
              refine g_goto F 91 dX8_arc_87 (by decide) ?_
              obtain rfl := Option.some.inj h
              exact g_iret F Rq rfl dX8_arc_91
          refine its h (fun c7 h => ?_) (fun c7 h => ?_)
          · refine g_tin F 92 dX8_arc_39 (by rw [c7]; decide) (by rw [c7]; rfl) (by decide) ?_
            refine g_aload_n F dX8_arc_92 rfl 0 rfl ?_
            refine g_get F (C := RX8) (T := TX8) (N := 11) (ci := 8) (v := .ref (ao 10000)) hi_X8_arc_X8 0 0 0 dX8_arc_93 rfl rfl (by decide) fl_X8_arc_10 rfl ?_
            refine g_iload_n F dX8_arc_96 rfl 1 rfl ?_
            refine g_iload_n F dX8_arc_97 rfl 2 rfl ?_
            obtain ⟨r8, hr8, h⟩ := bnd h
            refine g_cV F [.int x1, .int x2] 0 0 (ok_X3_before (gl G) (gD G) cy (fun k => ao (10000 + k)) Nn x1 x2 r8 hr8) dX8_arc_98 rfl rfl gX8_arc_X3_before rfl ⟨rfl, cd_X3_before⟩ (by decide) rfl (Nat.le_of_ble_eq_true rfl) [1] (by decide) rfl rfl (sg' := [(sAO ao), (sNet cy (fun k => ao (10000 + k)) Nn)]) (st' := [.int r8]) rfl rfl ?_
            obtain rfl := Option.some.inj h
            exact g_iret F Rq rfl dX8_arc_101
          · refine g_tout F 102 dX8_arc_39 (sw_out (n := 2) (by decide) (fun k hk => by match k, hk with | 0, _ => exact c3 | 1, _ => exact c5 | 2, _ => exact c7 | k + 3, hk => omega)) (by decide) ?_
            refine g_aload_n F dX8_arc_102 rfl 0 rfl ?_
            refine g_get F (C := RX8) (T := TX8) (N := 11) (ci := 8) (v := .ref (ao 10000)) hi_X8_arc_X8 0 0 0 dX8_arc_103 rfl rfl (by decide) fl_X8_arc_10 rfl ?_
            refine g_iload_n F dX8_arc_106 rfl 1 rfl ?_
            refine g_iload_n F dX8_arc_107 rfl 2 rfl ?_
            obtain ⟨r9, hr9, h⟩ := bnd h
            refine g_cV F [.int x1, .int x2] 0 0 (ok_X3_after (gl G) (gD G) cy (fun k => ao (10000 + k)) Nn x1 x2 r9 hr9) dX8_arc_108 rfl rfl gX8_arc_X3_after rfl ⟨rfl, cd_X3_after⟩ (by decide) rfl (Nat.le_of_ble_eq_true rfl) [1] (by decide) rfl rfl (sg' := [(sAO ao), (sNet cy (fun k => ao (10000 + k)) Nn)]) (st' := [.int r9]) rfl rfl ?_
            obtain rfl := Option.some.inj h
            exact g_iret F Rq rfl dX8_arc_111
        · refine g_bipush F (v := (-2 : Int32)) dX8_arc_35 (by decide) ?_
          obtain rfl := Option.some.inj h
          exact g_iret F Rq rfl dX8_arc_37
      · refine g_iconst F (v := (-1 : Int32)) dX8_arc_21 (by decide) ?_
        obtain rfl := Option.some.inj h
        exact g_iret F Rq rfl dX8_arc_22
theorem hi_X8_orders_X8 : ∀ w ∈ u_ws RX8 TX8 11, w ∈ wsX8_orders := by decide +kernel
theorem fl_X8_orders_57 : Cond.fieldLink RX8 57 "ArcOrder" "tally" "LArcOrder$Tally;" ∈ wsX8_orders := by decide +kernel
theorem fl_X8_orders_10 : Cond.fieldLink RX8 10 "ArcOrder" "net" "LArcOrder$Net;" ∈ wsX8_orders := by decide +kernel
abbrev rm_X8_orders : Room := { frames := 5, cells := 0, slots := 0, locals := 125 }
set_option maxHeartbeats 4000000 in
set_option maxRecDepth 100000 in
theorem ok_X8_orders (l : Launch) (D : va_G) (cy : Nat → ClassId) (ao : Nat → Nat)  (Nn : NetS) (Ww : TalS) (Dd : NetS)  (out : Int64 × TalS × NetS) (h : f_X8_orders Nn Ww Dd = some out) : OK l D cy yX8_orders wsX8_orders rm_X8_orders [.ref (ao 0)] [(sAO ao), (sNet cy (fun k => ao (10000 + k)) Nn), (sTal cy (fun k => ao (80000 + k)) Ww), (sNet cy (fun k => ao (80000 + (200 + k))) Dd)] (some (.long out.1)) [(sAO ao), (sNet cy (fun k => ao (10000 + k)) Nn), (sTal cy (fun k => ao (80000 + k)) out.2.1), (sNet cy (fun k => ao (80000 + (200 + k))) out.2.2)] := by
  refine OKx.of (cc := cX8_orders) (maxL := 1) (ret := (some .long)) (by decide) rfl (Nat.le_of_ble_eq_true rfl) (fun G F Rq => ?_)
  show Go G 0 0 0 [(0, .ref (ao 0))] [] [(sAO ao), (sNet cy (fun k => ao (10000 + k)) Nn), (sTal cy (fun k => ao (80000 + k)) Ww), (sNet cy (fun k => ao (80000 + (200 + k))) Dd)]
  replace F : Fx G cX8_orders wsX8_orders RX8 cy 1 (rm_X8_orders) := F
  replace Rq : Rx G "orders" (some .long) (some (.long out.1)) (fun z => z = [(sAO ao), (sNet cy (fun k => ao (10000 + k)) Nn), (sTal cy (fun k => ao (80000 + k)) out.2.1), (sNet cy (fun k => ao (80000 + (200 + k))) out.2.2)]) 0 0 := Rq
  unfold f_X8_orders at h
  refine g_aload_n F dX8_orders_0 rfl 0 rfl ?_
  refine g_get F (C := RX8) (T := TX8) (N := 11) (ci := 8) (v := .ref (ao 80000)) hi_X8_orders_X8 0 0 7 dX8_orders_1 rfl rfl (by decide) fl_X8_orders_57 rfl ?_
  refine g_aload_n F dX8_orders_4 rfl 0 rfl ?_
  refine g_get F (C := RX8) (T := TX8) (N := 11) (ci := 8) (v := .ref (ao 10000)) hi_X8_orders_X8 0 0 0 dX8_orders_5 rfl rfl (by decide) fl_X8_orders_10 rfl ?_
  obtain ⟨r1, hr1, h⟩ := bnd h
  refine g_cV F [.ref (ao 10000)] 0 0 (ok_X6_all (gl G) (gD G) cy (fun k => ao (80000 + k)) (fun k => ao (10000 + k)) Ww Dd Nn r1 hr1) dX8_orders_8 rfl rfl gX8_orders_X6_all rfl ⟨rfl, cd_X6_all⟩ (by decide) rfl (Nat.le_of_ble_eq_true rfl) [2, 3, 1] (by decide) rfl rfl (sg' := [(sAO ao), (sNet cy (fun k => ao (10000 + k)) Nn), (sTal cy (fun k => ao (80000 + k)) r1.2.1), (sNet cy (fun k => ao (80000 + (200 + k))) r1.2.2)]) (st' := [.long r1.1]) rfl rfl ?_
  obtain rfl := Option.some.inj h
  exact g_lret F Rq rfl dX8_orders_11
theorem hi_X8_number_X8 : ∀ w ∈ u_ws RX8 TX8 11, w ∈ wsX8_number := by decide +kernel
theorem fl_X8_number_57 : Cond.fieldLink RX8 57 "ArcOrder" "tally" "LArcOrder$Tally;" ∈ wsX8_number := by decide +kernel
theorem fl_X8_number_10 : Cond.fieldLink RX8 10 "ArcOrder" "net" "LArcOrder$Net;" ∈ wsX8_number := by decide +kernel
abbrev rm_X8_number : Room := { frames := 5, cells := 0, slots := 0, locals := 131 }
set_option maxHeartbeats 4000000 in
set_option maxRecDepth 100000 in
theorem ok_X8_number (l : Launch) (D : va_G) (cy : Nat → ClassId) (ao : Nat → Nat)  (Nn : NetS) (Ww : TalS) (Dd : NetS)  (out : Int64 × TalS × NetS) (h : f_X8_number Nn Ww Dd = some out) : OK l D cy yX8_number wsX8_number rm_X8_number [.ref (ao 0)] [(sAO ao), (sNet cy (fun k => ao (10000 + k)) Nn), (sTal cy (fun k => ao (80000 + k)) Ww), (sNet cy (fun k => ao (80000 + (200 + k))) Dd)] (some (.long out.1)) [(sAO ao), (sNet cy (fun k => ao (10000 + k)) Nn), (sTal cy (fun k => ao (80000 + k)) out.2.1), (sNet cy (fun k => ao (80000 + (200 + k))) out.2.2)] := by
  refine OKx.of (cc := cX8_number) (maxL := 1) (ret := (some .long)) (by decide) rfl (Nat.le_of_ble_eq_true rfl) (fun G F Rq => ?_)
  show Go G 0 0 0 [(0, .ref (ao 0))] [] [(sAO ao), (sNet cy (fun k => ao (10000 + k)) Nn), (sTal cy (fun k => ao (80000 + k)) Ww), (sNet cy (fun k => ao (80000 + (200 + k))) Dd)]
  replace F : Fx G cX8_number wsX8_number RX8 cy 1 (rm_X8_number) := F
  replace Rq : Rx G "number" (some .long) (some (.long out.1)) (fun z => z = [(sAO ao), (sNet cy (fun k => ao (10000 + k)) Nn), (sTal cy (fun k => ao (80000 + k)) out.2.1), (sNet cy (fun k => ao (80000 + (200 + k))) out.2.2)]) 0 0 := Rq
  unfold f_X8_number at h
  refine g_aload_n F dX8_number_0 rfl 0 rfl ?_
  refine g_get F (C := RX8) (T := TX8) (N := 11) (ci := 8) (v := .ref (ao 80000)) hi_X8_number_X8 0 0 7 dX8_number_1 rfl rfl (by decide) fl_X8_number_57 rfl ?_
  refine g_aload_n F dX8_number_4 rfl 0 rfl ?_
  refine g_get F (C := RX8) (T := TX8) (N := 11) (ci := 8) (v := .ref (ao 10000)) hi_X8_number_X8 0 0 0 dX8_number_5 rfl rfl (by decide) fl_X8_number_10 rfl ?_
  obtain ⟨r1, hr1, h⟩ := bnd h
  refine g_cV F [.ref (ao 10000)] 0 0 (ok_X6_rank (gl G) (gD G) cy (fun k => ao (80000 + k)) (fun k => ao (10000 + k)) Ww Dd Nn r1 hr1) dX8_number_8 rfl rfl gX8_number_X6_rank rfl ⟨rfl, cd_X6_rank⟩ (by decide) rfl (Nat.le_of_ble_eq_true rfl) [2, 3, 1] (by decide) rfl rfl (sg' := [(sAO ao), (sNet cy (fun k => ao (10000 + k)) Nn), (sTal cy (fun k => ao (80000 + k)) r1.2.1), (sNet cy (fun k => ao (80000 + (200 + k))) r1.2.2)]) (st' := [.long r1.1]) rfl rfl ?_
  obtain rfl := Option.some.inj h
  exact g_lret F Rq rfl dX8_number_11
theorem hi_X8_kth_X8 : ∀ w ∈ u_ws RX8 TX8 11, w ∈ wsX8_kth := by decide +kernel
theorem fl_X8_kth_10 : Cond.fieldLink RX8 10 "ArcOrder" "net" "LArcOrder$Net;" ∈ wsX8_kth := by decide +kernel
theorem fl_X8_kth_57 : Cond.fieldLink RX8 57 "ArcOrder" "tally" "LArcOrder$Tally;" ∈ wsX8_kth := by decide +kernel
abbrev rm_X8_kth : Room := { frames := 6, cells := 0, slots := 0, locals := 155 }
set_option maxHeartbeats 4000000 in
set_option maxRecDepth 100000 in
theorem ok_X8_kth (l : Launch) (D : va_G) (cy : Nat → ClassId) (ao : Nat → Nat)  (Nn : NetS) (Ww : TalS) (Dd : NetS) (x1 : Int64) (x3 : Int32) (out : Int32 × TalS × NetS) (h : f_X8_kth Nn Ww Dd x1 x3 = some out) : OK l D cy yX8_kth wsX8_kth rm_X8_kth [.ref (ao 0), .long x1, .int x3] [(sAO ao), (sNet cy (fun k => ao (10000 + k)) Nn), (sTal cy (fun k => ao (80000 + k)) Ww), (sNet cy (fun k => ao (80000 + (200 + k))) Dd)] (some (.int out.1)) [(sAO ao), (sNet cy (fun k => ao (10000 + k)) Nn), (sTal cy (fun k => ao (80000 + k)) out.2.1), (sNet cy (fun k => ao (80000 + (200 + k))) out.2.2)] := by
  refine OKx.of (cc := cX8_kth) (maxL := 4) (ret := (some .int)) (by decide) rfl (Nat.le_of_ble_eq_true rfl) (fun G F Rq => ?_)
  show Go G 0 0 0 [(0, .ref (ao 0)), (1, .long x1), (3, .int x3)] [] [(sAO ao), (sNet cy (fun k => ao (10000 + k)) Nn), (sTal cy (fun k => ao (80000 + k)) Ww), (sNet cy (fun k => ao (80000 + (200 + k))) Dd)]
  replace F : Fx G cX8_kth wsX8_kth RX8 cy 4 (rm_X8_kth) := F
  replace Rq : Rx G "kth" (some .int) (some (.int out.1)) (fun z => z = [(sAO ao), (sNet cy (fun k => ao (10000 + k)) Nn), (sTal cy (fun k => ao (80000 + k)) out.2.1), (sNet cy (fun k => ao (80000 + (200 + k))) out.2.2)]) 0 0 := Rq
  unfold f_X8_kth at h
  refine g_aload_n F dX8_kth_0 rfl 0 rfl ?_
  refine g_get F (C := RX8) (T := TX8) (N := 11) (ci := 8) (v := .ref (ao 10000)) hi_X8_kth_X8 0 0 0 dX8_kth_1 rfl rfl (by decide) fl_X8_kth_10 rfl ?_
  refine g_iload_n F dX8_kth_4 rfl 2 rfl ?_
  obtain ⟨r1, hr1, h⟩ := bnd h
  refine g_cV F [.int x3] 0 0 (ok_X3_isItem (gl G) (gD G) cy (fun k => ao (10000 + k)) Nn x3 r1 hr1) dX8_kth_5 rfl rfl gX8_kth_X3_isItem rfl ⟨rfl, cd_X3_isItem⟩ (by decide) rfl (Nat.le_of_ble_eq_true rfl) [1] (by decide) rfl rfl (sg' := [(sAO ao), (sNet cy (fun k => ao (10000 + k)) Nn), (sTal cy (fun k => ao (80000 + k)) Ww), (sNet cy (fun k => ao (80000 + (200 + k))) Dd)]) (st' := [.int r1]) rfl rfl ?_
  refine g_if_eq F 17 h dX8_kth_8 (by decide) (fun h => ?_) (fun h => ?_)
  · refine g_iconst F (v := (-1 : Int32)) dX8_kth_17 (by decide) ?_
    obtain rfl := Option.some.inj h
    exact g_iret F Rq rfl dX8_kth_18
  · refine g_lload_n F dX8_kth_11 rfl 1 rfl ?_
    refine g_lconst F (v := (0 : Int64)) dX8_kth_12 (by decide) ?_
    refine g_lcmp F dX8_kth_13 ?_
    refine g_if_ge F 19 h dX8_kth_14 (by decide) (fun h => ?_) (fun h => ?_)
    · refine g_aload_n F dX8_kth_19 rfl 0 rfl ?_
      refine g_get F (C := RX8) (T := TX8) (N := 11) (ci := 8) (v := .ref (ao 80000)) hi_X8_kth_X8 0 0 7 dX8_kth_20 rfl rfl (by decide) fl_X8_kth_57 rfl ?_
      refine g_aload_n F dX8_kth_23 rfl 0 rfl ?_
      refine g_get F (C := RX8) (T := TX8) (N := 11) (ci := 8) (v := .ref (ao 10000)) hi_X8_kth_X8 0 0 0 dX8_kth_24 rfl rfl (by decide) fl_X8_kth_10 rfl ?_
      refine g_lload_n F dX8_kth_27 rfl 1 rfl ?_
      refine g_iload_n F dX8_kth_28 rfl 2 rfl ?_
      obtain ⟨r2, hr2, h⟩ := bnd h
      refine g_cV F [.ref (ao 10000), .long x1, .int x3] 0 0 (ok_X6_itemOf (gl G) (gD G) cy (fun k => ao (80000 + k)) (fun k => ao (10000 + k)) Ww Dd Nn x1 x3 r2 hr2) dX8_kth_29 rfl rfl gX8_kth_X6_itemOf rfl ⟨rfl, cd_X6_itemOf⟩ (by decide) rfl (Nat.le_of_ble_eq_true rfl) [2, 3, 1] (by decide) rfl rfl (sg' := [(sAO ao), (sNet cy (fun k => ao (10000 + k)) Nn), (sTal cy (fun k => ao (80000 + k)) r2.2.1), (sNet cy (fun k => ao (80000 + (200 + k))) r2.2.2)]) (st' := [.int r2.1]) rfl rfl ?_
      obtain rfl := Option.some.inj h
      exact g_iret F Rq rfl dX8_kth_32
    · refine g_iconst F (v := (-1 : Int32)) dX8_kth_17 (by decide) ?_
      obtain rfl := Option.some.inj h
      exact g_iret F Rq rfl dX8_kth_18
theorem hi_X8_days_X8 : ∀ w ∈ u_ws RX8 TX8 11, w ∈ wsX8_days := by decide +kernel
theorem fl_X8_days_64 : Cond.fieldLink RX8 64 "ArcOrder" "calendar" "LArcOrder$Calendar;" ∈ wsX8_days := by decide +kernel
theorem fl_X8_days_10 : Cond.fieldLink RX8 10 "ArcOrder" "net" "LArcOrder$Net;" ∈ wsX8_days := by decide +kernel
abbrev rm_X8_days : Room := { frames := 9, cells := 0, slots := 0, locals := 472 }
set_option maxHeartbeats 4000000 in
set_option maxRecDepth 100000 in
theorem ok_X8_days (l : Launch) (D : va_G) (cy : Nat → ClassId) (ao : Nat → Nat)  (Nn : NetS) (Cc : CalS) (x1 : Int32) (out : Int32 × CalS) (h : f_X8_days Nn Cc x1 = some out) : OK l D cy yX8_days wsX8_days rm_X8_days [.ref (ao 0), .int x1] [(sAO ao), (sNet cy (fun k => ao (10000 + k)) Nn), (sCal cy (fun k => ao (90000 + k)) Cc)] (some (.int out.1)) [(sAO ao), (sNet cy (fun k => ao (10000 + k)) Nn), (sCal cy (fun k => ao (90000 + k)) out.2)] := by
  refine OKx.of (cc := cX8_days) (maxL := 2) (ret := (some .int)) (by decide) rfl (Nat.le_of_ble_eq_true rfl) (fun G F Rq => ?_)
  show Go G 0 0 0 [(0, .ref (ao 0)), (1, .int x1)] [] [(sAO ao), (sNet cy (fun k => ao (10000 + k)) Nn), (sCal cy (fun k => ao (90000 + k)) Cc)]
  replace F : Fx G cX8_days wsX8_days RX8 cy 2 (rm_X8_days) := F
  replace Rq : Rx G "days" (some .int) (some (.int out.1)) (fun z => z = [(sAO ao), (sNet cy (fun k => ao (10000 + k)) Nn), (sCal cy (fun k => ao (90000 + k)) out.2)]) 0 0 := Rq
  unfold f_X8_days at h
  refine g_iload_n F dX8_days_0 rfl 1 rfl ?_
  refine g_iconst F (v := (1 : Int32)) dX8_days_1 (by decide) ?_
  refine g_icmp_lt F 10 h dX8_days_2 (by decide) (fun h => ?_) (fun h => ?_)
  · refine g_iconst F (v := (-1 : Int32)) dX8_days_10 (by decide) ?_
    obtain rfl := Option.some.inj h
    exact g_iret F Rq rfl dX8_days_11
  · refine g_iload_n F dX8_days_5 rfl 1 rfl ?_
    refine g_iconst F (v := (3 : Int32)) dX8_days_6 (by decide) ?_
    refine g_icmp_le F 12 h dX8_days_7 (by decide) (fun h => ?_) (fun h => ?_)
    · refine g_aload_n F dX8_days_12 rfl 0 rfl ?_
      refine g_get F (C := RX8) (T := TX8) (N := 11) (ci := 8) (v := .ref (ao 90000)) hi_X8_days_X8 0 0 8 dX8_days_13 rfl rfl (by decide) fl_X8_days_64 rfl ?_
      refine g_aload_n F dX8_days_16 rfl 0 rfl ?_
      refine g_get F (C := RX8) (T := TX8) (N := 11) (ci := 8) (v := .ref (ao 10000)) hi_X8_days_X8 0 0 0 dX8_days_17 rfl rfl (by decide) fl_X8_days_10 rfl ?_
      refine g_iload_n F dX8_days_20 rfl 1 rfl ?_
      obtain ⟨r1, hr1, h⟩ := bnd h
      refine g_cV F [.ref (ao 10000), .int x1] 0 0 (ok_X1_fewestDays (gl G) (gD G) cy (fun k => ao (90000 + k)) (fun k => ao (10000 + k)) Cc Nn x1 r1 hr1) dX8_days_21 rfl rfl gX8_days_X1_fewestDays rfl ⟨rfl, cd_X1_fewestDays⟩ (by decide) rfl (Nat.le_of_ble_eq_true rfl) [2, 1] (by decide) rfl rfl (sg' := [(sAO ao), (sNet cy (fun k => ao (10000 + k)) Nn), (sCal cy (fun k => ao (90000 + k)) r1.2)]) (st' := [.int r1.1]) rfl rfl ?_
      obtain rfl := Option.some.inj h
      exact g_iret F Rq rfl dX8_days_24
    · refine g_iconst F (v := (-1 : Int32)) dX8_days_10 (by decide) ?_
      obtain rfl := Option.some.inj h
      exact g_iret F Rq rfl dX8_days_11
theorem hi_X8_sees_X8 : ∀ w ∈ u_ws RX8 TX8 11, w ∈ wsX8_sees := by decide +kernel
theorem fl_X8_sees_10 : Cond.fieldLink RX8 10 "ArcOrder" "net" "LArcOrder$Net;" ∈ wsX8_sees := by decide +kernel
theorem fl_X8_sees_50 : Cond.fieldLink RX8 50 "ArcOrder" "sight" "LArcOrder$Sight;" ∈ wsX8_sees := by decide +kernel
theorem hi_X8_sees_X5 : ∀ w ∈ u_ws RX5 TX5 6, w ∈ wsX8_sees := by decide +kernel
theorem fl_X8_sees_221 : Cond.fieldLink RX8 221 "ArcOrder$Sight" "size" "I" ∈ wsX8_sees := by decide +kernel
abbrev rm_X8_sees : Room := { frames := 1, cells := 0, slots := 0, locals := 22 }
set_option maxHeartbeats 4000000 in
set_option maxRecDepth 100000 in
theorem ok_X8_sees (l : Launch) (D : va_G) (cy : Nat → ClassId) (ao : Nat → Nat)  (Nn : NetS) (Ss : SgtS) (x1 : Int32) (x2 : Int32) (out : Int32 × SgtS) (h : f_X8_sees Nn Ss x1 x2 = some out) : OK l D cy yX8_sees wsX8_sees rm_X8_sees [.ref (ao 0), .int x1, .int x2] [(sAO ao), (sNet cy (fun k => ao (10000 + k)) Nn), (sSgt cy (fun k => ao (70000 + k)) Ss)] (some (.int out.1)) [(sAO ao), (sNet cy (fun k => ao (10000 + k)) Nn), (sSgt cy (fun k => ao (70000 + k)) out.2)] := by
  refine OKx.of (cc := cX8_sees) (maxL := 3) (ret := (some .int)) (by decide) rfl (Nat.le_of_ble_eq_true rfl) (fun G F Rq => ?_)
  show Go G 0 0 0 [(0, .ref (ao 0)), (1, .int x1), (2, .int x2)] [] [(sAO ao), (sNet cy (fun k => ao (10000 + k)) Nn), (sSgt cy (fun k => ao (70000 + k)) Ss)]
  replace F : Fx G cX8_sees wsX8_sees RX8 cy 3 (rm_X8_sees) := F
  replace Rq : Rx G "sees" (some .int) (some (.int out.1)) (fun z => z = [(sAO ao), (sNet cy (fun k => ao (10000 + k)) Nn), (sSgt cy (fun k => ao (70000 + k)) out.2)]) 0 0 := Rq
  unfold f_X8_sees at h
  refine g_aload_n F dX8_sees_0 rfl 0 rfl ?_
  refine g_get F (C := RX8) (T := TX8) (N := 11) (ci := 8) (v := .ref (ao 10000)) hi_X8_sees_X8 0 0 0 dX8_sees_1 rfl rfl (by decide) fl_X8_sees_10 rfl ?_
  refine g_iload_n F dX8_sees_4 rfl 1 rfl ?_
  obtain ⟨r1, hr1, h⟩ := bnd h
  refine g_cV F [.int x1] 0 0 (ok_X3_isItem (gl G) (gD G) cy (fun k => ao (10000 + k)) Nn x1 r1 hr1) dX8_sees_5 rfl rfl gX8_sees_X3_isItem rfl ⟨rfl, cd_X3_isItem⟩ (by decide) rfl (Nat.le_of_ble_eq_true rfl) [1] (by decide) rfl rfl (sg' := [(sAO ao), (sNet cy (fun k => ao (10000 + k)) Nn), (sSgt cy (fun k => ao (70000 + k)) Ss)]) (st' := [.int r1]) rfl rfl ?_
  refine g_if_eq F 20 h dX8_sees_8 (by decide) (fun h => ?_) (fun h => ?_)
  · refine g_iconst F (v := (-1 : Int32)) dX8_sees_20 (by decide) ?_
    obtain rfl := Option.some.inj h
    exact g_iret F Rq rfl dX8_sees_21
  · refine g_iload_n F dX8_sees_11 rfl 2 rfl ?_
    refine g_if_lt F 20 h dX8_sees_12 (by decide) (fun h => ?_) (fun h => ?_)
    · refine g_iconst F (v := (-1 : Int32)) dX8_sees_20 (by decide) ?_
      obtain rfl := Option.some.inj h
      exact g_iret F Rq rfl dX8_sees_21
    · refine g_iload_n F dX8_sees_15 rfl 2 rfl ?_
      refine g_iconst F (v := (1 : Int32)) dX8_sees_16 (by decide) ?_
      refine g_icmp_le F 22 h dX8_sees_17 (by decide) (fun h => ?_) (fun h => ?_)
      · refine g_aload_n F dX8_sees_22 rfl 0 rfl ?_
        refine g_get F (C := RX8) (T := TX8) (N := 11) (ci := 8) (v := .ref (ao 70000)) hi_X8_sees_X8 0 0 6 dX8_sees_23 rfl rfl (by decide) fl_X8_sees_50 rfl ?_
        refine g_iload_n F dX8_sees_26 rfl 1 rfl ?_
        refine g_iload_n F dX8_sees_27 rfl 2 rfl ?_
        obtain ⟨r2, hr2, h⟩ := bnd h
        refine g_cV F [.int x1, .int x2] 0 0 (ok_X5_append (gl G) (gD G) cy (fun k => ao (70000 + k)) Ss x1 x2 r2 hr2) dX8_sees_28 rfl rfl gX8_sees_X5_append rfl ⟨rfl, cd_X5_append⟩ (by decide) rfl (Nat.le_of_ble_eq_true rfl) [2] (by decide) rfl rfl (sg' := [(sAO ao), (sNet cy (fun k => ao (10000 + k)) Nn), (sSgt cy (fun k => ao (70000 + k)) r2.2)]) (st' := [.int r2.1]) rfl rfl ?_
        refine g_if_eq F 44 h dX8_sees_31 (by decide) (fun h => ?_) (fun h => ?_)
        · refine g_bipush F (v := (-3 : Int32)) dX8_sees_44 (by decide) ?_
          obtain rfl := Option.some.inj h
          exact g_iret F Rq rfl dX8_sees_46
        · refine g_aload_n F dX8_sees_34 rfl 0 rfl ?_
          refine g_get F (C := RX8) (T := TX8) (N := 11) (ci := 8) (v := .ref (ao 70000)) hi_X8_sees_X8 0 0 6 dX8_sees_35 rfl rfl (by decide) fl_X8_sees_50 rfl ?_
          refine g_get F (C := RX5) (T := TX5) (N := 6) (ci := 5) (v := .int (r2.2.1 0)) hi_X8_sees_X5 2 0 0 dX8_sees_38 rfl rfl (by decide) fl_X8_sees_221 rfl ?_
          refine g_goto F 46 dX8_sees_41 (by decide) ?_
          obtain rfl := Option.some.inj h
          exact g_iret F Rq rfl dX8_sees_46
      · refine g_iconst F (v := (-1 : Int32)) dX8_sees_20 (by decide) ?_
        obtain rfl := Option.some.inj h
        exact g_iret F Rq rfl dX8_sees_21
theorem hi_X8_forget_X8 : ∀ w ∈ u_ws RX8 TX8 11, w ∈ wsX8_forget := by decide +kernel
theorem fl_X8_forget_50 : Cond.fieldLink RX8 50 "ArcOrder" "sight" "LArcOrder$Sight;" ∈ wsX8_forget := by decide +kernel
theorem hi_X8_forget_X5 : ∀ w ∈ u_ws RX5 TX5 6, w ∈ wsX8_forget := by decide +kernel
theorem fl_X8_forget_221 : Cond.fieldLink RX8 221 "ArcOrder$Sight" "size" "I" ∈ wsX8_forget := by decide +kernel
abbrev rm_X8_forget : Room := { frames := 1, cells := 0, slots := 0, locals := 20 }
set_option maxHeartbeats 4000000 in
set_option maxRecDepth 100000 in
theorem ok_X8_forget (l : Launch) (D : va_G) (cy : Nat → ClassId) (ao : Nat → Nat)  (Ss : SgtS)  (out : Int32 × SgtS) (h : f_X8_forget Ss = some out) : OK l D cy yX8_forget wsX8_forget rm_X8_forget [.ref (ao 0)] [(sAO ao), (sSgt cy (fun k => ao (70000 + k)) Ss)] (some (.int out.1)) [(sAO ao), (sSgt cy (fun k => ao (70000 + k)) out.2)] := by
  refine OKx.of (cc := cX8_forget) (maxL := 2) (ret := (some .int)) (by decide) rfl (Nat.le_of_ble_eq_true rfl) (fun G F Rq => ?_)
  show Go G 0 0 0 [(0, .ref (ao 0))] [] [(sAO ao), (sSgt cy (fun k => ao (70000 + k)) Ss)]
  replace F : Fx G cX8_forget wsX8_forget RX8 cy 2 (rm_X8_forget) := F
  replace Rq : Rx G "forget" (some .int) (some (.int out.1)) (fun z => z = [(sAO ao), (sSgt cy (fun k => ao (70000 + k)) out.2)]) 0 0 := Rq
  unfold f_X8_forget at h
  refine g_aload_n F dX8_forget_0 rfl 0 rfl ?_
  refine g_get F (C := RX8) (T := TX8) (N := 11) (ci := 8) (v := .ref (ao 70000)) hi_X8_forget_X8 0 0 6 dX8_forget_1 rfl rfl (by decide) fl_X8_forget_50 rfl ?_
  refine g_get F (C := RX5) (T := TX5) (N := 6) (ci := 5) (v := .int (Ss.1 0)) hi_X8_forget_X5 1 0 0 dX8_forget_4 rfl rfl (by decide) fl_X8_forget_221 rfl ?_
  refine g_istore_n F (lv' := [(1, .int (Ss.1 0)), (0, .ref (ao 0))]) dX8_forget_7 rfl (by decide) rfl ?_
  refine g_aload_n F dX8_forget_8 rfl 1 rfl ?_
  refine g_get F (C := RX8) (T := TX8) (N := 11) (ci := 8) (v := .ref (ao 70000)) hi_X8_forget_X8 0 0 6 dX8_forget_9 rfl rfl (by decide) fl_X8_forget_50 rfl ?_
  obtain ⟨r1, hr1, h⟩ := bnd h
  refine g_cV F [] 0 0 (ok_X5_empty (gl G) (gD G) cy (fun k => ao (70000 + k)) Ss r1 hr1) dX8_forget_12 rfl rfl gX8_forget_X5_empty rfl ⟨rfl, cd_X5_empty⟩ (by decide) rfl (Nat.le_of_ble_eq_true rfl) [1] (by decide) rfl rfl (sg' := [(sAO ao), (sSgt cy (fun k => ao (70000 + k)) r1)]) (st' := []) rfl rfl ?_
  refine g_iload_n F dX8_forget_15 rfl 0 rfl ?_
  obtain rfl := Option.some.inj h
  exact g_iret F Rq rfl dX8_forget_16
theorem hi_X8_unseen_X8 : ∀ w ∈ u_ws RX8 TX8 11, w ∈ wsX8_unseen := by decide +kernel
theorem fl_X8_unseen_50 : Cond.fieldLink RX8 50 "ArcOrder" "sight" "LArcOrder$Sight;" ∈ wsX8_unseen := by decide +kernel
theorem fl_X8_unseen_10 : Cond.fieldLink RX8 10 "ArcOrder" "net" "LArcOrder$Net;" ∈ wsX8_unseen := by decide +kernel
theorem hi_X8_unseen_X5 : ∀ w ∈ u_ws RX5 TX5 6, w ∈ wsX8_unseen := by decide +kernel
theorem fl_X8_unseen_228 : Cond.fieldLink RX8 228 "ArcOrder$Sight" "first" "I" ∈ wsX8_unseen := by decide +kernel
theorem fl_X8_unseen_225 : Cond.fieldLink RX8 225 "ArcOrder$Sight" "fitting" "I" ∈ wsX8_unseen := by decide +kernel
abbrev rm_X8_unseen : Room := { frames := 4, cells := 0, slots := 0, locals := 92 }
set_option maxHeartbeats 4000000 in
set_option maxRecDepth 100000 in
theorem ok_X8_unseen (l : Launch) (D : va_G) (cy : Nat → ClassId) (ao : Nat → Nat)  (Nn : NetS) (Ss : SgtS) (x1 : Int32) (out : Int32 × SgtS) (h : f_X8_unseen Nn Ss x1 = some out) : OK l D cy yX8_unseen wsX8_unseen rm_X8_unseen [.ref (ao 0), .int x1] [(sAO ao), (sNet cy (fun k => ao (10000 + k)) Nn), (sSgt cy (fun k => ao (70000 + k)) Ss)] (some (.int out.1)) [(sAO ao), (sNet cy (fun k => ao (10000 + k)) Nn), (sSgt cy (fun k => ao (70000 + k)) out.2)] := by
  refine OKx.of (cc := cX8_unseen) (maxL := 2) (ret := (some .int)) (by decide) rfl (Nat.le_of_ble_eq_true rfl) (fun G F Rq => ?_)
  show Go G 0 0 0 [(0, .ref (ao 0)), (1, .int x1)] [] [(sAO ao), (sNet cy (fun k => ao (10000 + k)) Nn), (sSgt cy (fun k => ao (70000 + k)) Ss)]
  replace F : Fx G cX8_unseen wsX8_unseen RX8 cy 2 (rm_X8_unseen) := F
  replace Rq : Rx G "unseen" (some .int) (some (.int out.1)) (fun z => z = [(sAO ao), (sNet cy (fun k => ao (10000 + k)) Nn), (sSgt cy (fun k => ao (70000 + k)) out.2)]) 0 0 := Rq
  unfold f_X8_unseen at h
  refine g_iload_n F dX8_unseen_0 rfl 1 rfl ?_
  refine g_if_lt F 9 h dX8_unseen_1 (by decide) (fun h => ?_) (fun h => ?_)
  · refine g_iconst F (v := (-1 : Int32)) dX8_unseen_9 (by decide) ?_
    obtain rfl := Option.some.inj h
    exact g_iret F Rq rfl dX8_unseen_10
  · refine g_iload_n F dX8_unseen_4 rfl 1 rfl ?_
    refine g_iconst F (v := (1 : Int32)) dX8_unseen_5 (by decide) ?_
    refine g_icmp_le F 11 h dX8_unseen_6 (by decide) (fun h => ?_) (fun h => ?_)
    · refine g_aload_n F dX8_unseen_11 rfl 0 rfl ?_
      refine g_get F (C := RX8) (T := TX8) (N := 11) (ci := 8) (v := .ref (ao 70000)) hi_X8_unseen_X8 0 0 6 dX8_unseen_12 rfl rfl (by decide) fl_X8_unseen_50 rfl ?_
      refine g_aload_n F dX8_unseen_15 rfl 0 rfl ?_
      refine g_get F (C := RX8) (T := TX8) (N := 11) (ci := 8) (v := .ref (ao 10000)) hi_X8_unseen_X8 0 0 0 dX8_unseen_16 rfl rfl (by decide) fl_X8_unseen_10 rfl ?_
      obtain ⟨r1, hr1, h⟩ := bnd h
      refine g_cV F [.ref (ao 10000)] 0 0 (ok_X5_weigh (gl G) (gD G) cy (fun k => ao (70000 + k)) (fun k => ao (10000 + k)) Ss Nn r1 hr1) dX8_unseen_19 rfl rfl gX8_unseen_X5_weigh rfl ⟨rfl, cd_X5_weigh⟩ (by decide) rfl (Nat.le_of_ble_eq_true rfl) [2, 1] (by decide) rfl rfl (sg' := [(sAO ao), (sNet cy (fun k => ao (10000 + k)) Nn), (sSgt cy (fun k => ao (70000 + k)) r1)]) (st' := []) rfl rfl ?_
      refine g_iload_n F dX8_unseen_22 rfl 1 rfl ?_
      refine g_if_ne F 36 h dX8_unseen_23 (by decide) (fun h => ?_) (fun h => ?_)
      · refine g_aload_n F dX8_unseen_36 rfl 0 rfl ?_
        refine g_get F (C := RX8) (T := TX8) (N := 11) (ci := 8) (v := .ref (ao 70000)) hi_X8_unseen_X8 0 0 6 dX8_unseen_37 rfl rfl (by decide) fl_X8_unseen_50 rfl ?_
        refine g_get F (C := RX5) (T := TX5) (N := 6) (ci := 5) (v := .int (r1.1 2)) hi_X8_unseen_X5 2 0 2 dX8_unseen_40 rfl rfl (by decide) fl_X8_unseen_228 rfl ?_
        obtain rfl := Option.some.inj h
        exact g_iret F Rq rfl dX8_unseen_43
      · refine g_aload_n F dX8_unseen_26 rfl 0 rfl ?_
        refine g_get F (C := RX8) (T := TX8) (N := 11) (ci := 8) (v := .ref (ao 70000)) hi_X8_unseen_X8 0 0 6 dX8_unseen_27 rfl rfl (by decide) fl_X8_unseen_50 rfl ?_
        refine g_get F (C := RX5) (T := TX5) (N := 6) (ci := 5) (v := .int (r1.1 1)) hi_X8_unseen_X5 2 0 1 dX8_unseen_30 rfl rfl (by decide) fl_X8_unseen_225 rfl ?_
        refine g_goto F 43 dX8_unseen_33 (by decide) ?_
        obtain rfl := Option.some.inj h
        exact g_iret F Rq rfl dX8_unseen_43
    · refine g_iconst F (v := (-1 : Int32)) dX8_unseen_9 (by decide) ?_
      obtain rfl := Option.some.inj h
      exact g_iret F Rq rfl dX8_unseen_10
theorem hi_X8_look_X8 : ∀ w ∈ u_ws RX8 TX8 11, w ∈ wsX8_look := by decide +kernel
theorem fl_X8_look_50 : Cond.fieldLink RX8 50 "ArcOrder" "sight" "LArcOrder$Sight;" ∈ wsX8_look := by decide +kernel
theorem fl_X8_look_10 : Cond.fieldLink RX8 10 "ArcOrder" "net" "LArcOrder$Net;" ∈ wsX8_look := by decide +kernel
abbrev rm_X8_look : Room := { frames := 4, cells := 0, slots := 0, locals := 92 }
set_option maxHeartbeats 4000000 in
set_option maxRecDepth 100000 in
theorem ok_X8_look (l : Launch) (D : va_G) (cy : Nat → ClassId) (ao : Nat → Nat)  (Nn : NetS) (Ss : SgtS)  (out : Int32 × SgtS) (h : f_X8_look Nn Ss = some out) : OK l D cy yX8_look wsX8_look rm_X8_look [.ref (ao 0)] [(sAO ao), (sNet cy (fun k => ao (10000 + k)) Nn), (sSgt cy (fun k => ao (70000 + k)) Ss)] (some (.int out.1)) [(sAO ao), (sNet cy (fun k => ao (10000 + k)) Nn), (sSgt cy (fun k => ao (70000 + k)) out.2)] := by
  refine OKx.of (cc := cX8_look) (maxL := 1) (ret := (some .int)) (by decide) rfl (Nat.le_of_ble_eq_true rfl) (fun G F Rq => ?_)
  show Go G 0 0 0 [(0, .ref (ao 0))] [] [(sAO ao), (sNet cy (fun k => ao (10000 + k)) Nn), (sSgt cy (fun k => ao (70000 + k)) Ss)]
  replace F : Fx G cX8_look wsX8_look RX8 cy 1 (rm_X8_look) := F
  replace Rq : Rx G "look" (some .int) (some (.int out.1)) (fun z => z = [(sAO ao), (sNet cy (fun k => ao (10000 + k)) Nn), (sSgt cy (fun k => ao (70000 + k)) out.2)]) 0 0 := Rq
  unfold f_X8_look at h
  refine g_aload_n F dX8_look_0 rfl 0 rfl ?_
  refine g_get F (C := RX8) (T := TX8) (N := 11) (ci := 8) (v := .ref (ao 70000)) hi_X8_look_X8 0 0 6 dX8_look_1 rfl rfl (by decide) fl_X8_look_50 rfl ?_
  refine g_aload_n F dX8_look_4 rfl 0 rfl ?_
  refine g_get F (C := RX8) (T := TX8) (N := 11) (ci := 8) (v := .ref (ao 10000)) hi_X8_look_X8 0 0 0 dX8_look_5 rfl rfl (by decide) fl_X8_look_10 rfl ?_
  obtain ⟨r1, hr1, h⟩ := bnd h
  refine g_cV F [.ref (ao 10000)] 0 0 (ok_X5_weigh (gl G) (gD G) cy (fun k => ao (70000 + k)) (fun k => ao (10000 + k)) Ss Nn r1 hr1) dX8_look_8 rfl rfl gX8_look_X5_weigh rfl ⟨rfl, cd_X5_weigh⟩ (by decide) rfl (Nat.le_of_ble_eq_true rfl) [2, 1] (by decide) rfl rfl (sg' := [(sAO ao), (sNet cy (fun k => ao (10000 + k)) Nn), (sSgt cy (fun k => ao (70000 + k)) r1)]) (st' := []) rfl rfl ?_
  refine g_aload_n F dX8_look_11 rfl 0 rfl ?_
  refine g_get F (C := RX8) (T := TX8) (N := 11) (ci := 8) (v := .ref (ao 70000)) hi_X8_look_X8 0 0 6 dX8_look_12 rfl rfl (by decide) fl_X8_look_50 rfl ?_
  refine g_aload_n F dX8_look_15 rfl 0 rfl ?_
  refine g_get F (C := RX8) (T := TX8) (N := 11) (ci := 8) (v := .ref (ao 10000)) hi_X8_look_X8 0 0 0 dX8_look_16 rfl rfl (by decide) fl_X8_look_10 rfl ?_
  obtain ⟨r2, hr2, h⟩ := bnd h
  refine g_cV F [.ref (ao 10000)] 0 0 (ok_X5_bestItem (gl G) (gD G) cy (fun k => ao (70000 + k)) (fun k => ao (10000 + k)) r1 Nn r2 hr2) dX8_look_19 rfl rfl gX8_look_X5_bestItem rfl ⟨rfl, cd_X5_bestItem⟩ (by decide) rfl (Nat.le_of_ble_eq_true rfl) [2, 1] (by decide) rfl rfl (sg' := [(sAO ao), (sNet cy (fun k => ao (10000 + k)) Nn), (sSgt cy (fun k => ao (70000 + k)) r1)]) (st' := [.int r2]) rfl rfl ?_
  obtain rfl := Option.some.inj h
  exact g_iret F Rq rfl dX8_look_22
theorem hi_X8_keep_X8 : ∀ w ∈ u_ws RX8 TX8 11, w ∈ wsX8_keep := by decide +kernel
theorem fl_X8_keep_68 : Cond.fieldLink RX8 68 "ArcOrder" "images" "[LArcOrder$Net;" ∈ wsX8_keep := by decide +kernel
theorem fl_X8_keep_10 : Cond.fieldLink RX8 10 "ArcOrder" "net" "LArcOrder$Net;" ∈ wsX8_keep := by decide +kernel
theorem fl_X8_keep_72 : Cond.fieldLink RX8 72 "ArcOrder" "imageKept" "[Z" ∈ wsX8_keep := by decide +kernel
theorem hi_X8_keep_X3 : ∀ w ∈ u_ws RX3 TX3 7, w ∈ wsX8_keep := by decide +kernel
theorem fl_X8_keep_130 : Cond.fieldLink RX8 130 "ArcOrder$Net" "arcs" "I" ∈ wsX8_keep := by decide +kernel
abbrev rm_X8_keep : Room := { frames := 2, cells := 0, slots := 0, locals := 81 }
set_option maxHeartbeats 4000000 in
set_option maxRecDepth 100000 in
theorem ok_X8_keep (l : Launch) (D : va_G) (cy : Nat → ClassId) (ao : Nat → Nat)  (Nn : NetS) (o_img0 : NetS) (o_img1 : NetS) (o_kept : (Nat → Int32)) (x1 : Int32) (out : Int32 × NetS × NetS × (Nat → Int32)) (h : f_X8_keep Nn o_img0 o_img1 o_kept x1 = some out) : OK l D cy yX8_keep wsX8_keep rm_X8_keep [.ref (ao 0), .int x1] [(sAO ao), (sNet cy (fun k => ao (10000 + k)) Nn), (sImg cy ao), (sNet cy (fun k => ao (100000 + k)) o_img0), (sNet cy (fun k => ao (100100 + k)) o_img1), (sZ cy (ao 11) 2 o_kept)] (some (.int out.1)) [(sAO ao), (sNet cy (fun k => ao (10000 + k)) Nn), (sImg cy ao), (sNet cy (fun k => ao (100000 + k)) out.2.1), (sNet cy (fun k => ao (100100 + k)) out.2.2.1), (sZ cy (ao 11) 2 out.2.2.2)] := by
  refine OKx.of (cc := cX8_keep) (maxL := 2) (ret := (some .int)) (by decide) rfl (Nat.le_of_ble_eq_true rfl) (fun G F Rq => ?_)
  show Go G 0 0 0 [(0, .ref (ao 0)), (1, .int x1)] [] [(sAO ao), (sNet cy (fun k => ao (10000 + k)) Nn), (sImg cy ao), (sNet cy (fun k => ao (100000 + k)) o_img0), (sNet cy (fun k => ao (100100 + k)) o_img1), (sZ cy (ao 11) 2 o_kept)]
  replace F : Fx G cX8_keep wsX8_keep RX8 cy 2 (rm_X8_keep) := F
  replace Rq : Rx G "keep" (some .int) (some (.int out.1)) (fun z => z = [(sAO ao), (sNet cy (fun k => ao (10000 + k)) Nn), (sImg cy ao), (sNet cy (fun k => ao (100000 + k)) out.2.1), (sNet cy (fun k => ao (100100 + k)) out.2.2.1), (sZ cy (ao 11) 2 out.2.2.2)]) 0 0 := Rq
  unfold f_X8_keep at h
  refine g_iload_n F dX8_keep_0 rfl 1 rfl ?_
  refine g_if_lt F 9 h dX8_keep_1 (by decide) (fun h => ?_) (fun h => ?_)
  · refine g_iconst F (v := (-1 : Int32)) dX8_keep_9 (by decide) ?_
    obtain rfl := Option.some.inj h
    exact g_iret F Rq rfl dX8_keep_10
  · refine g_iload_n F dX8_keep_4 rfl 1 rfl ?_
    refine g_iconst F (v := (2 : Int32)) dX8_keep_5 (by decide) ?_
    refine g_icmp_lt F 11 h dX8_keep_6 (by decide) (fun h => ?_) (fun h => ?_)
    · refine g_aload_n F dX8_keep_11 rfl 0 rfl ?_
      refine g_get F (C := RX8) (T := TX8) (N := 11) (ci := 8) (v := .ref (ao 10)) hi_X8_keep_X8 0 0 9 dX8_keep_12 rfl rfl (by decide) fl_X8_keep_68 rfl ?_
      refine g_iload_n F dX8_keep_15 rfl 1 rfl ?_
      refine g_img F h 2 dX8_keep_16 rfl (fun h => ?_) (fun h => ?_)
      · refine g_aload_n F dX8_keep_17 rfl 0 rfl ?_
        refine g_get F (C := RX8) (T := TX8) (N := 11) (ci := 8) (v := .ref (ao 10000)) hi_X8_keep_X8 0 0 0 dX8_keep_18 rfl rfl (by decide) fl_X8_keep_10 rfl ?_
        obtain ⟨r1, hr1, h⟩ := bnd h
        refine g_cV F [.ref (ao 10000)] 0 0 (ok_X3_copyOf (gl G) (gD G) cy (fun k => ao (100000 + k)) (fun k => ao (10000 + k)) o_img0 Nn r1 hr1) dX8_keep_21 rfl rfl gX8_keep_X3_copyOf rfl ⟨rfl, cd_X3_copyOf⟩ (by decide) rfl (Nat.le_of_ble_eq_true rfl) [3, 1] (by decide) rfl rfl (sg' := [(sAO ao), (sNet cy (fun k => ao (10000 + k)) Nn), (sImg cy ao), (sNet cy (fun k => ao (100000 + k)) r1), (sNet cy (fun k => ao (100100 + k)) o_img1), (sZ cy (ao 11) 2 o_kept)]) (st' := []) rfl rfl ?_
        refine g_aload_n F dX8_keep_24 rfl 0 rfl ?_
        refine g_get F (C := RX8) (T := TX8) (N := 11) (ci := 8) (v := .ref (ao 11)) hi_X8_keep_X8 0 0 10 dX8_keep_25 rfl rfl (by decide) fl_X8_keep_72 rfl ?_
        refine g_iload_n F dX8_keep_28 rfl 1 rfl ?_
        refine g_iconst F (v := (1 : Int32)) dX8_keep_29 (by decide) ?_
        refine g_zastore F h (sg' := [(sAO ao), (sNet cy (fun k => ao (10000 + k)) Nn), (sImg cy ao), (sNet cy (fun k => ao (100000 + k)) r1), (sNet cy (fun k => ao (100100 + k)) o_img1), (sZ cy (ao 11) 2 (upd o_kept (x1).toNatClampNeg (vp_nar .boolean (1 : Int32))))]) 5 0 dX8_keep_30 rfl rfl (fun h => ?_)
        refine g_aload_n F dX8_keep_31 rfl 0 rfl ?_
        refine g_get F (C := RX8) (T := TX8) (N := 11) (ci := 8) (v := .ref (ao 10000)) hi_X8_keep_X8 0 0 0 dX8_keep_32 rfl rfl (by decide) fl_X8_keep_10 rfl ?_
        refine g_get F (C := RX3) (T := TX3) (N := 7) (ci := 3) (v := .int Nn.2.1) hi_X8_keep_X3 1 0 1 dX8_keep_35 rfl rfl (by decide) fl_X8_keep_130 rfl ?_
        obtain rfl := Option.some.inj h
        exact g_iret F Rq rfl dX8_keep_38
      · refine g_aload_n F dX8_keep_17 rfl 0 rfl ?_
        refine g_get F (C := RX8) (T := TX8) (N := 11) (ci := 8) (v := .ref (ao 10000)) hi_X8_keep_X8 0 0 0 dX8_keep_18 rfl rfl (by decide) fl_X8_keep_10 rfl ?_
        obtain ⟨r2, hr2, h⟩ := bnd h
        refine g_cV F [.ref (ao 10000)] 0 0 (ok_X3_copyOf (gl G) (gD G) cy (fun k => ao (100100 + k)) (fun k => ao (10000 + k)) o_img1 Nn r2 hr2) dX8_keep_21 rfl rfl gX8_keep_X3_copyOf rfl ⟨rfl, cd_X3_copyOf⟩ (by decide) rfl (Nat.le_of_ble_eq_true rfl) [4, 1] (by decide) rfl rfl (sg' := [(sAO ao), (sNet cy (fun k => ao (10000 + k)) Nn), (sImg cy ao), (sNet cy (fun k => ao (100000 + k)) o_img0), (sNet cy (fun k => ao (100100 + k)) r2), (sZ cy (ao 11) 2 o_kept)]) (st' := []) rfl rfl ?_
        refine g_aload_n F dX8_keep_24 rfl 0 rfl ?_
        refine g_get F (C := RX8) (T := TX8) (N := 11) (ci := 8) (v := .ref (ao 11)) hi_X8_keep_X8 0 0 10 dX8_keep_25 rfl rfl (by decide) fl_X8_keep_72 rfl ?_
        refine g_iload_n F dX8_keep_28 rfl 1 rfl ?_
        refine g_iconst F (v := (1 : Int32)) dX8_keep_29 (by decide) ?_
        refine g_zastore F h (sg' := [(sAO ao), (sNet cy (fun k => ao (10000 + k)) Nn), (sImg cy ao), (sNet cy (fun k => ao (100000 + k)) o_img0), (sNet cy (fun k => ao (100100 + k)) r2), (sZ cy (ao 11) 2 (upd o_kept (x1).toNatClampNeg (vp_nar .boolean (1 : Int32))))]) 5 0 dX8_keep_30 rfl rfl (fun h => ?_)
        refine g_aload_n F dX8_keep_31 rfl 0 rfl ?_
        refine g_get F (C := RX8) (T := TX8) (N := 11) (ci := 8) (v := .ref (ao 10000)) hi_X8_keep_X8 0 0 0 dX8_keep_32 rfl rfl (by decide) fl_X8_keep_10 rfl ?_
        refine g_get F (C := RX3) (T := TX3) (N := 7) (ci := 3) (v := .int Nn.2.1) hi_X8_keep_X3 1 0 1 dX8_keep_35 rfl rfl (by decide) fl_X8_keep_130 rfl ?_
        obtain rfl := Option.some.inj h
        exact g_iret F Rq rfl dX8_keep_38
    · refine g_iconst F (v := (-1 : Int32)) dX8_keep_9 (by decide) ?_
      obtain rfl := Option.some.inj h
      exact g_iret F Rq rfl dX8_keep_10
theorem hi_X8_back_X8 : ∀ w ∈ u_ws RX8 TX8 11, w ∈ wsX8_back := by decide +kernel
theorem fl_X8_back_72 : Cond.fieldLink RX8 72 "ArcOrder" "imageKept" "[Z" ∈ wsX8_back := by decide +kernel
theorem fl_X8_back_10 : Cond.fieldLink RX8 10 "ArcOrder" "net" "LArcOrder$Net;" ∈ wsX8_back := by decide +kernel
theorem fl_X8_back_68 : Cond.fieldLink RX8 68 "ArcOrder" "images" "[LArcOrder$Net;" ∈ wsX8_back := by decide +kernel
theorem fl_X8_back_36 : Cond.fieldLink RX8 36 "ArcOrder" "past" "LArcOrder$Past;" ∈ wsX8_back := by decide +kernel
theorem hi_X8_back_X4 : ∀ w ∈ u_ws RX4 TX4 2, w ∈ wsX8_back := by decide +kernel
theorem fl_X8_back_95 : Cond.fieldLink RX8 95 "ArcOrder$Past" "size" "I" ∈ wsX8_back := by decide +kernel
theorem hi_X8_back_X3 : ∀ w ∈ u_ws RX3 TX3 7, w ∈ wsX8_back := by decide +kernel
theorem fl_X8_back_130 : Cond.fieldLink RX8 130 "ArcOrder$Net" "arcs" "I" ∈ wsX8_back := by decide +kernel
abbrev rm_X8_back : Room := { frames := 2, cells := 0, slots := 0, locals := 81 }
set_option maxHeartbeats 4000000 in
set_option maxRecDepth 100000 in
theorem ok_X8_back (l : Launch) (D : va_G) (cy : Nat → ClassId) (ao : Nat → Nat)  (Nn : NetS) (Pp : PstS) (o_img0 : NetS) (o_img1 : NetS) (o_kept : (Nat → Int32)) (x1 : Int32) (out : Int32 × NetS × PstS) (h : f_X8_back Nn Pp o_img0 o_img1 o_kept x1 = some out) : OK l D cy yX8_back wsX8_back rm_X8_back [.ref (ao 0), .int x1] [(sAO ao), (sNet cy (fun k => ao (10000 + k)) Nn), (sPst cy (fun k => ao (50000 + k)) Pp), (sImg cy ao), (sNet cy (fun k => ao (100000 + k)) o_img0), (sNet cy (fun k => ao (100100 + k)) o_img1), (sZ cy (ao 11) 2 o_kept)] (some (.int out.1)) [(sAO ao), (sNet cy (fun k => ao (10000 + k)) out.2.1), (sPst cy (fun k => ao (50000 + k)) out.2.2), (sImg cy ao), (sNet cy (fun k => ao (100000 + k)) o_img0), (sNet cy (fun k => ao (100100 + k)) o_img1), (sZ cy (ao 11) 2 o_kept)] := by
  refine OKx.of (cc := cX8_back) (maxL := 2) (ret := (some .int)) (by decide) rfl (Nat.le_of_ble_eq_true rfl) (fun G F Rq => ?_)
  show Go G 0 0 0 [(0, .ref (ao 0)), (1, .int x1)] [] [(sAO ao), (sNet cy (fun k => ao (10000 + k)) Nn), (sPst cy (fun k => ao (50000 + k)) Pp), (sImg cy ao), (sNet cy (fun k => ao (100000 + k)) o_img0), (sNet cy (fun k => ao (100100 + k)) o_img1), (sZ cy (ao 11) 2 o_kept)]
  replace F : Fx G cX8_back wsX8_back RX8 cy 2 (rm_X8_back) := F
  replace Rq : Rx G "back" (some .int) (some (.int out.1)) (fun z => z = [(sAO ao), (sNet cy (fun k => ao (10000 + k)) out.2.1), (sPst cy (fun k => ao (50000 + k)) out.2.2), (sImg cy ao), (sNet cy (fun k => ao (100000 + k)) o_img0), (sNet cy (fun k => ao (100100 + k)) o_img1), (sZ cy (ao 11) 2 o_kept)]) 0 0 := Rq
  unfold f_X8_back at h
  refine g_iload_n F dX8_back_0 rfl 1 rfl ?_
  refine g_if_lt F 9 h dX8_back_1 (by decide) (fun h => ?_) (fun h => ?_)
  · refine g_iconst F (v := (-1 : Int32)) dX8_back_9 (by decide) ?_
    obtain rfl := Option.some.inj h
    exact g_iret F Rq rfl dX8_back_10
  · refine g_iload_n F dX8_back_4 rfl 1 rfl ?_
    refine g_iconst F (v := (2 : Int32)) dX8_back_5 (by decide) ?_
    refine g_icmp_lt F 11 h dX8_back_6 (by decide) (fun h => ?_) (fun h => ?_)
    · refine g_aload_n F dX8_back_11 rfl 0 rfl ?_
      refine g_get F (C := RX8) (T := TX8) (N := 11) (ci := 8) (v := .ref (ao 11)) hi_X8_back_X8 0 0 10 dX8_back_12 rfl rfl (by decide) fl_X8_back_72 rfl ?_
      refine g_iload_n F dX8_back_15 rfl 1 rfl ?_
      refine g_zaload F h 6 0 dX8_back_16 rfl (fun h => ?_)
      refine g_if_ne F 23 h dX8_back_17 (by decide) (fun h => ?_) (fun h => ?_)
      · refine g_aload_n F dX8_back_23 rfl 0 rfl ?_
        refine g_get F (C := RX8) (T := TX8) (N := 11) (ci := 8) (v := .ref (ao 10000)) hi_X8_back_X8 0 0 0 dX8_back_24 rfl rfl (by decide) fl_X8_back_10 rfl ?_
        refine g_aload_n F dX8_back_27 rfl 0 rfl ?_
        refine g_get F (C := RX8) (T := TX8) (N := 11) (ci := 8) (v := .ref (ao 10)) hi_X8_back_X8 0 0 9 dX8_back_28 rfl rfl (by decide) fl_X8_back_68 rfl ?_
        refine g_iload_n F dX8_back_31 rfl 1 rfl ?_
        refine g_img F h 3 dX8_back_32 rfl (fun h => ?_) (fun h => ?_)
        · obtain ⟨r1, hr1, h⟩ := bnd h
          refine g_cV F [.ref (ao 100000)] 0 0 (ok_X3_copyOf (gl G) (gD G) cy (fun k => ao (10000 + k)) (fun k => ao (100000 + k)) Nn o_img0 r1 hr1) dX8_back_33 rfl rfl gX8_back_X3_copyOf rfl ⟨rfl, cd_X3_copyOf⟩ (by decide) rfl (Nat.le_of_ble_eq_true rfl) [1, 4] (by decide) rfl rfl (sg' := [(sAO ao), (sNet cy (fun k => ao (10000 + k)) r1), (sPst cy (fun k => ao (50000 + k)) Pp), (sImg cy ao), (sNet cy (fun k => ao (100000 + k)) o_img0), (sNet cy (fun k => ao (100100 + k)) o_img1), (sZ cy (ao 11) 2 o_kept)]) (st' := []) rfl rfl ?_
          refine g_aload_n F dX8_back_36 rfl 0 rfl ?_
          refine g_get F (C := RX8) (T := TX8) (N := 11) (ci := 8) (v := .ref (ao 50000)) hi_X8_back_X8 0 0 4 dX8_back_37 rfl rfl (by decide) fl_X8_back_36 rfl ?_
          refine g_iconst F (v := (0 : Int32)) dX8_back_40 (by decide) ?_
          refine g_put F (C := RX4) (T := TX4) (N := 2) (ci := 4) (v := .int (0 : Int32)) (ty := .int) (sg' := [(sAO ao), (sNet cy (fun k => ao (10000 + k)) r1), (sPst cy (fun k => ao (50000 + k)) ((0 : Int32), Pp.2)), (sImg cy ao), (sNet cy (fun k => ao (100000 + k)) o_img0), (sNet cy (fun k => ao (100100 + k)) o_img1), (sZ cy (ao 11) 2 o_kept)]) hi_X8_back_X4 tyX4 tyX4_ok nmX4 2 0 0 dX8_back_41 rfl rfl (by decide) fl_X8_back_95 rfl rfl rfl rfl (Nat.le_of_ble_eq_true rfl) rfl ?_
          refine g_aload_n F dX8_back_44 rfl 0 rfl ?_
          refine g_get F (C := RX8) (T := TX8) (N := 11) (ci := 8) (v := .ref (ao 10000)) hi_X8_back_X8 0 0 0 dX8_back_45 rfl rfl (by decide) fl_X8_back_10 rfl ?_
          refine g_get F (C := RX3) (T := TX3) (N := 7) (ci := 3) (v := .int r1.2.1) hi_X8_back_X3 1 0 1 dX8_back_48 rfl rfl (by decide) fl_X8_back_130 rfl ?_
          obtain rfl := Option.some.inj h
          exact g_iret F Rq rfl dX8_back_51
        · obtain ⟨r2, hr2, h⟩ := bnd h
          refine g_cV F [.ref (ao 100100)] 0 0 (ok_X3_copyOf (gl G) (gD G) cy (fun k => ao (10000 + k)) (fun k => ao (100100 + k)) Nn o_img1 r2 hr2) dX8_back_33 rfl rfl gX8_back_X3_copyOf rfl ⟨rfl, cd_X3_copyOf⟩ (by decide) rfl (Nat.le_of_ble_eq_true rfl) [1, 5] (by decide) rfl rfl (sg' := [(sAO ao), (sNet cy (fun k => ao (10000 + k)) r2), (sPst cy (fun k => ao (50000 + k)) Pp), (sImg cy ao), (sNet cy (fun k => ao (100000 + k)) o_img0), (sNet cy (fun k => ao (100100 + k)) o_img1), (sZ cy (ao 11) 2 o_kept)]) (st' := []) rfl rfl ?_
          refine g_aload_n F dX8_back_36 rfl 0 rfl ?_
          refine g_get F (C := RX8) (T := TX8) (N := 11) (ci := 8) (v := .ref (ao 50000)) hi_X8_back_X8 0 0 4 dX8_back_37 rfl rfl (by decide) fl_X8_back_36 rfl ?_
          refine g_iconst F (v := (0 : Int32)) dX8_back_40 (by decide) ?_
          refine g_put F (C := RX4) (T := TX4) (N := 2) (ci := 4) (v := .int (0 : Int32)) (ty := .int) (sg' := [(sAO ao), (sNet cy (fun k => ao (10000 + k)) r2), (sPst cy (fun k => ao (50000 + k)) ((0 : Int32), Pp.2)), (sImg cy ao), (sNet cy (fun k => ao (100000 + k)) o_img0), (sNet cy (fun k => ao (100100 + k)) o_img1), (sZ cy (ao 11) 2 o_kept)]) hi_X8_back_X4 tyX4 tyX4_ok nmX4 2 0 0 dX8_back_41 rfl rfl (by decide) fl_X8_back_95 rfl rfl rfl rfl (Nat.le_of_ble_eq_true rfl) rfl ?_
          refine g_aload_n F dX8_back_44 rfl 0 rfl ?_
          refine g_get F (C := RX8) (T := TX8) (N := 11) (ci := 8) (v := .ref (ao 10000)) hi_X8_back_X8 0 0 0 dX8_back_45 rfl rfl (by decide) fl_X8_back_10 rfl ?_
          refine g_get F (C := RX3) (T := TX3) (N := 7) (ci := 3) (v := .int r2.2.1) hi_X8_back_X3 1 0 1 dX8_back_48 rfl rfl (by decide) fl_X8_back_130 rfl ?_
          obtain rfl := Option.some.inj h
          exact g_iret F Rq rfl dX8_back_51
      · refine g_bipush F (v := (-2 : Int32)) dX8_back_20 (by decide) ?_
        obtain rfl := Option.some.inj h
        exact g_iret F Rq rfl dX8_back_22
    · refine g_iconst F (v := (-1 : Int32)) dX8_back_9 (by decide) ?_
      obtain rfl := Option.some.inj h
      exact g_iret F Rq rfl dX8_back_10
theorem hi_X8_count_X8 : ∀ w ∈ u_ws RX8 TX8 11, w ∈ wsX8_count := by decide +kernel
theorem fl_X8_count_10 : Cond.fieldLink RX8 10 "ArcOrder" "net" "LArcOrder$Net;" ∈ wsX8_count := by decide +kernel
theorem hi_X8_count_X3 : ∀ w ∈ u_ws RX3 TX3 7, w ∈ wsX8_count := by decide +kernel
theorem fl_X8_count_121 : Cond.fieldLink RX8 121 "ArcOrder$Net" "items" "I" ∈ wsX8_count := by decide +kernel
theorem fl_X8_count_29 : Cond.fieldLink RX8 29 "ArcOrder" "list" "LArcOrder$ArcList;" ∈ wsX8_count := by decide +kernel
theorem hi_X8_count_X0 : ∀ w ∈ u_ws RX0 TX0 3, w ∈ wsX8_count := by decide +kernel
theorem fl_X8_count_92 : Cond.fieldLink RX8 92 "ArcOrder$ArcList" "size" "I" ∈ wsX8_count := by decide +kernel
theorem fl_X8_count_50 : Cond.fieldLink RX8 50 "ArcOrder" "sight" "LArcOrder$Sight;" ∈ wsX8_count := by decide +kernel
theorem hi_X8_count_X5 : ∀ w ∈ u_ws RX5 TX5 6, w ∈ wsX8_count := by decide +kernel
theorem fl_X8_count_221 : Cond.fieldLink RX8 221 "ArcOrder$Sight" "size" "I" ∈ wsX8_count := by decide +kernel
theorem fl_X8_count_22 : Cond.fieldLink RX8 22 "ArcOrder" "text" "LArcOrder$Text;" ∈ wsX8_count := by decide +kernel
theorem hi_X8_count_X7 : ∀ w ∈ u_ws RX7 TX7 6, w ∈ wsX8_count := by decide +kernel
theorem fl_X8_count_80 : Cond.fieldLink RX8 80 "ArcOrder$Text" "length" "I" ∈ wsX8_count := by decide +kernel
abbrev rm_X8_count : Room := { frames := 0, cells := 0, slots := 0, locals := 0 }
set_option maxHeartbeats 4000000 in
set_option maxRecDepth 100000 in
theorem ok_X8_count (l : Launch) (D : va_G) (cy : Nat → ClassId) (ao : Nat → Nat)  (Nn : NetS) (Tt : TxtS) (Ll : LstS) (Ss : SgtS) (x1 : Int32) (out : Int32) (h : f_X8_count Nn Tt Ll Ss x1 = some out) : OK l D cy yX8_count wsX8_count rm_X8_count [.ref (ao 0), .int x1] [(sAO ao), (sNet cy (fun k => ao (10000 + k)) Nn), (sTxt cy (fun k => ao (30000 + k)) Tt), (sLst cy (fun k => ao (40000 + k)) Ll), (sSgt cy (fun k => ao (70000 + k)) Ss)] (some (.int out)) [(sAO ao), (sNet cy (fun k => ao (10000 + k)) Nn), (sTxt cy (fun k => ao (30000 + k)) Tt), (sLst cy (fun k => ao (40000 + k)) Ll), (sSgt cy (fun k => ao (70000 + k)) Ss)] := by
  refine OKx.of (cc := cX8_count) (maxL := 2) (ret := (some .int)) (by decide) rfl (Nat.le_of_ble_eq_true rfl) (fun G F Rq => ?_)
  show Go G 0 0 0 [(0, .ref (ao 0)), (1, .int x1)] [] [(sAO ao), (sNet cy (fun k => ao (10000 + k)) Nn), (sTxt cy (fun k => ao (30000 + k)) Tt), (sLst cy (fun k => ao (40000 + k)) Ll), (sSgt cy (fun k => ao (70000 + k)) Ss)]
  replace F : Fx G cX8_count wsX8_count RX8 cy 2 (rm_X8_count) := F
  replace Rq : Rx G "count" (some .int) (some (.int out)) (fun z => z = [(sAO ao), (sNet cy (fun k => ao (10000 + k)) Nn), (sTxt cy (fun k => ao (30000 + k)) Tt), (sLst cy (fun k => ao (40000 + k)) Ll), (sSgt cy (fun k => ao (70000 + k)) Ss)]) 0 0 := Rq
  unfold f_X8_count at h
  refine g_iload_n F dX8_count_0 rfl 1 rfl ?_
  refine its h (fun c1 h => ?_) (fun c1 h => ?_)
  · refine g_tin F 32 dX8_count_1 (by rw [c1]; decide) (by rw [c1]; rfl) (by decide) ?_
    refine g_aload_n F dX8_count_32 rfl 0 rfl ?_
    refine g_get F (C := RX8) (T := TX8) (N := 11) (ci := 8) (v := .ref (ao 10000)) hi_X8_count_X8 0 0 0 dX8_count_33 rfl rfl (by decide) fl_X8_count_10 rfl ?_
    refine g_get F (C := RX3) (T := TX3) (N := 7) (ci := 3) (v := .int Nn.1) hi_X8_count_X3 1 0 0 dX8_count_36 rfl rfl (by decide) fl_X8_count_121 rfl ?_
    obtain rfl := Option.some.inj h
    exact g_iret F Rq rfl dX8_count_39
  refine its h (fun c2 h => ?_) (fun c2 h => ?_)
  · refine g_tin F 40 dX8_count_1 (by rw [c2]; decide) (by rw [c2]; rfl) (by decide) ?_
    refine g_aload_n F dX8_count_40 rfl 0 rfl ?_
    refine g_get F (C := RX8) (T := TX8) (N := 11) (ci := 8) (v := .ref (ao 40000)) hi_X8_count_X8 0 0 3 dX8_count_41 rfl rfl (by decide) fl_X8_count_29 rfl ?_
    refine g_get F (C := RX0) (T := TX0) (N := 3) (ci := 0) (v := .int Ll.1) hi_X8_count_X0 3 0 0 dX8_count_44 rfl rfl (by decide) fl_X8_count_92 rfl ?_
    obtain rfl := Option.some.inj h
    exact g_iret F Rq rfl dX8_count_47
  refine its h (fun c3 h => ?_) (fun c3 h => ?_)
  · refine g_tin F 48 dX8_count_1 (by rw [c3]; decide) (by rw [c3]; rfl) (by decide) ?_
    refine g_aload_n F dX8_count_48 rfl 0 rfl ?_
    refine g_get F (C := RX8) (T := TX8) (N := 11) (ci := 8) (v := .ref (ao 70000)) hi_X8_count_X8 0 0 6 dX8_count_49 rfl rfl (by decide) fl_X8_count_50 rfl ?_
    refine g_get F (C := RX5) (T := TX5) (N := 6) (ci := 5) (v := .int (Ss.1 0)) hi_X8_count_X5 4 0 0 dX8_count_52 rfl rfl (by decide) fl_X8_count_221 rfl ?_
    obtain rfl := Option.some.inj h
    exact g_iret F Rq rfl dX8_count_55
  refine its h (fun c4 h => ?_) (fun c4 h => ?_)
  · refine g_tin F 56 dX8_count_1 (by rw [c4]; decide) (by rw [c4]; rfl) (by decide) ?_
    refine g_aload_n F dX8_count_56 rfl 0 rfl ?_
    refine g_get F (C := RX8) (T := TX8) (N := 11) (ci := 8) (v := .ref (ao 30000)) hi_X8_count_X8 0 0 2 dX8_count_57 rfl rfl (by decide) fl_X8_count_22 rfl ?_
    refine g_get F (C := RX7) (T := TX7) (N := 6) (ci := 7) (v := .int (Tt.1 0)) hi_X8_count_X7 2 0 0 dX8_count_60 rfl rfl (by decide) fl_X8_count_80 rfl ?_
    obtain rfl := Option.some.inj h
    exact g_iret F Rq rfl dX8_count_63
  · refine g_tout F 64 dX8_count_1 (sw_out (n := 3) (by decide) (fun k hk => by match k, hk with | 0, _ => exact c1 | 1, _ => exact c2 | 2, _ => exact c3 | 3, _ => exact c4 | k + 4, hk => omega)) (by decide) ?_
    refine g_iconst F (v := (-1 : Int32)) dX8_count_64 (by decide) ?_
    obtain rfl := Option.some.inj h
    exact g_iret F Rq rfl dX8_count_65
