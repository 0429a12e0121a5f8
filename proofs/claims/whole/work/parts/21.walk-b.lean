theorem hi_X0_append_X0 : ∀ w ∈ u_ws RX0 TX0 3, w ∈ wsX0_append := by decide +kernel
theorem fl_X0_append_18 : Cond.fieldLink RX0 18 "ArcOrder$ArcList" "size" "I" ∈ wsX0_append := by decide +kernel
theorem fl_X0_append_9 : Cond.fieldLink RX0 9 "ArcOrder$ArcList" "from" "[I" ∈ wsX0_append := by decide +kernel
theorem fl_X0_append_15 : Cond.fieldLink RX0 15 "ArcOrder$ArcList" "to" "[I" ∈ wsX0_append := by decide +kernel
abbrev rm_X0_append : Room := { frames := 0, cells := 0, slots := 0, locals := 0 }
set_option maxHeartbeats 4000000 in
set_option maxRecDepth 100000 in
theorem ok_X0_append (l : Launch) (D : va_G) (cy : Nat → ClassId) (a : Nat → Nat)  (Ll : LstS) (x1 : Int32) (x2 : Int32) (out : Int32 × LstS) (h : f_X0_append Ll x1 x2 = some out) : OK l D cy yX0_append wsX0_append rm_X0_append [.ref (a 0), .int x1, .int x2] [(sLst cy a Ll)] (some (.int out.1)) [(sLst cy a out.2)] := by
  refine OKx.of (cc := cX0_append) (maxL := 3) (ret := (some .boolean)) (by decide) rfl (Nat.le_of_ble_eq_true rfl) (fun G F Rq => ?_)
  show Go G 0 0 0 [(0, .ref (a 0)), (1, .int x1), (2, .int x2)] [] [(sLst cy a Ll)]
  replace F : Fx G cX0_append wsX0_append RX0 cy 3 (rm_X0_append) := F
  replace Rq : Rx G "append" (some .boolean) (some (.int out.1)) (fun z => z = [(sLst cy a out.2)]) 0 0 := Rq
  unfold f_X0_append at h
  refine g_aload_n F dX0_append_0 rfl 0 rfl ?_
  refine g_get F (C := RX0) (T := TX0) (N := 3) (ci := 0) (v := .int Ll.1) hi_X0_append_X0 0 0 0 dX0_append_1 rfl rfl (by decide) fl_X0_append_18 rfl ?_
  refine g_bipush F (v := (8 : Int32)) dX0_append_4 (by decide) ?_
  refine g_icmp_lt F 11 h dX0_append_6 (by decide) (fun h => ?_) (fun h => ?_)
  · refine g_aload_n F dX0_append_11 rfl 0 rfl ?_
    refine g_get F (C := RX0) (T := TX0) (N := 3) (ci := 0) (v := .ref (a 2)) hi_X0_append_X0 0 0 1 dX0_append_12 rfl rfl (by decide) fl_X0_append_9 rfl ?_
    refine g_aload_n F dX0_append_15 rfl 0 rfl ?_
    refine g_get F (C := RX0) (T := TX0) (N := 3) (ci := 0) (v := .int Ll.1) hi_X0_append_X0 0 0 0 dX0_append_16 rfl rfl (by decide) fl_X0_append_18 rfl ?_
    refine g_iload_n F dX0_append_19 rfl 1 rfl ?_
    refine g_iastore F h (sg' := [(sLst cy a (Ll.1, (upd Ll.2.1 (Ll.1).toNatClampNeg x1), Ll.2.2))]) 0 1 dX0_append_20 rfl rfl (fun h => ?_)
    refine g_aload_n F dX0_append_21 rfl 0 rfl ?_
    refine g_get F (C := RX0) (T := TX0) (N := 3) (ci := 0) (v := .ref (a 3)) hi_X0_append_X0 0 0 2 dX0_append_22 rfl rfl (by decide) fl_X0_append_15 rfl ?_
    refine g_aload_n F dX0_append_25 rfl 0 rfl ?_
    refine g_get F (C := RX0) (T := TX0) (N := 3) (ci := 0) (v := .int Ll.1) hi_X0_append_X0 0 0 0 dX0_append_26 rfl rfl (by decide) fl_X0_append_18 rfl ?_
    refine g_iload_n F dX0_append_29 rfl 2 rfl ?_
    refine g_iastore F h (sg' := [(sLst cy a (Ll.1, (upd Ll.2.1 (Ll.1).toNatClampNeg x1), (upd Ll.2.2 (Ll.1).toNatClampNeg x2)))]) 0 2 dX0_append_30 rfl rfl (fun h => ?_)
    refine g_aload_n F dX0_append_31 rfl 0 rfl ?_
    refine g_dup F dX0_append_32 rfl ?_
    refine g_get F (C := RX0) (T := TX0) (N := 3) (ci := 0) (v := .int Ll.1) hi_X0_append_X0 0 0 0 dX0_append_33 rfl rfl (by decide) fl_X0_append_18 rfl ?_
    refine g_iconst F (v := (1 : Int32)) dX0_append_36 (by decide) ?_
    refine g_iadd F dX0_append_37 ?_
    refine g_put F (C := RX0) (T := TX0) (N := 3) (ci := 0) (v := .int (Ll.1 + (1 : Int32))) (ty := .int) (sg' := [(sLst cy a ((Ll.1 + (1 : Int32)), (upd Ll.2.1 (Ll.1).toNatClampNeg x1), (upd Ll.2.2 (Ll.1).toNatClampNeg x2)))]) hi_X0_append_X0 tyX0 tyX0_ok nmX0 0 0 0 dX0_append_38 rfl rfl (by decide) fl_X0_append_18 rfl rfl rfl rfl (Nat.le_of_ble_eq_true rfl) rfl ?_
    refine g_iconst F (v := (1 : Int32)) dX0_append_41 (by decide) ?_
    obtain rfl := Option.some.inj h
    exact g_zret F Rq rfl rfl dX0_append_42
  · refine g_iconst F (v := (0 : Int32)) dX0_append_9 (by decide) ?_
    obtain rfl := Option.some.inj h
    exact g_zret F Rq rfl rfl dX0_append_10
theorem hi_X0_holds_X0 : ∀ w ∈ u_ws RX0 TX0 3, w ∈ wsX0_holds := by decide +kernel
theorem fl_X0_holds_18 : Cond.fieldLink RX0 18 "ArcOrder$ArcList" "size" "I" ∈ wsX0_holds := by decide +kernel
theorem fl_X0_holds_9 : Cond.fieldLink RX0 9 "ArcOrder$ArcList" "from" "[I" ∈ wsX0_holds := by decide +kernel
theorem fl_X0_holds_15 : Cond.fieldLink RX0 15 "ArcOrder$ArcList" "to" "[I" ∈ wsX0_holds := by decide +kernel
abbrev rm_X0_holds : Room := { frames := 0, cells := 0, slots := 0, locals := 0 }
set_option maxHeartbeats 4000000 in
set_option maxRecDepth 100000 in
theorem k_X0_holds_2_ok {G : GX} {cy : Nat → ClassId} (a : Nat → Nat)  (x1 : Int32) (x2 : Int32) (Ll : LstS) {out : Int32} (F : Fx G cX0_holds wsX0_holds RX0 cy 4 (rm_X0_holds)) (Rq : Rx G "holds" (some .boolean) (some (.int out)) (fun z => z = [(sLst cy a Ll)]) 0 0) (ke : Option (Int32)) (hke : ke = some out → Go G 0 0 38 [] [] [(sLst cy a Ll)]) : ∀ (n : Nat) (x3 : Int32) , k_X0_holds_2 x1 x2 Ll ke n x3 = some out → Go G 0 0 2 [(0, .ref (a 0)), (1, .int x1), (2, .int x2), (3, .int x3)] [] [(sLst cy a Ll)] := by
  intro n
  induction n with
  | zero =>
    intro x3 h
    exact nosome h
  | succ n ih =>
    intro x3 h
    rw [k_X0_holds_2.eq_2] at h
    refine g_iload_n F dX0_holds_2 rfl 3 rfl ?_
    refine g_aload_n F dX0_holds_3 rfl 0 rfl ?_
    refine g_get F (C := RX0) (T := TX0) (N := 3) (ci := 0) (v := .int Ll.1) hi_X0_holds_X0 0 0 0 dX0_holds_4 rfl rfl (by decide) fl_X0_holds_18 rfl ?_
    refine g_icmp_ge F 38 h dX0_holds_7 (by decide) (fun h => ?_) (fun h => ?_)
    · refine Go.sub (lv' := []) [] rfl ?_
      exact hke  h
    · refine g_aload_n F dX0_holds_10 rfl 0 rfl ?_
      refine g_get F (C := RX0) (T := TX0) (N := 3) (ci := 0) (v := .ref (a 2)) hi_X0_holds_X0 0 0 1 dX0_holds_11 rfl rfl (by decide) fl_X0_holds_9 rfl ?_
      refine g_iload_n F dX0_holds_14 rfl 3 rfl ?_
      refine g_iaload F h 0 1 dX0_holds_15 rfl (fun h => ?_)
      refine g_iload_n F dX0_holds_16 rfl 1 rfl ?_
      refine g_icmp_ne F 32 h dX0_holds_17 (by decide) (fun h => ?_) (fun h => ?_)
      · refine g_iinc F (v := (x3 + 1)) (lv' := [(3, .int (x3 + 1)), (0, .ref (a 0)), (1, .int x1), (2, .int x2)]) dX0_holds_32 3 rfl rfl (by decide) rfl ?_
        refine g_goto F 2 dX0_holds_35 (by decide) ?_
        refine Go.sub (lv' := [(0, .ref (a 0)), (1, .int x1), (2, .int x2), (3, .int (x3 + 1))]) [1, 2, 3, 0] rfl ?_
        exact ih (x3 + 1) h
      · refine g_aload_n F dX0_holds_20 rfl 0 rfl ?_
        refine g_get F (C := RX0) (T := TX0) (N := 3) (ci := 0) (v := .ref (a 3)) hi_X0_holds_X0 0 0 2 dX0_holds_21 rfl rfl (by decide) fl_X0_holds_15 rfl ?_
        refine g_iload_n F dX0_holds_24 rfl 3 rfl ?_
        refine g_iaload F h 0 2 dX0_holds_25 rfl (fun h => ?_)
        refine g_iload_n F dX0_holds_26 rfl 2 rfl ?_
        refine g_icmp_ne F 32 h dX0_holds_27 (by decide) (fun h => ?_) (fun h => ?_)
        · refine g_iinc F (v := (x3 + 1)) (lv' := [(3, .int (x3 + 1)), (0, .ref (a 0)), (1, .int x1), (2, .int x2)]) dX0_holds_32 3 rfl rfl (by decide) rfl ?_
          refine g_goto F 2 dX0_holds_35 (by decide) ?_
          refine Go.sub (lv' := [(0, .ref (a 0)), (1, .int x1), (2, .int x2), (3, .int (x3 + 1))]) [1, 2, 3, 0] rfl ?_
          exact ih (x3 + 1) h
        · refine g_iconst F (v := (1 : Int32)) dX0_holds_30 (by decide) ?_
          obtain rfl := Option.some.inj h
          exact g_zret F Rq rfl rfl dX0_holds_31
set_option maxHeartbeats 4000000 in
set_option maxRecDepth 100000 in
theorem ok_X0_holds (l : Launch) (D : va_G) (cy : Nat → ClassId) (a : Nat → Nat)  (Ll : LstS) (x1 : Int32) (x2 : Int32) (out : Int32) (h : f_X0_holds Ll x1 x2 = some out) : OK l D cy yX0_holds wsX0_holds rm_X0_holds [.ref (a 0), .int x1, .int x2] [(sLst cy a Ll)] (some (.int out)) [(sLst cy a Ll)] := by
  refine OKx.of (cc := cX0_holds) (maxL := 4) (ret := (some .boolean)) (by decide) rfl (Nat.le_of_ble_eq_true rfl) (fun G F Rq => ?_)
  show Go G 0 0 0 [(0, .ref (a 0)), (1, .int x1), (2, .int x2)] [] [(sLst cy a Ll)]
  replace F : Fx G cX0_holds wsX0_holds RX0 cy 4 (rm_X0_holds) := F
  replace Rq : Rx G "holds" (some .boolean) (some (.int out)) (fun z => z = [(sLst cy a Ll)]) 0 0 := Rq
  unfold f_X0_holds at h
  refine g_iconst F (v := (0 : Int32)) dX0_holds_0 (by decide) ?_
  refine g_istore_n F (lv' := [(3, .int (0 : Int32)), (0, .ref (a 0)), (1, .int x1), (2, .int x2)]) dX0_holds_1 rfl (by decide) rfl ?_
  refine Go.sub (lv' := [(0, .ref (a 0)), (1, .int x1), (2, .int x2), (3, .int (0 : Int32))]) [1, 2, 3, 0] rfl ?_
  refine k_X0_holds_2_ok a x1 x2 Ll F Rq _ (fun  h => ?_) _ (0 : Int32) h
  refine g_iconst F (v := (0 : Int32)) dX0_holds_38 (by decide) ?_
  obtain rfl := Option.some.inj h
  exact g_zret F Rq rfl rfl dX0_holds_39
theorem hi_X0_isAnyIn_X0 : ∀ w ∈ u_ws RX0 TX0 3, w ∈ wsX0_isAnyIn := by decide +kernel
theorem fl_X0_isAnyIn_18 : Cond.fieldLink RX0 18 "ArcOrder$ArcList" "size" "I" ∈ wsX0_isAnyIn := by decide +kernel
theorem fl_X0_isAnyIn_9 : Cond.fieldLink RX0 9 "ArcOrder$ArcList" "from" "[I" ∈ wsX0_isAnyIn := by decide +kernel
theorem fl_X0_isAnyIn_15 : Cond.fieldLink RX0 15 "ArcOrder$ArcList" "to" "[I" ∈ wsX0_isAnyIn := by decide +kernel
abbrev rm_X0_isAnyIn : Room := { frames := 2, cells := 0, slots := 0, locals := 43 }
set_option maxHeartbeats 4000000 in
set_option maxRecDepth 100000 in
theorem k_X0_isAnyIn_2_ok {G : GX} {cy : Nat → ClassId} (a : Nat → Nat) (a1 : Nat → Nat)   (Ll : LstS) (N1 : NetS) {out : Int32} (F : Fx G cX0_isAnyIn wsX0_isAnyIn RX0 cy 3 (rm_X0_isAnyIn)) (Rq : Rx G "isAnyIn" (some .boolean) (some (.int out)) (fun z => z = [(sLst cy a Ll), (sNet cy a1 N1)]) 0 0) (ke : Option (Int32)) (hke : ke = some out → Go G 0 0 37 [] [] [(sLst cy a Ll), (sNet cy a1 N1)]) : ∀ (n : Nat) (x2 : Int32) , k_X0_isAnyIn_2 Ll N1 ke n x2 = some out → Go G 0 0 2 [(0, .ref (a 0)), (1, .ref (a1 0)), (2, .int x2)] [] [(sLst cy a Ll), (sNet cy a1 N1)] := by
  intro n
  induction n with
  | zero =>
    intro x2 h
    exact nosome h
  | succ n ih =>
    intro x2 h
    rw [k_X0_isAnyIn_2.eq_2] at h
    refine g_iload_n F dX0_isAnyIn_2 rfl 2 rfl ?_
    refine g_aload_n F dX0_isAnyIn_3 rfl 0 rfl ?_
    refine g_get F (C := RX0) (T := TX0) (N := 3) (ci := 0) (v := .int Ll.1) hi_X0_isAnyIn_X0 0 0 0 dX0_isAnyIn_4 rfl rfl (by decide) fl_X0_isAnyIn_18 rfl ?_
    refine g_icmp_ge F 37 h dX0_isAnyIn_7 (by decide) (fun h => ?_) (fun h => ?_)
    · refine Go.sub (lv' := []) [] rfl ?_
      exact hke  h
    · refine g_aload_n F dX0_isAnyIn_10 rfl 1 rfl ?_
      refine g_aload_n F dX0_isAnyIn_11 rfl 0 rfl ?_
      refine g_get F (C := RX0) (T := TX0) (N := 3) (ci := 0) (v := .ref (a 2)) hi_X0_isAnyIn_X0 0 0 1 dX0_isAnyIn_12 rfl rfl (by decide) fl_X0_isAnyIn_9 rfl ?_
      refine g_iload_n F dX0_isAnyIn_15 rfl 2 rfl ?_
      refine g_iaload F h 0 1 dX0_isAnyIn_16 rfl (fun h => ?_)
      refine g_aload_n F dX0_isAnyIn_17 rfl 0 rfl ?_
      refine g_get F (C := RX0) (T := TX0) (N := 3) (ci := 0) (v := .ref (a 3)) hi_X0_isAnyIn_X0 0 0 2 dX0_isAnyIn_18 rfl rfl (by decide) fl_X0_isAnyIn_15 rfl ?_
      refine g_iload_n F dX0_isAnyIn_21 rfl 2 rfl ?_
      refine g_iaload F h 0 2 dX0_isAnyIn_22 rfl (fun h => ?_)
      obtain ⟨r1, hr1, h⟩ := bnd h
      refine g_cV F [.int (Ll.2.1 (x2).toNatClampNeg), .int (Ll.2.2 (x2).toNatClampNeg)] 0 0 (ok_X3_has (gl G) (gD G) cy a1 N1 (Ll.2.1 (x2).toNatClampNeg) (Ll.2.2 (x2).toNatClampNeg) r1 hr1) dX0_isAnyIn_23 rfl rfl gX0_isAnyIn_X3_has rfl ⟨rfl, cd_X3_has⟩ (by decide) rfl (Nat.le_of_ble_eq_true rfl) [1] (by decide) rfl rfl (sg' := [(sLst cy a Ll), (sNet cy a1 N1)]) (st' := [.int r1]) rfl rfl ?_
      refine g_if_eq F 31 h dX0_isAnyIn_26 (by decide) (fun h => ?_) (fun h => ?_)
      · refine g_iinc F (v := (x2 + 1)) (lv' := [(2, .int (x2 + 1)), (0, .ref (a 0)), (1, .ref (a1 0))]) dX0_isAnyIn_31 2 rfl rfl (by decide) rfl ?_
        refine g_goto F 2 dX0_isAnyIn_34 (by decide) ?_
        refine Go.sub (lv' := [(0, .ref (a 0)), (1, .ref (a1 0)), (2, .int (x2 + 1))]) [1, 2, 0] rfl ?_
        exact ih (x2 + 1) h
      · refine g_iconst F (v := (1 : Int32)) dX0_isAnyIn_29 (by decide) ?_
        obtain rfl := Option.some.inj h
        exact g_zret F Rq rfl rfl dX0_isAnyIn_30
set_option maxHeartbeats 4000000 in
set_option maxRecDepth 100000 in
theorem ok_X0_isAnyIn (l : Launch) (D : va_G) (cy : Nat → ClassId) (a : Nat → Nat) (a1 : Nat → Nat)  (Ll : LstS) (N1 : NetS)  (out : Int32) (h : f_X0_isAnyIn Ll N1 = some out) : OK l D cy yX0_isAnyIn wsX0_isAnyIn rm_X0_isAnyIn [.ref (a 0), .ref (a1 0)] [(sLst cy a Ll), (sNet cy a1 N1)] (some (.int out)) [(sLst cy a Ll), (sNet cy a1 N1)] := by
  refine OKx.of (cc := cX0_isAnyIn) (maxL := 3) (ret := (some .boolean)) (by decide) rfl (Nat.le_of_ble_eq_true rfl) (fun G F Rq => ?_)
  show Go G 0 0 0 [(0, .ref (a 0)), (1, .ref (a1 0))] [] [(sLst cy a Ll), (sNet cy a1 N1)]
  replace F : Fx G cX0_isAnyIn wsX0_isAnyIn RX0 cy 3 (rm_X0_isAnyIn) := F
  replace Rq : Rx G "isAnyIn" (some .boolean) (some (.int out)) (fun z => z = [(sLst cy a Ll), (sNet cy a1 N1)]) 0 0 := Rq
  unfold f_X0_isAnyIn at h
  refine g_iconst F (v := (0 : Int32)) dX0_isAnyIn_0 (by decide) ?_
  refine g_istore_n F (lv' := [(2, .int (0 : Int32)), (0, .ref (a 0)), (1, .ref (a1 0))]) dX0_isAnyIn_1 rfl (by decide) rfl ?_
  refine Go.sub (lv' := [(0, .ref (a 0)), (1, .ref (a1 0)), (2, .int (0 : Int32))]) [1, 2, 0] rfl ?_
  refine k_X0_isAnyIn_2_ok a a1 Ll N1 F Rq _ (fun  h => ?_) _ (0 : Int32) h
  refine g_iconst F (v := (0 : Int32)) dX0_isAnyIn_37 (by decide) ?_
  obtain rfl := Option.some.inj h
  exact g_zret F Rq rfl rfl dX0_isAnyIn_38
theorem hi_X2_measure_X2 : ∀ w ∈ u_ws RX2 TX2 3, w ∈ wsX2_measure := by decide +kernel
theorem fl_X2_measure_15 : Cond.fieldLink RX2 15 "ArcOrder$Lap" "steps" "[I" ∈ wsX2_measure := by decide +kernel
theorem hi_X2_measure_X3 : ∀ w ∈ u_ws RX3 TX3 7, w ∈ wsX2_measure := by decide +kernel
theorem fl_X2_measure_36 : Cond.fieldLink RX2 36 "ArcOrder$Net" "place" "[I" ∈ wsX2_measure := by decide +kernel
theorem fl_X2_measure_41 : Cond.fieldLink RX2 41 "ArcOrder$Net" "order" "[I" ∈ wsX2_measure := by decide +kernel
theorem fl_X2_measure_44 : Cond.fieldLink RX2 44 "ArcOrder$Net" "items" "I" ∈ wsX2_measure := by decide +kernel
theorem mm_X2_measure_min : Cond.methodLink RX2 50 Lib.Math.min.name ∈ wsX2_measure ∧ Cond.static Lib.Math.min.name ∈ wsX2_measure ∧ Cond.initialized "java/lang/Math" ∈ wsX2_measure ∧ Cond.code Lib.Math.min.name Lib.Math.min.code 2 (some .int) ∈ wsX2_measure := by decide +kernel
abbrev rm_X2_measure : Room := { frames := 2, cells := 0, slots := 0, locals := 43 }
set_option maxHeartbeats 4000000 in
set_option maxRecDepth 100000 in
theorem k_X2_measure_40_ok {G : GX} {cy : Nat → ClassId} (a : Nat → Nat) (a1 : Nat → Nat)  (x3 : Int32) (x4 : Int32) (N1 : NetS) {out : LapS} (F : Fx G cX2_measure wsX2_measure RX2 cy 6 (rm_X2_measure)) (Rq : Rx G "measure" none none (fun z => z = [(sLap cy a out), (sNet cy a1 N1)]) 0 0) (ke : LapS → Option (LapS)) (hke : ∀  (Rr : LapS), ke Rr = some out → Go G 0 0 92 [(0, .ref (a 0)), (1, .ref (a1 0)), (3, .int x3)] [] [(sLap cy a Rr), (sNet cy a1 N1)]) : ∀ (n : Nat) (x5 : Int32) (Rr : LapS), k_X2_measure_40 x3 x4 N1 ke n x5 Rr = some out → Go G 0 0 40 [(0, .ref (a 0)), (1, .ref (a1 0)), (3, .int x3), (4, .int x4), (5, .int x5)] [] [(sLap cy a Rr), (sNet cy a1 N1)] := by
  intro n
  induction n with
  | zero =>
    intro x5 Rr h
    exact nosome h
  | succ n ih =>
    intro x5 Rr h
    rw [k_X2_measure_40.eq_2] at h
    refine g_iload F dX2_measure_40 4 rfl ?_
    refine g_aload_n F dX2_measure_42 rfl 1 rfl ?_
    refine g_get F (C := RX3) (T := TX3) (N := 7) (ci := 3) (v := .int N1.1) hi_X2_measure_X3 1 0 0 dX2_measure_43 rfl rfl (by decide) fl_X2_measure_44 rfl ?_
    refine g_icmp_ge F 92 h dX2_measure_46 (by decide) (fun h => ?_) (fun h => ?_)
    · refine Go.sub (lv' := [(0, .ref (a 0)), (1, .ref (a1 0)), (3, .int x3)]) [0, 1, 2] rfl ?_
      exact hke Rr h
    · refine g_aload_n F dX2_measure_49 rfl 1 rfl ?_
      refine g_iload F dX2_measure_50 3 rfl ?_
      refine g_iload F dX2_measure_52 4 rfl ?_
      obtain ⟨r2, hr2, h⟩ := bnd h
      refine g_cV F [.int x4, .int x5] 0 0 (ok_X3_has (gl G) (gD G) cy a1 N1 x4 x5 r2 hr2) dX2_measure_54 rfl rfl gX2_measure_X3_has rfl ⟨rfl, cd_X3_has⟩ (by decide) rfl (Nat.le_of_ble_eq_true rfl) [1] (by decide) rfl rfl (sg' := [(sLap cy a Rr), (sNet cy a1 N1)]) (st' := [.int r2]) rfl rfl ?_
      refine g_if_eq F 86 h dX2_measure_57 (by decide) (fun h => ?_) (fun h => ?_)
      · refine g_iinc F (v := (x5 + 1)) (lv' := [(5, .int (x5 + 1)), (0, .ref (a 0)), (1, .ref (a1 0)), (3, .int x3), (4, .int x4)]) dX2_measure_86 4 rfl rfl (by decide) rfl ?_
        refine g_goto F 40 dX2_measure_89 (by decide) ?_
        refine Go.sub (lv' := [(0, .ref (a 0)), (1, .ref (a1 0)), (3, .int x3), (4, .int x4), (5, .int (x5 + 1))]) [1, 2, 3, 4, 0] rfl ?_
        exact ih (x5 + 1) Rr h
      · refine g_aload_n F dX2_measure_60 rfl 0 rfl ?_
        refine g_get F (C := RX2) (T := TX2) (N := 3) (ci := 2) (v := .ref (a 3)) hi_X2_measure_X2 0 0 2 dX2_measure_61 rfl rfl (by decide) fl_X2_measure_15 rfl ?_
        refine g_iload F dX2_measure_64 3 rfl ?_
        refine g_aload_n F dX2_measure_66 rfl 0 rfl ?_
        refine g_get F (C := RX2) (T := TX2) (N := 3) (ci := 2) (v := .ref (a 3)) hi_X2_measure_X2 0 0 2 dX2_measure_67 rfl rfl (by decide) fl_X2_measure_15 rfl ?_
        refine g_iload F dX2_measure_70 3 rfl ?_
        refine g_iaload F h 0 2 dX2_measure_72 rfl (fun h => ?_)
        refine g_aload_n F dX2_measure_73 rfl 0 rfl ?_
        refine g_get F (C := RX2) (T := TX2) (N := 3) (ci := 2) (v := .ref (a 3)) hi_X2_measure_X2 0 0 2 dX2_measure_74 rfl rfl (by decide) fl_X2_measure_15 rfl ?_
        refine g_iload F dX2_measure_77 4 rfl ?_
        refine g_iaload F h 0 2 dX2_measure_79 rfl (fun h => ?_)
        refine g_iconst F (v := (1 : Int32)) dX2_measure_80 (by decide) ?_
        refine g_iadd F dX2_measure_81 ?_
        refine g_mmin F dX2_measure_82 mm_X2_measure_min ⟨by decide, Nat.le_of_ble_eq_true rfl, by decide, by decide⟩ ?_
        refine g_iastore F h (sg' := [(sLap cy a (Rr.1, Rr.2.1, (upd Rr.2.2 (x4).toNatClampNeg (imin (Rr.2.2 (x4).toNatClampNeg) ((Rr.2.2 (x5).toNatClampNeg) + (1 : Int32)))))), (sNet cy a1 N1)]) 0 2 dX2_measure_85 rfl rfl (fun h => ?_)
        refine g_iinc F (v := (x5 + 1)) (lv' := [(5, .int (x5 + 1)), (0, .ref (a 0)), (1, .ref (a1 0)), (3, .int x3), (4, .int x4)]) dX2_measure_86 4 rfl rfl (by decide) rfl ?_
        refine g_goto F 40 dX2_measure_89 (by decide) ?_
        refine Go.sub (lv' := [(0, .ref (a 0)), (1, .ref (a1 0)), (3, .int x3), (4, .int x4), (5, .int (x5 + 1))]) [1, 2, 3, 4, 0] rfl ?_
        exact ih (x5 + 1) (Rr.1, Rr.2.1, (upd Rr.2.2 (x4).toNatClampNeg (imin (Rr.2.2 (x4).toNatClampNeg) ((Rr.2.2 (x5).toNatClampNeg) + (1 : Int32))))) h
set_option maxHeartbeats 4000000 in
set_option maxRecDepth 100000 in
theorem k_X2_measure_25_ok {G : GX} {cy : Nat → ClassId} (a : Nat → Nat) (a1 : Nat → Nat)   (N1 : NetS) {out : LapS} (F : Fx G cX2_measure wsX2_measure RX2 cy 6 (rm_X2_measure)) (Rq : Rx G "measure" none none (fun z => z = [(sLap cy a out), (sNet cy a1 N1)]) 0 0) (ke : LapS → Option (LapS)) (hke : ∀  (Rr : LapS), ke Rr = some out → Go G 0 0 98 [] [] [(sLap cy a Rr), (sNet cy a1 N1)]) : ∀ (n : Nat) (x3 : Int32) (Rr : LapS), k_X2_measure_25 N1 ke n x3 Rr = some out → Go G 0 0 25 [(0, .ref (a 0)), (1, .ref (a1 0)), (3, .int x3)] [] [(sLap cy a Rr), (sNet cy a1 N1)] := by
  intro n
  induction n with
  | zero =>
    intro x3 Rr h
    exact nosome h
  | succ n ih =>
    intro x3 Rr h
    rw [k_X2_measure_25.eq_2] at h
    refine g_iload_n F dX2_measure_25 rfl 2 rfl ?_
    refine g_if_lt F 98 h dX2_measure_26 (by decide) (fun h => ?_) (fun h => ?_)
    · refine Go.sub (lv' := []) [] rfl ?_
      exact hke Rr h
    · refine g_aload_n F dX2_measure_29 rfl 1 rfl ?_
      refine g_get F (C := RX3) (T := TX3) (N := 7) (ci := 3) (v := .ref (a1 5)) hi_X2_measure_X3 1 0 4 dX2_measure_30 rfl rfl (by decide) fl_X2_measure_41 rfl ?_
      refine g_iload_n F dX2_measure_33 rfl 2 rfl ?_
      refine g_iaload F h 1 3 dX2_measure_34 rfl (fun h => ?_)
      refine g_istore F (lv' := [(4, .int (N1.2.2.2.2.1 (x3).toNatClampNeg)), (0, .ref (a 0)), (1, .ref (a1 0)), (3, .int x3)]) dX2_measure_35 (by decide) rfl ?_
      refine g_iconst F (v := (0 : Int32)) dX2_measure_37 (by decide) ?_
      refine g_istore F (lv' := [(5, .int (0 : Int32)), (4, .int (N1.2.2.2.2.1 (x3).toNatClampNeg)), (0, .ref (a 0)), (1, .ref (a1 0)), (3, .int x3)]) dX2_measure_38 (by decide) rfl ?_
      refine Go.sub (lv' := [(0, .ref (a 0)), (1, .ref (a1 0)), (3, .int x3), (4, .int (N1.2.2.2.2.1 (x3).toNatClampNeg)), (5, .int (0 : Int32))]) [2, 3, 4, 1, 0] rfl ?_
      refine k_X2_measure_40_ok a a1 x3 (N1.2.2.2.2.1 (x3).toNatClampNeg) N1 F Rq _ (fun Rr_3 h => ?_) _ (0 : Int32) Rr h
      refine g_iinc F (v := (x3 + (-1))) (lv' := [(3, .int (x3 + (-1))), (0, .ref (a 0)), (1, .ref (a1 0))]) dX2_measure_92 2 rfl rfl (by decide) rfl ?_
      refine g_goto F 25 dX2_measure_95 (by decide) ?_
      refine Go.sub (lv' := [(0, .ref (a 0)), (1, .ref (a1 0)), (3, .int (x3 + (-1)))]) [1, 2, 0] rfl ?_
      exact ih (x3 + (-1)) Rr_3 h
set_option maxHeartbeats 4000000 in
set_option maxRecDepth 100000 in
theorem ok_X2_measure (l : Launch) (D : va_G) (cy : Nat → ClassId) (a : Nat → Nat) (a1 : Nat → Nat)  (Rr : LapS) (N1 : NetS) (x2 : Int32) (out : LapS) (h : f_X2_measure Rr N1 x2 = some out) : OK l D cy yX2_measure wsX2_measure rm_X2_measure [.ref (a 0), .ref (a1 0), .int x2] [(sLap cy a Rr), (sNet cy a1 N1)] none [(sLap cy a out), (sNet cy a1 N1)] := by
  refine OKx.of (cc := cX2_measure) (maxL := 6) (ret := none) (by decide) rfl (Nat.le_of_ble_eq_true rfl) (fun G F Rq => ?_)
  show Go G 0 0 0 [(0, .ref (a 0)), (1, .ref (a1 0)), (2, .int x2)] [] [(sLap cy a Rr), (sNet cy a1 N1)]
  replace F : Fx G cX2_measure wsX2_measure RX2 cy 6 (rm_X2_measure) := F
  replace Rq : Rx G "measure" none none (fun z => z = [(sLap cy a out), (sNet cy a1 N1)]) 0 0 := Rq
  unfold f_X2_measure at h
  refine g_aload_n F dX2_measure_0 rfl 0 rfl ?_
  refine g_get F (C := RX2) (T := TX2) (N := 3) (ci := 2) (v := .ref (a 3)) hi_X2_measure_X2 0 0 2 dX2_measure_1 rfl rfl (by decide) fl_X2_measure_15 rfl ?_
  refine g_bipush F (v := (12 : Int32)) dX2_measure_4 (by decide) ?_
  obtain ⟨r1, hr1, h⟩ := bnd h
  refine Go.world (sg' := [(sLap cy a Rr).take 1, (sI cy (a 2) 12 Rr.2.1), (sI cy (a 3) 12 Rr.2.2), (sNet cy a1 N1)]) rfl ?_
  refine g_cS F [.ref (a 3), .int (12 : Int32)] (ok_J7_fill_53178 (gl G) (gD G) cy (a 3) 12 Rr.2.2 (12 : Int32) r1 hr1) dX2_measure_6 gX2_measure_J7_fill_53178 rfl cd_J7_fill_53178 (by decide) rfl (Nat.le_of_ble_eq_true rfl) [2] (by decide) rfl rfl (sg' := [(sLap cy a (Rr.1, Rr.2.1, r1)).take 1, (sI cy (a 2) 12 Rr.2.1), (sI cy (a 3) 12 r1), (sNet cy a1 N1)]) (st' := []) rfl rfl ?_
  refine Go.world (sg' := [(sLap cy a (Rr.1, Rr.2.1, r1)), (sNet cy a1 N1)]) rfl ?_
  refine g_aload_n F dX2_measure_9 rfl 0 rfl ?_
  refine g_get F (C := RX2) (T := TX2) (N := 3) (ci := 2) (v := .ref (a 3)) hi_X2_measure_X2 0 0 2 dX2_measure_10 rfl rfl (by decide) fl_X2_measure_15 rfl ?_
  refine g_iload_n F dX2_measure_13 rfl 2 rfl ?_
  refine g_iconst F (v := (0 : Int32)) dX2_measure_14 (by decide) ?_
  refine g_iastore F h (sg' := [(sLap cy a (Rr.1, Rr.2.1, (upd r1 (x2).toNatClampNeg (0 : Int32)))), (sNet cy a1 N1)]) 0 2 dX2_measure_15 rfl rfl (fun h => ?_)
  refine g_aload_n F dX2_measure_16 rfl 1 rfl ?_
  refine g_get F (C := RX3) (T := TX3) (N := 7) (ci := 3) (v := .ref (a1 6)) hi_X2_measure_X3 1 0 5 dX2_measure_17 rfl rfl (by decide) fl_X2_measure_36 rfl ?_
  refine g_iload_n F dX2_measure_20 rfl 2 rfl ?_
  refine g_iaload F h 1 4 dX2_measure_21 rfl (fun h => ?_)
  refine g_iconst F (v := (1 : Int32)) dX2_measure_22 (by decide) ?_
  refine g_isub F dX2_measure_23 ?_
  refine g_istore_n F (lv' := [(3, .int ((N1.2.2.2.2.2.1 (x2).toNatClampNeg) - (1 : Int32))), (0, .ref (a 0)), (1, .ref (a1 0)), (2, .int x2)]) dX2_measure_24 rfl (by decide) rfl ?_
  refine Go.sub (lv' := [(0, .ref (a 0)), (1, .ref (a1 0)), (3, .int ((N1.2.2.2.2.2.1 (x2).toNatClampNeg) - (1 : Int32)))]) [1, 2, 0] rfl ?_
  refine k_X2_measure_25_ok a a1 N1 F Rq _ (fun Rr_4 h => ?_) _ ((N1.2.2.2.2.2.1 (x2).toNatClampNeg) - (1 : Int32)) (Rr.1, Rr.2.1, (upd r1 (x2).toNatClampNeg (0 : Int32))) h
  obtain rfl := Option.some.inj h
  exact g_vret F Rq rfl dX2_measure_98
theorem hi_X2_lowestNext_X3 : ∀ w ∈ u_ws RX3 TX3 7, w ∈ wsX2_lowestNext := by decide +kernel
theorem fl_X2_lowestNext_44 : Cond.fieldLink RX2 44 "ArcOrder$Net" "items" "I" ∈ wsX2_lowestNext := by decide +kernel
theorem hi_X2_lowestNext_X2 : ∀ w ∈ u_ws RX2 TX2 3, w ∈ wsX2_lowestNext := by decide +kernel
theorem fl_X2_lowestNext_15 : Cond.fieldLink RX2 15 "ArcOrder$Lap" "steps" "[I" ∈ wsX2_lowestNext := by decide +kernel
abbrev rm_X2_lowestNext : Room := { frames := 2, cells := 0, slots := 0, locals := 43 }
set_option maxHeartbeats 4000000 in
set_option maxRecDepth 100000 in
theorem k_X2_lowestNext_3_ok {G : GX} {cy : Nat → ClassId} (a : Nat → Nat) (a1 : Nat → Nat)  (x2 : Int32) (x3 : Int32) (Rr : LapS) (N1 : NetS) {out : Int32} (F : Fx G cX2_lowestNext wsX2_lowestNext RX2 cy 5 (rm_X2_lowestNext)) (Rq : Rx G "lowestNext" (some .int) (some (.int out)) (fun z => z = [(sLap cy a Rr), (sNet cy a1 N1)]) 0 0) (ke : Option (Int32)) (hke : ke = some out → Go G 0 0 42 [(2, .int x2)] [] [(sLap cy a Rr), (sNet cy a1 N1)]) : ∀ (n : Nat) (x4 : Int32) , k_X2_lowestNext_3 x2 x3 Rr N1 ke n x4 = some out → Go G 0 0 3 [(0, .ref (a 0)), (1, .ref (a1 0)), (2, .int x2), (3, .int x3), (4, .int x4)] [] [(sLap cy a Rr), (sNet cy a1 N1)] := by
  intro n
  induction n with
  | zero =>
    intro x4 h
    exact nosome h
  | succ n ih =>
    intro x4 h
    rw [k_X2_lowestNext_3.eq_2] at h
    refine g_iload F dX2_lowestNext_3 4 rfl ?_
    refine g_aload_n F dX2_lowestNext_5 rfl 1 rfl ?_
    refine g_get F (C := RX3) (T := TX3) (N := 7) (ci := 3) (v := .int N1.1) hi_X2_lowestNext_X3 1 0 0 dX2_lowestNext_6 rfl rfl (by decide) fl_X2_lowestNext_44 rfl ?_
    refine g_icmp_ge F 42 h dX2_lowestNext_9 (by decide) (fun h => ?_) (fun h => ?_)
    · refine Go.sub (lv' := [(2, .int x2)]) [2] rfl ?_
      exact hke  h
    · refine g_aload_n F dX2_lowestNext_12 rfl 1 rfl ?_
      refine g_iload_n F dX2_lowestNext_13 rfl 2 rfl ?_
      refine g_iload F dX2_lowestNext_14 4 rfl ?_
      obtain ⟨r1, hr1, h⟩ := bnd h
      refine g_cV F [.int x2, .int x4] 0 0 (ok_X3_has (gl G) (gD G) cy a1 N1 x2 x4 r1 hr1) dX2_lowestNext_16 rfl rfl gX2_lowestNext_X3_has rfl ⟨rfl, cd_X3_has⟩ (by decide) rfl (Nat.le_of_ble_eq_true rfl) [1] (by decide) rfl rfl (sg' := [(sLap cy a Rr), (sNet cy a1 N1)]) (st' := [.int r1]) rfl rfl ?_
      refine g_if_eq F 36 h dX2_lowestNext_19 (by decide) (fun h => ?_) (fun h => ?_)
      · refine g_iinc F (v := (x4 + 1)) (lv' := [(4, .int (x4 + 1)), (0, .ref (a 0)), (1, .ref (a1 0)), (2, .int x2), (3, .int x3)]) dX2_lowestNext_36 4 rfl rfl (by decide) rfl ?_
        refine g_goto F 3 dX2_lowestNext_39 (by decide) ?_
        refine Go.sub (lv' := [(0, .ref (a 0)), (1, .ref (a1 0)), (2, .int x2), (3, .int x3), (4, .int (x4 + 1))]) [1, 2, 3, 4, 0] rfl ?_
        exact ih (x4 + 1) h
      · refine g_aload_n F dX2_lowestNext_22 rfl 0 rfl ?_
        refine g_get F (C := RX2) (T := TX2) (N := 3) (ci := 2) (v := .ref (a 3)) hi_X2_lowestNext_X2 0 0 2 dX2_lowestNext_23 rfl rfl (by decide) fl_X2_lowestNext_15 rfl ?_
        refine g_iload F dX2_lowestNext_26 4 rfl ?_
        refine g_iaload F h 0 2 dX2_lowestNext_28 rfl (fun h => ?_)
        refine g_iload_n F dX2_lowestNext_29 rfl 3 rfl ?_
        refine g_icmp_ne F 36 h dX2_lowestNext_30 (by decide) (fun h => ?_) (fun h => ?_)
        · refine g_iinc F (v := (x4 + 1)) (lv' := [(4, .int (x4 + 1)), (0, .ref (a 0)), (1, .ref (a1 0)), (2, .int x2), (3, .int x3)]) dX2_lowestNext_36 4 rfl rfl (by decide) rfl ?_
          refine g_goto F 3 dX2_lowestNext_39 (by decide) ?_
          refine Go.sub (lv' := [(0, .ref (a 0)), (1, .ref (a1 0)), (2, .int x2), (3, .int x3), (4, .int (x4 + 1))]) [1, 2, 3, 4, 0] rfl ?_
          exact ih (x4 + 1) h
        · refine g_iload F dX2_lowestNext_33 4 rfl ?_
          obtain rfl := Option.some.inj h
          exact g_iret F Rq rfl dX2_lowestNext_35
set_option maxHeartbeats 4000000 in
set_option maxRecDepth 100000 in
theorem ok_X2_lowestNext (l : Launch) (D : va_G) (cy : Nat → ClassId) (a : Nat → Nat) (a1 : Nat → Nat)  (Rr : LapS) (N1 : NetS) (x2 : Int32) (x3 : Int32) (out : Int32) (h : f_X2_lowestNext Rr N1 x2 x3 = some out) : OK l D cy yX2_lowestNext wsX2_lowestNext rm_X2_lowestNext [.ref (a 0), .ref (a1 0), .int x2, .int x3] [(sLap cy a Rr), (sNet cy a1 N1)] (some (.int out)) [(sLap cy a Rr), (sNet cy a1 N1)] := by
  refine OKx.of (cc := cX2_lowestNext) (maxL := 5) (ret := (some .int)) (by decide) rfl (Nat.le_of_ble_eq_true rfl) (fun G F Rq => ?_)
  show Go G 0 0 0 [(0, .ref (a 0)), (1, .ref (a1 0)), (2, .int x2), (3, .int x3)] [] [(sLap cy a Rr), (sNet cy a1 N1)]
  replace F : Fx G cX2_lowestNext wsX2_lowestNext RX2 cy 5 (rm_X2_lowestNext) := F
  replace Rq : Rx G "lowestNext" (some .int) (some (.int out)) (fun z => z = [(sLap cy a Rr), (sNet cy a1 N1)]) 0 0 := Rq
  unfold f_X2_lowestNext at h
  refine g_iconst F (v := (0 : Int32)) dX2_lowestNext_0 (by decide) ?_
  refine g_istore F (lv' := [(4, .int (0 : Int32)), (0, .ref (a 0)), (1, .ref (a1 0)), (2, .int x2), (3, .int x3)]) dX2_lowestNext_1 (by decide) rfl ?_
  refine Go.sub (lv' := [(0, .ref (a 0)), (1, .ref (a1 0)), (2, .int x2), (3, .int x3), (4, .int (0 : Int32))]) [1, 2, 3, 4, 0] rfl ?_
  refine k_X2_lowestNext_3_ok a a1 x2 x3 Rr N1 F Rq _ (fun  h => ?_) _ (0 : Int32) h
  refine g_iload_n F dX2_lowestNext_42 rfl 0 rfl ?_
  obtain rfl := Option.some.inj h
  exact g_iret F Rq rfl dX2_lowestNext_43
theorem hi_X2_trace_X2 : ∀ w ∈ u_ws RX2 TX2 3, w ∈ wsX2_trace := by decide +kernel
theorem fl_X2_trace_9 : Cond.fieldLink RX2 9 "ArcOrder$Lap" "items" "[I" ∈ wsX2_trace := by decide +kernel
theorem fl_X2_trace_22 : Cond.fieldLink RX2 22 "ArcOrder$Lap" "length" "I" ∈ wsX2_trace := by decide +kernel
theorem fl_X2_trace_15 : Cond.fieldLink RX2 15 "ArcOrder$Lap" "steps" "[I" ∈ wsX2_trace := by decide +kernel
abbrev rm_X2_trace : Room := { frames := 3, cells := 0, slots := 0, locals := 68 }
set_option maxHeartbeats 4000000 in
set_option maxRecDepth 100000 in
theorem k_X2_trace_29_ok {G : GX} {cy : Nat → ClassId} (a : Nat → Nat) (a1 : Nat → Nat)   (N1 : NetS) {out : LapS} (F : Fx G cX2_trace wsX2_trace RX2 cy 6 (rm_X2_trace)) (Rq : Rx G "trace" none none (fun z => z = [(sLap cy a out), (sNet cy a1 N1)]) 0 0) (ke : LapS → Option (LapS)) (hke : ∀  (Rr : LapS), ke Rr = some out → Go G 0 0 83 [] [] [(sLap cy a Rr), (sNet cy a1 N1)]) : ∀ (n : Nat) (x4 : Int32) (x5 : Int32) (Rr : LapS), k_X2_trace_29 N1 ke n x4 x5 Rr = some out → Go G 0 0 29 [(0, .ref (a 0)), (1, .ref (a1 0)), (4, .int x4), (5, .int x5)] [] [(sLap cy a Rr), (sNet cy a1 N1)] := by
  intro n
  induction n with
  | zero =>
    intro x4 x5 Rr h
    exact nosome h
  | succ n ih =>
    intro x4 x5 Rr h
    rw [k_X2_trace_29.eq_2] at h
    refine g_iload F dX2_trace_29 3 rfl ?_
    refine g_if_le F 83 h dX2_trace_31 (by decide) (fun h => ?_) (fun h => ?_)
    · refine Go.sub (lv' := []) [] rfl ?_
      exact hke Rr h
    · refine g_aload_n F dX2_trace_34 rfl 0 rfl ?_
      refine g_get F (C := RX2) (T := TX2) (N := 3) (ci := 2) (v := .int Rr.1) hi_X2_trace_X2 0 0 0 dX2_trace_35 rfl rfl (by decide) fl_X2_trace_22 rfl ?_
      refine g_bipush F (v := (12 : Int32)) dX2_trace_38 (by decide) ?_
      refine g_icmp_ge F 83 h dX2_trace_40 (by decide) (fun h => ?_) (fun h => ?_)
      · refine Go.sub (lv' := []) [] rfl ?_
        exact hke Rr h
      · refine g_aload_n F dX2_trace_43 rfl 0 rfl ?_
        refine g_aload_n F dX2_trace_44 rfl 1 rfl ?_
        refine g_iload F dX2_trace_45 2 rfl ?_
        refine g_iload F dX2_trace_47 3 rfl ?_
        refine g_iconst F (v := (1 : Int32)) dX2_trace_49 (by decide) ?_
        refine g_isub F dX2_trace_50 ?_
        obtain ⟨r2, hr2, h⟩ := bnd h
        refine g_cV F [.ref (a1 0), .int x4, .int (x5 - (1 : Int32))] 0 0 (ok_X2_lowestNext (gl G) (gD G) cy a a1 Rr N1 x4 (x5 - (1 : Int32)) r2 hr2) dX2_trace_51 rfl rfl gX2_trace_X2_lowestNext rfl ⟨rfl, cd_X2_lowestNext⟩ (by decide) rfl (Nat.le_of_ble_eq_true rfl) [0, 1] (by decide) rfl rfl (sg' := [(sLap cy a Rr), (sNet cy a1 N1)]) (st' := [.int r2]) rfl rfl ?_
        refine g_istore F (lv' := [(4, .int r2), (0, .ref (a 0)), (1, .ref (a1 0)), (5, .int x5)]) dX2_trace_54 (by decide) rfl ?_
        refine g_aload_n F dX2_trace_56 rfl 1 rfl ?_
        refine g_get F (C := RX2) (T := TX2) (N := 3) (ci := 2) (v := .ref (a 2)) hi_X2_trace_X2 0 0 1 dX2_trace_57 rfl rfl (by decide) fl_X2_trace_9 rfl ?_
        refine g_aload_n F dX2_trace_60 rfl 1 rfl ?_
        refine g_get F (C := RX2) (T := TX2) (N := 3) (ci := 2) (v := .int Rr.1) hi_X2_trace_X2 0 0 0 dX2_trace_61 rfl rfl (by decide) fl_X2_trace_22 rfl ?_
        refine g_iload F dX2_trace_64 0 rfl ?_
        refine g_iastore F h (sg' := [(sLap cy a (Rr.1, (upd Rr.2.1 (Rr.1).toNatClampNeg r2), Rr.2.2)), (sNet cy a1 N1)]) 0 1 dX2_trace_66 rfl rfl (fun h => ?_)
        refine g_aload_n F dX2_trace_67 rfl 1 rfl ?_
        refine g_dup F dX2_trace_68 rfl ?_
        refine g_get F (C := RX2) (T := TX2) (N := 3) (ci := 2) (v := .int Rr.1) hi_X2_trace_X2 0 0 0 dX2_trace_69 rfl rfl (by decide) fl_X2_trace_22 rfl ?_
        refine g_iconst F (v := (1 : Int32)) dX2_trace_72 (by decide) ?_
        refine g_iadd F dX2_trace_73 ?_
        refine g_put F (C := RX2) (T := TX2) (N := 3) (ci := 2) (v := .int (Rr.1 + (1 : Int32))) (ty := .int) (sg' := [(sLap cy a ((Rr.1 + (1 : Int32)), (upd Rr.2.1 (Rr.1).toNatClampNeg r2), Rr.2.2)), (sNet cy a1 N1)]) hi_X2_trace_X2 tyX2 tyX2_ok nmX2 0 0 0 dX2_trace_74 rfl rfl (by decide) fl_X2_trace_22 rfl rfl rfl rfl (Nat.le_of_ble_eq_true rfl) rfl ?_
        refine g_iinc F (v := (x5 + (-1))) (lv' := [(5, .int (x5 + (-1))), (4, .int r2), (0, .ref (a 0)), (1, .ref (a1 0))]) dX2_trace_77 3 rfl rfl (by decide) rfl ?_
        refine g_goto F 29 dX2_trace_80 (by decide) ?_
        refine Go.sub (lv' := [(0, .ref (a 0)), (1, .ref (a1 0)), (4, .int r2), (5, .int (x5 + (-1)))]) [2, 3, 1, 0] rfl ?_
        exact ih r2 (x5 + (-1)) ((Rr.1 + (1 : Int32)), (upd Rr.2.1 (Rr.1).toNatClampNeg r2), Rr.2.2) h
set_option maxHeartbeats 4000000 in
set_option maxRecDepth 100000 in
theorem ok_X2_trace (l : Launch) (D : va_G) (cy : Nat → ClassId) (a : Nat → Nat) (a1 : Nat → Nat)  (Rr : LapS) (N1 : NetS) (x2 : Int32) (x3 : Int32) (out : LapS) (h : f_X2_trace Rr N1 x2 x3 = some out) : OK l D cy yX2_trace wsX2_trace rm_X2_trace [.ref (a 0), .ref (a1 0), .int x2, .int x3] [(sLap cy a Rr), (sNet cy a1 N1)] none [(sLap cy a out), (sNet cy a1 N1)] := by
  refine OKx.of (cc := cX2_trace) (maxL := 6) (ret := none) (by decide) rfl (Nat.le_of_ble_eq_true rfl) (fun G F Rq => ?_)
  show Go G 0 0 0 [(0, .ref (a 0)), (1, .ref (a1 0)), (2, .int x2), (3, .int x3)] [] [(sLap cy a Rr), (sNet cy a1 N1)]
  replace F : Fx G cX2_trace wsX2_trace RX2 cy 6 (rm_X2_trace) := F
  replace Rq : Rx G "trace" none none (fun z => z = [(sLap cy a out), (sNet cy a1 N1)]) 0 0 := Rq
  unfold f_X2_trace at h
  refine g_aload_n F dX2_trace_0 rfl 0 rfl ?_
  refine g_aload_n F dX2_trace_1 rfl 1 rfl ?_
  refine g_iload_n F dX2_trace_2 rfl 2 rfl ?_
  obtain ⟨r1, hr1, h⟩ := bnd h
  refine g_cV F [.ref (a1 0), .int x2] 0 0 (ok_X2_measure (gl G) (gD G) cy a a1 Rr N1 x2 r1 hr1) dX2_trace_3 rfl rfl gX2_trace_X2_measure rfl ⟨rfl, cd_X2_measure⟩ (by decide) rfl (Nat.le_of_ble_eq_true rfl) [0, 1] (by decide) rfl rfl (sg' := [(sLap cy a r1), (sNet cy a1 N1)]) (st' := []) rfl rfl ?_
  refine g_iload_n F dX2_trace_6 rfl 3 rfl ?_
  refine g_istore F (lv' := [(4, .int x3), (0, .ref (a 0)), (1, .ref (a1 0)), (2, .int x2), (3, .int x3)]) dX2_trace_7 (by decide) rfl ?_
  refine g_aload_n F dX2_trace_9 rfl 1 rfl ?_
  refine g_get F (C := RX2) (T := TX2) (N := 3) (ci := 2) (v := .ref (a 2)) hi_X2_trace_X2 0 0 1 dX2_trace_10 rfl rfl (by decide) fl_X2_trace_9 rfl ?_
  refine g_iconst F (v := (0 : Int32)) dX2_trace_13 (by decide) ?_
  refine g_iload_n F dX2_trace_14 rfl 4 rfl ?_
  refine g_iastore F h (sg' := [(sLap cy a (r1.1, (upd r1.2.1 ((0 : Int32)).toNatClampNeg x3), r1.2.2)), (sNet cy a1 N1)]) 0 1 dX2_trace_15 rfl rfl (fun h => ?_)
  refine g_aload_n F dX2_trace_16 rfl 1 rfl ?_
  refine g_iconst F (v := (1 : Int32)) dX2_trace_17 (by decide) ?_
  refine g_put F (C := RX2) (T := TX2) (N := 3) (ci := 2) (v := .int (1 : Int32)) (ty := .int) (sg' := [(sLap cy a ((1 : Int32), (upd r1.2.1 ((0 : Int32)).toNatClampNeg x3), r1.2.2)), (sNet cy a1 N1)]) hi_X2_trace_X2 tyX2 tyX2_ok nmX2 0 0 0 dX2_trace_18 rfl rfl (by decide) fl_X2_trace_22 rfl rfl rfl rfl (Nat.le_of_ble_eq_true rfl) rfl ?_
  refine g_aload_n F dX2_trace_21 rfl 1 rfl ?_
  refine g_get F (C := RX2) (T := TX2) (N := 3) (ci := 2) (v := .ref (a 3)) hi_X2_trace_X2 0 0 2 dX2_trace_22 rfl rfl (by decide) fl_X2_trace_15 rfl ?_
  refine g_iload_n F dX2_trace_25 rfl 4 rfl ?_
  refine g_iaload F h 0 2 dX2_trace_26 rfl (fun h => ?_)
  refine g_istore F (lv' := [(5, .int (r1.2.2 (x3).toNatClampNeg)), (4, .int x3), (0, .ref (a 0)), (1, .ref (a1 0)), (2, .int x2), (3, .int x3)]) dX2_trace_27 (by decide) rfl ?_
  refine Go.sub (lv' := [(0, .ref (a 0)), (1, .ref (a1 0)), (4, .int x3), (5, .int (r1.2.2 (x3).toNatClampNeg))]) [2, 3, 1, 0] rfl ?_
  refine k_X2_trace_29_ok a a1 N1 F Rq _ (fun Rr_3 h => ?_) _ x3 (r1.2.2 (x3).toNatClampNeg) ((1 : Int32), (upd r1.2.1 ((0 : Int32)).toNatClampNeg x3), r1.2.2) h
  obtain rfl := Option.some.inj h
  exact g_vret F Rq rfl dX2_trace_83
theorem hi_X5_empty_X5 : ∀ w ∈ u_ws RX5 TX5 6, w ∈ wsX5_empty := by decide +kernel
theorem fl_X5_empty_15 : Cond.fieldLink RX5 15 "ArcOrder$Sight" "size" "I" ∈ wsX5_empty := by decide +kernel
theorem fl_X5_empty_19 : Cond.fieldLink RX5 19 "ArcOrder$Sight" "mustMove" "I" ∈ wsX5_empty := by decide +kernel
theorem fl_X5_empty_22 : Cond.fieldLink RX5 22 "ArcOrder$Sight" "mustStay" "I" ∈ wsX5_empty := by decide +kernel
abbrev rm_X5_empty : Room := { frames := 0, cells := 0, slots := 0, locals := 0 }
set_option maxHeartbeats 4000000 in
set_option maxRecDepth 100000 in
theorem ok_X5_empty (l : Launch) (D : va_G) (cy : Nat → ClassId) (a : Nat → Nat)  (Ss : SgtS)  (out : SgtS) (h : f_X5_empty Ss = some out) : OK l D cy yX5_empty wsX5_empty rm_X5_empty [.ref (a 0)] [(sSgt cy a Ss)] none [(sSgt cy a out)] := by
  refine OKx.of (cc := cX5_empty) (maxL := 1) (ret := none) (by decide) rfl (Nat.le_of_ble_eq_true rfl) (fun G F Rq => ?_)
  show Go G 0 0 0 [(0, .ref (a 0))] [] [(sSgt cy a Ss)]
  replace F : Fx G cX5_empty wsX5_empty RX5 cy 1 (rm_X5_empty) := F
  replace Rq : Rx G "empty" none none (fun z => z = [(sSgt cy a out)]) 0 0 := Rq
  unfold f_X5_empty at h
  refine g_aload_n F dX5_empty_0 rfl 0 rfl ?_
  refine g_iconst F (v := (0 : Int32)) dX5_empty_1 (by decide) ?_
  refine g_put F (C := RX5) (T := TX5) (N := 6) (ci := 5) (v := .int (0 : Int32)) (ty := .int) (sg' := [(sSgt cy a ((upd Ss.1 0 (0 : Int32)), Ss.2))]) hi_X5_empty_X5 tyX5 tyX5_ok nmX5 0 0 0 dX5_empty_2 rfl rfl (by decide) fl_X5_empty_15 rfl rfl rfl rfl (Nat.le_of_ble_eq_true rfl) rfl ?_
  refine g_aload_n F dX5_empty_5 rfl 0 rfl ?_
  refine g_iconst F (v := (0 : Int32)) dX5_empty_6 (by decide) ?_
  refine g_put F (C := RX5) (T := TX5) (N := 6) (ci := 5) (v := .int (0 : Int32)) (ty := .int) (sg' := [(sSgt cy a ((upd (upd Ss.1 0 (0 : Int32)) 3 (0 : Int32)), Ss.2))]) hi_X5_empty_X5 tyX5 tyX5_ok nmX5 0 0 3 dX5_empty_7 rfl rfl (by decide) fl_X5_empty_19 rfl rfl rfl rfl (Nat.le_of_ble_eq_true rfl) rfl ?_
  refine g_aload_n F dX5_empty_10 rfl 0 rfl ?_
  refine g_iconst F (v := (0 : Int32)) dX5_empty_11 (by decide) ?_
  refine g_put F (C := RX5) (T := TX5) (N := 6) (ci := 5) (v := .int (0 : Int32)) (ty := .int) (sg' := [(sSgt cy a ((upd (upd (upd Ss.1 0 (0 : Int32)) 3 (0 : Int32)) 4 (0 : Int32)), Ss.2))]) hi_X5_empty_X5 tyX5 tyX5_ok nmX5 0 0 4 dX5_empty_12 rfl rfl (by decide) fl_X5_empty_22 rfl rfl rfl rfl (Nat.le_of_ble_eq_true rfl) rfl ?_
  obtain rfl := Option.some.inj h
  exact g_vret F Rq rfl dX5_empty_15
theorem hi_X5_append_X5 : ∀ w ∈ u_ws RX5 TX5 6, w ∈ wsX5_append := by decide +kernel
theorem fl_X5_append_15 : Cond.fieldLink RX5 15 "ArcOrder$Sight" "size" "I" ∈ wsX5_append := by decide +kernel
theorem fl_X5_append_22 : Cond.fieldLink RX5 22 "ArcOrder$Sight" "mustStay" "I" ∈ wsX5_append := by decide +kernel
theorem fl_X5_append_19 : Cond.fieldLink RX5 19 "ArcOrder$Sight" "mustMove" "I" ∈ wsX5_append := by decide +kernel
abbrev rm_X5_append : Room := { frames := 0, cells := 0, slots := 0, locals := 0 }
set_option maxHeartbeats 4000000 in
set_option maxRecDepth 100000 in
theorem ok_X5_append (l : Launch) (D : va_G) (cy : Nat → ClassId) (a : Nat → Nat)  (Ss : SgtS) (x1 : Int32) (x2 : Int32) (out : Int32 × SgtS) (h : f_X5_append Ss x1 x2 = some out) : OK l D cy yX5_append wsX5_append rm_X5_append [.ref (a 0), .int x1, .int x2] [(sSgt cy a Ss)] (some (.int out.1)) [(sSgt cy a out.2)] := by
  refine OKx.of (cc := cX5_append) (maxL := 3) (ret := (some .boolean)) (by decide) rfl (Nat.le_of_ble_eq_true rfl) (fun G F Rq => ?_)
  show Go G 0 0 0 [(0, .ref (a 0)), (1, .int x1), (2, .int x2)] [] [(sSgt cy a Ss)]
  replace F : Fx G cX5_append wsX5_append RX5 cy 3 (rm_X5_append) := F
  replace Rq : Rx G "append" (some .boolean) (some (.int out.1)) (fun z => z = [(sSgt cy a out.2)]) 0 0 := Rq
  unfold f_X5_append at h
  refine g_aload_n F dX5_append_0 rfl 0 rfl ?_
  refine g_get F (C := RX5) (T := TX5) (N := 6) (ci := 5) (v := .int (Ss.1 0)) hi_X5_append_X5 0 0 0 dX5_append_1 rfl rfl (by decide) fl_X5_append_15 rfl ?_
  refine g_bipush F (v := (6 : Int32)) dX5_append_4 (by decide) ?_
  refine g_icmp_lt F 11 h dX5_append_6 (by decide) (fun h => ?_) (fun h => ?_)
  · refine g_iload_n F dX5_append_11 rfl 2 rfl ?_
    refine g_iconst F (v := (1 : Int32)) dX5_append_12 (by decide) ?_
    refine g_icmp_ne F 31 h dX5_append_13 (by decide) (fun h => ?_) (fun h => ?_)
    · refine g_aload_n F dX5_append_31 rfl 0 rfl ?_
      refine g_dup F dX5_append_32 rfl ?_
      refine g_get F (C := RX5) (T := TX5) (N := 6) (ci := 5) (v := .int (Ss.1 4)) hi_X5_append_X5 0 0 4 dX5_append_33 rfl rfl (by decide) fl_X5_append_22 rfl ?_
      refine g_iconst F (v := (1 : Int32)) dX5_append_36 (by decide) ?_
      refine g_iload_n F dX5_append_37 rfl 1 rfl ?_
      refine g_ishl F dX5_append_38 ?_
      refine g_ior F dX5_append_39 ?_
      refine g_put F (C := RX5) (T := TX5) (N := 6) (ci := 5) (v := .int ((Ss.1 4) ||| ((1 : Int32) <<< (x1 &&& 31)))) (ty := .int) (sg' := [(sSgt cy a ((upd Ss.1 4 ((Ss.1 4) ||| ((1 : Int32) <<< (x1 &&& 31)))), Ss.2))]) hi_X5_append_X5 tyX5 tyX5_ok nmX5 0 0 4 dX5_append_40 rfl rfl (by decide) fl_X5_append_22 rfl rfl rfl rfl (Nat.le_of_ble_eq_true rfl) rfl ?_
      refine g_aload_n F dX5_append_43 rfl 0 rfl ?_
      refine g_dup F dX5_append_44 rfl ?_
      refine g_get F (C := RX5) (T := TX5) (N := 6) (ci := 5) (v := .int (Ss.1 0)) hi_X5_append_X5 0 0 0 dX5_append_45 rfl rfl (by decide) fl_X5_append_15 rfl ?_
      refine g_iconst F (v := (1 : Int32)) dX5_append_48 (by decide) ?_
      refine g_iadd F dX5_append_49 ?_
      refine g_put F (C := RX5) (T := TX5) (N := 6) (ci := 5) (v := .int ((Ss.1 0) + (1 : Int32))) (ty := .int) (sg' := [(sSgt cy a ((upd (upd Ss.1 4 ((Ss.1 4) ||| ((1 : Int32) <<< (x1 &&& 31)))) 0 ((Ss.1 0) + (1 : Int32))), Ss.2))]) hi_X5_append_X5 tyX5 tyX5_ok nmX5 0 0 0 dX5_append_50 rfl rfl (by decide) fl_X5_append_15 rfl rfl rfl rfl (Nat.le_of_ble_eq_true rfl) rfl ?_
      refine g_iconst F (v := (1 : Int32)) dX5_append_53 (by decide) ?_
      obtain rfl := Option.some.inj h
      exact g_zret F Rq rfl rfl dX5_append_54
    · refine g_aload_n F dX5_append_16 rfl 0 rfl ?_
      refine g_dup F dX5_append_17 rfl ?_
      refine g_get F (C := RX5) (T := TX5) (N := 6) (ci := 5) (v := .int (Ss.1 3)) hi_X5_append_X5 0 0 3 dX5_append_18 rfl rfl (by decide) fl_X5_append_19 rfl ?_
      refine g_iconst F (v := (1 : Int32)) dX5_append_21 (by decide) ?_
      refine g_iload_n F dX5_append_22 rfl 1 rfl ?_
      refine g_ishl F dX5_append_23 ?_
      refine g_ior F dX5_append_24 ?_
      refine g_put F (C := RX5) (T := TX5) (N := 6) (ci := 5) (v := .int ((Ss.1 3) ||| ((1 : Int32) <<< (x1 &&& 31)))) (ty := .int) (sg' := [(sSgt cy a ((upd Ss.1 3 ((Ss.1 3) ||| ((1 : Int32) <<< (x1 &&& 31)))), Ss.2))]) hi_X5_append_X5 tyX5 tyX5_ok nmX5 0 0 3 dX5_append_25 rfl rfl (by decide) fl_X5_append_19 rfl rfl rfl rfl (Nat.le_of_ble_eq_true rfl) rfl ?_
      refine g_goto F 43 dX5_append_28 (by decide) ?_
      refine g_aload_n F dX5_append_43 rfl 0 rfl ?_
      refine g_dup F dX5_append_44 rfl ?_
      refine g_get F (C := RX5) (T := TX5) (N := 6) (ci := 5) (v := .int (Ss.1 0)) hi_X5_append_X5 0 0 0 dX5_append_45 rfl rfl (by decide) fl_X5_append_15 rfl ?_
      refine g_iconst F (v := (1 : Int32)) dX5_append_48 (by decide) ?_
      refine g_iadd F dX5_append_49 ?_
      refine g_put F (C := RX5) (T := TX5) (N := 6) (ci := 5) (v := .int ((Ss.1 0) + (1 : Int32))) (ty := .int) (sg' := [(sSgt cy a ((upd (upd Ss.1 3 ((Ss.1 3) ||| ((1 : Int32) <<< (x1 &&& 31)))) 0 ((Ss.1 0) + (1 : Int32))), Ss.2))]) hi_X5_append_X5 tyX5 tyX5_ok nmX5 0 0 0 dX5_append_50 rfl rfl (by decide) fl_X5_append_15 rfl rfl rfl rfl (Nat.le_of_ble_eq_true rfl) rfl ?_
      refine g_iconst F (v := (1 : Int32)) dX5_append_53 (by decide) ?_
      obtain rfl := Option.some.inj h
      exact g_zret F Rq rfl rfl dX5_append_54
  · refine g_iconst F (v := (0 : Int32)) dX5_append_9 (by decide) ?_
    obtain rfl := Option.some.inj h
    exact g_zret F Rq rfl rfl dX5_append_10
theorem hi_X5_takeIfFits_X5 : ∀ w ∈ u_ws RX5 TX5 6, w ∈ wsX5_takeIfFits := by decide +kernel
theorem fl_X5_takeIfFits_19 : Cond.fieldLink RX5 19 "ArcOrder$Sight" "mustMove" "I" ∈ wsX5_takeIfFits := by decide +kernel
theorem fl_X5_takeIfFits_22 : Cond.fieldLink RX5 22 "ArcOrder$Sight" "mustStay" "I" ∈ wsX5_takeIfFits := by decide +kernel
theorem fl_X5_takeIfFits_28 : Cond.fieldLink RX5 28 "ArcOrder$Sight" "first" "I" ∈ wsX5_takeIfFits := by decide +kernel
theorem fl_X5_takeIfFits_25 : Cond.fieldLink RX5 25 "ArcOrder$Sight" "fitting" "I" ∈ wsX5_takeIfFits := by decide +kernel
theorem fl_X5_takeIfFits_9 : Cond.fieldLink RX5 9 "ArcOrder$Sight" "movers" "[I" ∈ wsX5_takeIfFits := by decide +kernel
abbrev rm_X5_takeIfFits : Room := { frames := 0, cells := 0, slots := 0, locals := 0 }
set_option maxHeartbeats 4000000 in
set_option maxRecDepth 100000 in
theorem k_X5_takeIfFits_47_ok {G : GX} {cy : Nat → ClassId} (a : Nat → Nat)  (x2 : Int32)  {out : SgtS} (F : Fx G cX5_takeIfFits wsX5_takeIfFits RX5 cy 4 (rm_X5_takeIfFits)) (Rq : Rx G "takeIfFits" none none (fun z => z = [(sSgt cy a out)]) 0 0) (ke : SgtS → Option (SgtS)) (hke : ∀  (Ss : SgtS), ke Ss = some out → Go G 0 0 73 [] [] [(sSgt cy a Ss)]) : ∀ (n : Nat) (x3 : Int32) (Ss : SgtS), k_X5_takeIfFits_47 x2 ke n x3 Ss = some out → Go G 0 0 47 [(0, .ref (a 0)), (2, .int x2), (3, .int x3)] [] [(sSgt cy a Ss)] := by
  intro n
  induction n with
  | zero =>
    intro x3 Ss h
    exact nosome h
  | succ n ih =>
    intro x3 Ss h
    rw [k_X5_takeIfFits_47.eq_2] at h
    refine g_iload_n F dX5_takeIfFits_47 rfl 2 rfl ?_
    refine g_bipush F (v := (12 : Int32)) dX5_takeIfFits_48 (by decide) ?_
    refine g_icmp_ge F 73 h dX5_takeIfFits_50 (by decide) (fun h => ?_) (fun h => ?_)
    · refine Go.sub (lv' := []) [] rfl ?_
      exact hke Ss h
    · refine g_aload_n F dX5_takeIfFits_53 rfl 0 rfl ?_
      refine g_get F (C := RX5) (T := TX5) (N := 6) (ci := 5) (v := .ref (a 6)) hi_X5_takeIfFits_X5 0 0 5 dX5_takeIfFits_54 rfl rfl (by decide) fl_X5_takeIfFits_9 rfl ?_
      refine g_iload_n F dX5_takeIfFits_57 rfl 2 rfl ?_
      refine g_dup2 F dX5_takeIfFits_58 rfl rfl ?_
      refine g_iaload F h 0 1 dX5_takeIfFits_59 rfl (fun h => ?_)
      refine g_iload_n F dX5_takeIfFits_60 rfl 1 rfl ?_
      refine g_iload_n F dX5_takeIfFits_61 rfl 2 rfl ?_
      refine g_ishr F dX5_takeIfFits_62 ?_
      refine g_iconst F (v := (1 : Int32)) dX5_takeIfFits_63 (by decide) ?_
      refine g_iand F dX5_takeIfFits_64 ?_
      refine g_iadd F dX5_takeIfFits_65 ?_
      refine g_iastore F h (sg' := [(sSgt cy a (Ss.1, (upd Ss.2 (x3).toNatClampNeg ((Ss.2 (x3).toNatClampNeg) + ((x2 >>> (x3 &&& 31)) &&& (1 : Int32))))))]) 0 1 dX5_takeIfFits_66 rfl rfl (fun h => ?_)
      refine g_iinc F (v := (x3 + 1)) (lv' := [(3, .int (x3 + 1)), (0, .ref (a 0)), (2, .int x2)]) dX5_takeIfFits_67 2 rfl rfl (by decide) rfl ?_
      refine g_goto F 47 dX5_takeIfFits_70 (by decide) ?_
      refine Go.sub (lv' := [(0, .ref (a 0)), (2, .int x2), (3, .int (x3 + 1))]) [1, 2, 0] rfl ?_
      exact ih (x3 + 1) (Ss.1, (upd Ss.2 (x3).toNatClampNeg ((Ss.2 (x3).toNatClampNeg) + ((x2 >>> (x3 &&& 31)) &&& (1 : Int32))))) h
set_option maxHeartbeats 4000000 in
set_option maxRecDepth 100000 in
theorem ok_X5_takeIfFits (l : Launch) (D : va_G) (cy : Nat → ClassId) (a : Nat → Nat)  (Ss : SgtS) (x1 : Int32) (x2 : Int32) (out : SgtS) (h : f_X5_takeIfFits Ss x1 x2 = some out) : OK l D cy yX5_takeIfFits wsX5_takeIfFits rm_X5_takeIfFits [.ref (a 0), .int x1, .int x2] [(sSgt cy a Ss)] none [(sSgt cy a out)] := by
  refine OKx.of (cc := cX5_takeIfFits) (maxL := 4) (ret := none) (by decide) rfl (Nat.le_of_ble_eq_true rfl) (fun G F Rq => ?_)
  show Go G 0 0 0 [(0, .ref (a 0)), (1, .int x1), (2, .int x2)] [] [(sSgt cy a Ss)]
  replace F : Fx G cX5_takeIfFits wsX5_takeIfFits RX5 cy 4 (rm_X5_takeIfFits) := F
  replace Rq : Rx G "takeIfFits" none none (fun z => z = [(sSgt cy a out)]) 0 0 := Rq
  unfold f_X5_takeIfFits at h
  refine g_aload_n F dX5_takeIfFits_0 rfl 0 rfl ?_
  refine g_get F (C := RX5) (T := TX5) (N := 6) (ci := 5) (v := .int (Ss.1 3)) hi_X5_takeIfFits_X5 0 0 3 dX5_takeIfFits_1 rfl rfl (by decide) fl_X5_takeIfFits_19 rfl ?_
  refine g_iload_n F dX5_takeIfFits_4 rfl 2 rfl ?_
  refine g_iconst F (v := (-1 : Int32)) dX5_takeIfFits_5 (by decide) ?_
  refine g_ixor F dX5_takeIfFits_6 ?_
  refine g_iand F dX5_takeIfFits_7 ?_
  refine g_if_ne F 20 h dX5_takeIfFits_8 (by decide) (fun h => ?_) (fun h => ?_)
  · obtain rfl := Option.some.inj h
    exact g_vret F Rq rfl dX5_takeIfFits_20
  · refine g_aload_n F dX5_takeIfFits_11 rfl 0 rfl ?_
    refine g_get F (C := RX5) (T := TX5) (N := 6) (ci := 5) (v := .int (Ss.1 4)) hi_X5_takeIfFits_X5 0 0 4 dX5_takeIfFits_12 rfl rfl (by decide) fl_X5_takeIfFits_22 rfl ?_
    refine g_iload_n F dX5_takeIfFits_15 rfl 2 rfl ?_
    refine g_iand F dX5_takeIfFits_16 ?_
    refine g_if_eq F 21 h dX5_takeIfFits_17 (by decide) (fun h => ?_) (fun h => ?_)
    · refine g_aload_n F dX5_takeIfFits_21 rfl 0 rfl ?_
      refine g_get F (C := RX5) (T := TX5) (N := 6) (ci := 5) (v := .int (Ss.1 2)) hi_X5_takeIfFits_X5 0 0 2 dX5_takeIfFits_22 rfl rfl (by decide) fl_X5_takeIfFits_28 rfl ?_
      refine g_bipush F (v := (-9 : Int32)) dX5_takeIfFits_25 (by decide) ?_
      refine g_icmp_ne F 35 h dX5_takeIfFits_27 (by decide) (fun h => ?_) (fun h => ?_)
      · refine g_aload_n F dX5_takeIfFits_35 rfl 0 rfl ?_
        refine g_dup F dX5_takeIfFits_36 rfl ?_
        refine g_get F (C := RX5) (T := TX5) (N := 6) (ci := 5) (v := .int (Ss.1 1)) hi_X5_takeIfFits_X5 0 0 1 dX5_takeIfFits_37 rfl rfl (by decide) fl_X5_takeIfFits_25 rfl ?_
        refine g_iconst F (v := (1 : Int32)) dX5_takeIfFits_40 (by decide) ?_
        refine g_iadd F dX5_takeIfFits_41 ?_
        refine g_put F (C := RX5) (T := TX5) (N := 6) (ci := 5) (v := .int ((Ss.1 1) + (1 : Int32))) (ty := .int) (sg' := [(sSgt cy a ((upd Ss.1 1 ((Ss.1 1) + (1 : Int32))), Ss.2))]) hi_X5_takeIfFits_X5 tyX5 tyX5_ok nmX5 0 0 1 dX5_takeIfFits_42 rfl rfl (by decide) fl_X5_takeIfFits_25 rfl rfl rfl rfl (Nat.le_of_ble_eq_true rfl) rfl ?_
        refine g_iconst F (v := (0 : Int32)) dX5_takeIfFits_45 (by decide) ?_
        refine g_istore_n F (lv' := [(3, .int (0 : Int32)), (0, .ref (a 0)), (1, .int x1), (2, .int x2)]) dX5_takeIfFits_46 rfl (by decide) rfl ?_
        refine Go.sub (lv' := [(0, .ref (a 0)), (2, .int x2), (3, .int (0 : Int32))]) [1, 3, 0] rfl ?_
        refine k_X5_takeIfFits_47_ok a x2 F Rq _ (fun Ss_1 h => ?_) _ (0 : Int32) ((upd Ss.1 1 ((Ss.1 1) + (1 : Int32))), Ss.2) h
        obtain rfl := Option.some.inj h
        exact g_vret F Rq rfl dX5_takeIfFits_73
      · refine g_aload_n F dX5_takeIfFits_30 rfl 0 rfl ?_
        refine g_iload_n F dX5_takeIfFits_31 rfl 1 rfl ?_
        refine g_put F (C := RX5) (T := TX5) (N := 6) (ci := 5) (v := .int x1) (ty := .int) (sg' := [(sSgt cy a ((upd Ss.1 2 x1), Ss.2))]) hi_X5_takeIfFits_X5 tyX5 tyX5_ok nmX5 0 0 2 dX5_takeIfFits_32 rfl rfl (by decide) fl_X5_takeIfFits_28 rfl rfl rfl rfl (Nat.le_of_ble_eq_true rfl) rfl ?_
        refine g_aload_n F dX5_takeIfFits_35 rfl 0 rfl ?_
        refine g_dup F dX5_takeIfFits_36 rfl ?_
        refine g_get F (C := RX5) (T := TX5) (N := 6) (ci := 5) (v := .int (Ss.1 1)) hi_X5_takeIfFits_X5 0 0 1 dX5_takeIfFits_37 rfl rfl (by decide) fl_X5_takeIfFits_25 rfl ?_
        refine g_iconst F (v := (1 : Int32)) dX5_takeIfFits_40 (by decide) ?_
        refine g_iadd F dX5_takeIfFits_41 ?_
        refine g_put F (C := RX5) (T := TX5) (N := 6) (ci := 5) (v := .int ((Ss.1 1) + (1 : Int32))) (ty := .int) (sg' := [(sSgt cy a ((upd (upd Ss.1 2 x1) 1 ((Ss.1 1) + (1 : Int32))), Ss.2))]) hi_X5_takeIfFits_X5 tyX5 tyX5_ok nmX5 0 0 1 dX5_takeIfFits_42 rfl rfl (by decide) fl_X5_takeIfFits_25 rfl rfl rfl rfl (Nat.le_of_ble_eq_true rfl) rfl ?_
        refine g_iconst F (v := (0 : Int32)) dX5_takeIfFits_45 (by decide) ?_
        refine g_istore_n F (lv' := [(3, .int (0 : Int32)), (0, .ref (a 0)), (1, .int x1), (2, .int x2)]) dX5_takeIfFits_46 rfl (by decide) rfl ?_
        refine Go.sub (lv' := [(0, .ref (a 0)), (2, .int x2), (3, .int (0 : Int32))]) [1, 3, 0] rfl ?_
        refine k_X5_takeIfFits_47_ok a x2 F Rq _ (fun Ss_2 h => ?_) _ (0 : Int32) ((upd (upd Ss.1 2 x1) 1 ((Ss.1 1) + (1 : Int32))), Ss.2) h
        obtain rfl := Option.some.inj h
        exact g_vret F Rq rfl dX5_takeIfFits_73
    · obtain rfl := Option.some.inj h
      exact g_vret F Rq rfl dX5_takeIfFits_20
theorem hi_X5_weigh_X5 : ∀ w ∈ u_ws RX5 TX5 6, w ∈ wsX5_weigh := by decide +kernel
theorem fl_X5_weigh_25 : Cond.fieldLink RX5 25 "ArcOrder$Sight" "fitting" "I" ∈ wsX5_weigh := by decide +kernel
theorem fl_X5_weigh_28 : Cond.fieldLink RX5 28 "ArcOrder$Sight" "first" "I" ∈ wsX5_weigh := by decide +kernel
theorem fl_X5_weigh_9 : Cond.fieldLink RX5 9 "ArcOrder$Sight" "movers" "[I" ∈ wsX5_weigh := by decide +kernel
theorem hi_X5_weigh_X3 : ∀ w ∈ u_ws RX3 TX3 7, w ∈ wsX5_weigh := by decide +kernel
theorem fl_X5_weigh_37 : Cond.fieldLink RX5 37 "ArcOrder$Net" "items" "I" ∈ wsX5_weigh := by decide +kernel
theorem ns_X5_weigh_X8_codeOf : Cond.static yX8_codeOf ∈ wsX5_weigh ∧ Cond.initialized yX8_codeOf.cls ∈ wsX5_weigh := by decide +kernel
abbrev rm_X5_weigh : Room := { frames := 3, cells := 0, slots := 0, locals := 69 }
set_option maxHeartbeats 4000000 in
set_option maxRecDepth 100000 in
theorem k_X5_weigh_31_ok {G : GX} {cy : Nat → ClassId} (a : Nat → Nat) (a1 : Nat → Nat)  (x2 : Int32) (N1 : NetS) {out : SgtS} (F : Fx G cX5_weigh wsX5_weigh RX5 cy 4 (rm_X5_weigh)) (Rq : Rx G "weigh" none none (fun z => z = [(sSgt cy a out), (sNet cy a1 N1)]) 0 0) (ke : SgtS → Option (SgtS)) (hke : ∀  (Ss : SgtS), ke Ss = some out → Go G 0 0 69 [(0, .ref (a 0)), (1, .ref (a1 0)), (2, .int x2)] [] [(sSgt cy a Ss), (sNet cy a1 N1)]) : ∀ (n : Nat) (x3 : Int32) (Ss : SgtS), k_X5_weigh_31 x2 N1 ke n x3 Ss = some out → Go G 0 0 31 [(0, .ref (a 0)), (1, .ref (a1 0)), (2, .int x2), (3, .int x3)] [] [(sSgt cy a Ss), (sNet cy a1 N1)] := by
  intro n
  induction n with
  | zero =>
    intro x3 Ss h
    exact nosome h
  | succ n ih =>
    intro x3 Ss h
    rw [k_X5_weigh_31.eq_2] at h
    refine g_iload_n F dX5_weigh_31 rfl 3 rfl ?_
    refine g_aload_n F dX5_weigh_32 rfl 1 rfl ?_
    refine g_get F (C := RX3) (T := TX3) (N := 7) (ci := 3) (v := .int N1.1) hi_X5_weigh_X3 1 0 0 dX5_weigh_33 rfl rfl (by decide) fl_X5_weigh_37 rfl ?_
    refine g_icmp_ge F 69 h dX5_weigh_36 (by decide) (fun h => ?_) (fun h => ?_)
    · refine Go.sub (lv' := [(0, .ref (a 0)), (1, .ref (a1 0)), (2, .int x2)]) [0, 1, 2] rfl ?_
      exact hke Ss h
    · refine g_aload_n F dX5_weigh_39 rfl 1 rfl ?_
      refine g_iload_n F dX5_weigh_40 rfl 2 rfl ?_
      refine g_iload_n F dX5_weigh_41 rfl 3 rfl ?_
      obtain ⟨r2, hr2, h⟩ := bnd h
      refine g_cV F [.int x2, .int x3] 0 0 (ok_X3_canTake (gl G) (gD G) cy a1 N1 x2 x3 r2 hr2) dX5_weigh_42 rfl rfl gX5_weigh_X3_canTake rfl ⟨rfl, cd_X3_canTake⟩ (by decide) rfl (Nat.le_of_ble_eq_true rfl) [1] (by decide) rfl rfl (sg' := [(sSgt cy a Ss), (sNet cy a1 N1)]) (st' := [.int r2]) rfl rfl ?_
      refine g_if_eq F 63 h dX5_weigh_45 (by decide) (fun h => ?_) (fun h => ?_)
      · refine g_iinc F (v := (x3 + 1)) (lv' := [(3, .int (x3 + 1)), (0, .ref (a 0)), (1, .ref (a1 0)), (2, .int x2)]) dX5_weigh_63 3 rfl rfl (by decide) rfl ?_
        refine g_goto F 31 dX5_weigh_66 (by decide) ?_
        refine Go.sub (lv' := [(0, .ref (a 0)), (1, .ref (a1 0)), (2, .int x2), (3, .int (x3 + 1))]) [1, 2, 3, 0] rfl ?_
        exact ih (x3 + 1) Ss h
      · refine g_aload_n F dX5_weigh_48 rfl 0 rfl ?_
        refine g_iload_n F dX5_weigh_49 rfl 2 rfl ?_
        refine g_iload_n F dX5_weigh_50 rfl 3 rfl ?_
        obtain ⟨r3, hr3, h⟩ := bnd h
        refine g_cSN F [.int x2, .int x3] (ok_X8_codeOf (gl G) (gD G) cy x2 x3 r3 hr3) dX5_weigh_51 gX5_weigh_X8_codeOf_n46 ns_X5_weigh_X8_codeOf (fun _ h => h.2.2.2.2.2.2.2.2.1) rfl cd_X8_codeOf (by decide) rfl (Nat.le_of_ble_eq_true rfl) [] (by decide) rfl rfl (sg' := [(sSgt cy a Ss), (sNet cy a1 N1)]) (st' := [.int r3, .ref (a 0)]) rfl rfl ?_
        refine g_aload_n F dX5_weigh_54 rfl 1 rfl ?_
        refine g_iload_n F dX5_weigh_55 rfl 2 rfl ?_
        refine g_iload_n F dX5_weigh_56 rfl 3 rfl ?_
        obtain ⟨r4, hr4, h⟩ := bnd h
        refine g_cV F [.int x2, .int x3] 0 0 (ok_X3_movedBy (gl G) (gD G) cy a1 N1 x2 x3 r4 hr4) dX5_weigh_57 rfl rfl gX5_weigh_X3_movedBy rfl ⟨rfl, cd_X3_movedBy⟩ (by decide) rfl (Nat.le_of_ble_eq_true rfl) [1] (by decide) rfl rfl (sg' := [(sSgt cy a Ss), (sNet cy a1 N1)]) (st' := [.int r4, .int r3, .ref (a 0)]) rfl rfl ?_
        obtain ⟨r5, hr5, h⟩ := bnd h
        refine g_cV F [.int r3, .int r4] 0 0 (ok_X5_takeIfFits (gl G) (gD G) cy a Ss r3 r4 r5 hr5) dX5_weigh_60 rfl rfl gX5_weigh_X5_takeIfFits rfl ⟨rfl, cd_X5_takeIfFits⟩ (by decide) rfl (Nat.le_of_ble_eq_true rfl) [0] (by decide) rfl rfl (sg' := [(sSgt cy a r5), (sNet cy a1 N1)]) (st' := []) rfl rfl ?_
        refine g_iinc F (v := (x3 + 1)) (lv' := [(3, .int (x3 + 1)), (0, .ref (a 0)), (1, .ref (a1 0)), (2, .int x2)]) dX5_weigh_63 3 rfl rfl (by decide) rfl ?_
        refine g_goto F 31 dX5_weigh_66 (by decide) ?_
        refine Go.sub (lv' := [(0, .ref (a 0)), (1, .ref (a1 0)), (2, .int x2), (3, .int (x3 + 1))]) [1, 2, 3, 0] rfl ?_
        exact ih (x3 + 1) r5 h
set_option maxHeartbeats 4000000 in
set_option maxRecDepth 100000 in
theorem k_X5_weigh_21_ok {G : GX} {cy : Nat → ClassId} (a : Nat → Nat) (a1 : Nat → Nat)   (N1 : NetS) {out : SgtS} (F : Fx G cX5_weigh wsX5_weigh RX5 cy 4 (rm_X5_weigh)) (Rq : Rx G "weigh" none none (fun z => z = [(sSgt cy a out), (sNet cy a1 N1)]) 0 0) (ke : SgtS → Option (SgtS)) (hke : ∀  (Ss : SgtS), ke Ss = some out → Go G 0 0 75 [] [] [(sSgt cy a Ss), (sNet cy a1 N1)]) : ∀ (n : Nat) (x2 : Int32) (Ss : SgtS), k_X5_weigh_21 N1 ke n x2 Ss = some out → Go G 0 0 21 [(0, .ref (a 0)), (1, .ref (a1 0)), (2, .int x2)] [] [(sSgt cy a Ss), (sNet cy a1 N1)] := by
  intro n
  induction n with
  | zero =>
    intro x2 Ss h
    exact nosome h
  | succ n ih =>
    intro x2 Ss h
    rw [k_X5_weigh_21.eq_2] at h
    refine g_iload_n F dX5_weigh_21 rfl 2 rfl ?_
    refine g_aload_n F dX5_weigh_22 rfl 1 rfl ?_
    refine g_get F (C := RX3) (T := TX3) (N := 7) (ci := 3) (v := .int N1.1) hi_X5_weigh_X3 1 0 0 dX5_weigh_23 rfl rfl (by decide) fl_X5_weigh_37 rfl ?_
    refine g_icmp_ge F 75 h dX5_weigh_26 (by decide) (fun h => ?_) (fun h => ?_)
    · refine Go.sub (lv' := []) [] rfl ?_
      exact hke Ss h
    · refine g_iconst F (v := (0 : Int32)) dX5_weigh_29 (by decide) ?_
      refine g_istore_n F (lv' := [(3, .int (0 : Int32)), (0, .ref (a 0)), (1, .ref (a1 0)), (2, .int x2)]) dX5_weigh_30 rfl (by decide) rfl ?_
      refine Go.sub (lv' := [(0, .ref (a 0)), (1, .ref (a1 0)), (2, .int x2), (3, .int (0 : Int32))]) [1, 2, 3, 0] rfl ?_
      refine k_X5_weigh_31_ok a a1 x2 N1 F Rq _ (fun Ss_6 h => ?_) _ (0 : Int32) Ss h
      refine g_iinc F (v := (x2 + 1)) (lv' := [(2, .int (x2 + 1)), (0, .ref (a 0)), (1, .ref (a1 0))]) dX5_weigh_69 2 rfl rfl (by decide) rfl ?_
      refine g_goto F 21 dX5_weigh_72 (by decide) ?_
      refine Go.sub (lv' := [(0, .ref (a 0)), (1, .ref (a1 0)), (2, .int (x2 + 1))]) [1, 2, 0] rfl ?_
      exact ih (x2 + 1) Ss_6 h
set_option maxHeartbeats 4000000 in
set_option maxRecDepth 100000 in
theorem ok_X5_weigh (l : Launch) (D : va_G) (cy : Nat → ClassId) (a : Nat → Nat) (a1 : Nat → Nat)  (Ss : SgtS) (N1 : NetS)  (out : SgtS) (h : f_X5_weigh Ss N1 = some out) : OK l D cy yX5_weigh wsX5_weigh rm_X5_weigh [.ref (a 0), .ref (a1 0)] [(sSgt cy a Ss), (sNet cy a1 N1)] none [(sSgt cy a out), (sNet cy a1 N1)] := by
  refine OKx.of (cc := cX5_weigh) (maxL := 4) (ret := none) (by decide) rfl (Nat.le_of_ble_eq_true rfl) (fun G F Rq => ?_)
  show Go G 0 0 0 [(0, .ref (a 0)), (1, .ref (a1 0))] [] [(sSgt cy a Ss), (sNet cy a1 N1)]
  replace F : Fx G cX5_weigh wsX5_weigh RX5 cy 4 (rm_X5_weigh) := F
  replace Rq : Rx G "weigh" none none (fun z => z = [(sSgt cy a out), (sNet cy a1 N1)]) 0 0 := Rq
  unfold f_X5_weigh at h
  refine g_aload_n F dX5_weigh_0 rfl 0 rfl ?_
  refine g_iconst F (v := (0 : Int32)) dX5_weigh_1 (by decide) ?_
  refine g_put F (C := RX5) (T := TX5) (N := 6) (ci := 5) (v := .int (0 : Int32)) (ty := .int) (sg' := [(sSgt cy a ((upd Ss.1 1 (0 : Int32)), Ss.2)), (sNet cy a1 N1)]) hi_X5_weigh_X5 tyX5 tyX5_ok nmX5 0 0 1 dX5_weigh_2 rfl rfl (by decide) fl_X5_weigh_25 rfl rfl rfl rfl (Nat.le_of_ble_eq_true rfl) rfl ?_
  refine g_aload_n F dX5_weigh_5 rfl 0 rfl ?_
  refine g_bipush F (v := (-9 : Int32)) dX5_weigh_6 (by decide) ?_
  refine g_put F (C := RX5) (T := TX5) (N := 6) (ci := 5) (v := .int (-9 : Int32)) (ty := .int) (sg' := [(sSgt cy a ((upd (upd Ss.1 1 (0 : Int32)) 2 (-9 : Int32)), Ss.2)), (sNet cy a1 N1)]) hi_X5_weigh_X5 tyX5 tyX5_ok nmX5 0 0 2 dX5_weigh_8 rfl rfl (by decide) fl_X5_weigh_28 rfl rfl rfl rfl (Nat.le_of_ble_eq_true rfl) rfl ?_
  refine g_aload_n F dX5_weigh_11 rfl 0 rfl ?_
  refine g_get F (C := RX5) (T := TX5) (N := 6) (ci := 5) (v := .ref (a 6)) hi_X5_weigh_X5 0 0 5 dX5_weigh_12 rfl rfl (by decide) fl_X5_weigh_9 rfl ?_
  refine g_iconst F (v := (0 : Int32)) dX5_weigh_15 (by decide) ?_
  obtain ⟨r1, hr1, h⟩ := bnd h
  refine Go.world (sg' := [(sSgt cy a ((upd (upd Ss.1 1 (0 : Int32)) 2 (-9 : Int32)), Ss.2)).take 1, (sI cy (a 6) 12 Ss.2), (sNet cy a1 N1)]) rfl ?_
  refine g_cS F [.ref (a 6), .int (0 : Int32)] (ok_J7_fill_53178 (gl G) (gD G) cy (a 6) 12 Ss.2 (0 : Int32) r1 hr1) dX5_weigh_16 gX5_weigh_J7_fill_53178 rfl cd_J7_fill_53178 (by decide) rfl (Nat.le_of_ble_eq_true rfl) [1] (by decide) rfl rfl (sg' := [(sSgt cy a ((upd (upd Ss.1 1 (0 : Int32)) 2 (-9 : Int32)), r1)).take 1, (sI cy (a 6) 12 r1), (sNet cy a1 N1)]) (st' := []) rfl rfl ?_
  refine Go.world (sg' := [(sSgt cy a ((upd (upd Ss.1 1 (0 : Int32)) 2 (-9 : Int32)), r1)), (sNet cy a1 N1)]) rfl ?_
  refine g_iconst F (v := (0 : Int32)) dX5_weigh_19 (by decide) ?_
  refine g_istore_n F (lv' := [(2, .int (0 : Int32)), (0, .ref (a 0)), (1, .ref (a1 0))]) dX5_weigh_20 rfl (by decide) rfl ?_
  refine Go.sub (lv' := [(0, .ref (a 0)), (1, .ref (a1 0)), (2, .int (0 : Int32))]) [1, 2, 0] rfl ?_
  refine k_X5_weigh_21_ok a a1 N1 F Rq _ (fun Ss_7 h => ?_) _ (0 : Int32) ((upd (upd Ss.1 1 (0 : Int32)) 2 (-9 : Int32)), r1) h
  obtain rfl := Option.some.inj h
  exact g_vret F Rq rfl dX5_weigh_75
theorem hi_X5_bestItem_X5 : ∀ w ∈ u_ws RX5 TX5 6, w ∈ wsX5_bestItem := by decide +kernel
theorem fl_X5_bestItem_25 : Cond.fieldLink RX5 25 "ArcOrder$Sight" "fitting" "I" ∈ wsX5_bestItem := by decide +kernel
theorem hi_X5_bestItem_X3 : ∀ w ∈ u_ws RX3 TX3 7, w ∈ wsX5_bestItem := by decide +kernel
theorem fl_X5_bestItem_37 : Cond.fieldLink RX5 37 "ArcOrder$Net" "items" "I" ∈ wsX5_bestItem := by decide +kernel
theorem fl_X5_bestItem_9 : Cond.fieldLink RX5 9 "ArcOrder$Sight" "movers" "[I" ∈ wsX5_bestItem := by decide +kernel
theorem mm_X5_bestItem_max : Cond.methodLink RX5 57 Lib.Math.max.name ∈ wsX5_bestItem ∧ Cond.static Lib.Math.max.name ∈ wsX5_bestItem ∧ Cond.initialized "java/lang/Math" ∈ wsX5_bestItem ∧ Cond.code Lib.Math.max.name Lib.Math.max.code 2 (some .int) ∈ wsX5_bestItem := by decide +kernel
abbrev rm_X5_bestItem : Room := { frames := 1, cells := 0, slots := 0, locals := 40 }
set_option maxHeartbeats 4000000 in
set_option maxRecDepth 100000 in
theorem k_X5_bestItem_24_ok {G : GX} {cy : Nat → ClassId} (a : Nat → Nat) (a1 : Nat → Nat)   (Ss : SgtS) (N1 : NetS) {out : Int32} (F : Fx G cX5_bestItem wsX5_bestItem RX5 cy 6 (rm_X5_bestItem)) (Rq : Rx G "bestItem" (some .int) (some (.int out)) (fun z => z = [(sSgt cy a Ss), (sNet cy a1 N1)]) 0 0) (ke : Int32 → Option (Int32)) (hke : ∀ (x2 : Int32) , ke x2 = some out → Go G 0 0 75 [(2, .int x2)] [] [(sSgt cy a Ss), (sNet cy a1 N1)]) : ∀ (n : Nat) (x2 : Int32) (x3 : Int32) (x4 : Int32) , k_X5_bestItem_24 Ss N1 ke n x2 x3 x4 = some out → Go G 0 0 24 [(0, .ref (a 0)), (1, .ref (a1 0)), (2, .int x2), (3, .int x3), (4, .int x4)] [] [(sSgt cy a Ss), (sNet cy a1 N1)] := by
  intro n
  induction n with
  | zero =>
    intro x2 x3 x4 h
    exact nosome h
  | succ n ih =>
    intro x2 x3 x4 h
    rw [k_X5_bestItem_24.eq_2] at h
    refine g_iload F dX5_bestItem_24 4 rfl ?_
    refine g_aload_n F dX5_bestItem_26 rfl 1 rfl ?_
    refine g_get F (C := RX3) (T := TX3) (N := 7) (ci := 3) (v := .int N1.1) hi_X5_bestItem_X3 1 0 0 dX5_bestItem_27 rfl rfl (by decide) fl_X5_bestItem_37 rfl ?_
    refine g_icmp_ge F 75 h dX5_bestItem_30 (by decide) (fun h => ?_) (fun h => ?_)
    · refine Go.sub (lv' := [(2, .int x2)]) [2] rfl ?_
      exact hke x2 h
    · refine g_aload_n F dX5_bestItem_33 rfl 0 rfl ?_
      refine g_get F (C := RX5) (T := TX5) (N := 6) (ci := 5) (v := .ref (a 6)) hi_X5_bestItem_X5 0 0 5 dX5_bestItem_34 rfl rfl (by decide) fl_X5_bestItem_9 rfl ?_
      refine g_iload F dX5_bestItem_37 4 rfl ?_
      refine g_iaload F h 0 1 dX5_bestItem_39 rfl (fun h => ?_)
      refine g_aload_n F dX5_bestItem_40 rfl 0 rfl ?_
      refine g_get F (C := RX5) (T := TX5) (N := 6) (ci := 5) (v := .int (Ss.1 1)) hi_X5_bestItem_X5 0 0 1 dX5_bestItem_41 rfl rfl (by decide) fl_X5_bestItem_25 rfl ?_
      refine g_aload_n F dX5_bestItem_44 rfl 0 rfl ?_
      refine g_get F (C := RX5) (T := TX5) (N := 6) (ci := 5) (v := .ref (a 6)) hi_X5_bestItem_X5 0 0 5 dX5_bestItem_45 rfl rfl (by decide) fl_X5_bestItem_9 rfl ?_
      refine g_iload F dX5_bestItem_48 4 rfl ?_
      refine g_iaload F h 0 1 dX5_bestItem_50 rfl (fun h => ?_)
      refine g_isub F dX5_bestItem_51 ?_
      refine g_mmax F dX5_bestItem_52 mm_X5_bestItem_max ⟨by decide, Nat.le_of_ble_eq_true rfl, by decide, by decide⟩ ?_
      refine g_istore F (lv' := [(5, .int (imax (Ss.2 (x4).toNatClampNeg) ((Ss.1 1) - (Ss.2 (x4).toNatClampNeg)))), (0, .ref (a 0)), (1, .ref (a1 0)), (2, .int x2), (3, .int x3), (4, .int x4)]) dX5_bestItem_55 (by decide) rfl ?_
      refine g_iload F dX5_bestItem_57 0 rfl ?_
      refine g_iload_n F dX5_bestItem_59 rfl 4 rfl ?_
      refine g_icmp_ge F 69 h dX5_bestItem_60 (by decide) (fun h => ?_) (fun h => ?_)
      · refine g_iinc F (v := (x4 + 1)) (lv' := [(4, .int (x4 + 1)), (5, .int (imax (Ss.2 (x4).toNatClampNeg) ((Ss.1 1) - (Ss.2 (x4).toNatClampNeg)))), (0, .ref (a 0)), (1, .ref (a1 0)), (2, .int x2), (3, .int x3)]) dX5_bestItem_69 5 rfl rfl (by decide) rfl ?_
        refine g_goto F 24 dX5_bestItem_72 (by decide) ?_
        refine Go.sub (lv' := [(0, .ref (a 0)), (1, .ref (a1 0)), (2, .int x2), (3, .int x3), (4, .int (x4 + 1))]) [2, 3, 4, 5, 0] rfl ?_
        exact ih x2 x3 (x4 + 1) h
      · refine g_iload F dX5_bestItem_63 0 rfl ?_
        refine g_istore_n F (lv' := [(3, .int (imax (Ss.2 (x4).toNatClampNeg) ((Ss.1 1) - (Ss.2 (x4).toNatClampNeg)))), (5, .int (imax (Ss.2 (x4).toNatClampNeg) ((Ss.1 1) - (Ss.2 (x4).toNatClampNeg)))), (0, .ref (a 0)), (1, .ref (a1 0)), (2, .int x2), (4, .int x4)]) dX5_bestItem_65 rfl (by decide) rfl ?_
        refine g_iload F dX5_bestItem_66 5 rfl ?_
        refine g_istore_n F (lv' := [(2, .int x4), (3, .int (imax (Ss.2 (x4).toNatClampNeg) ((Ss.1 1) - (Ss.2 (x4).toNatClampNeg)))), (5, .int (imax (Ss.2 (x4).toNatClampNeg) ((Ss.1 1) - (Ss.2 (x4).toNatClampNeg)))), (0, .ref (a 0)), (1, .ref (a1 0)), (4, .int x4)]) dX5_bestItem_68 rfl (by decide) rfl ?_
        refine g_iinc F (v := (x4 + 1)) (lv' := [(4, .int (x4 + 1)), (2, .int x4), (3, .int (imax (Ss.2 (x4).toNatClampNeg) ((Ss.1 1) - (Ss.2 (x4).toNatClampNeg)))), (5, .int (imax (Ss.2 (x4).toNatClampNeg) ((Ss.1 1) - (Ss.2 (x4).toNatClampNeg)))), (0, .ref (a 0)), (1, .ref (a1 0))]) dX5_bestItem_69 5 rfl rfl (by decide) rfl ?_
        refine g_goto F 24 dX5_bestItem_72 (by decide) ?_
        refine Go.sub (lv' := [(0, .ref (a 0)), (1, .ref (a1 0)), (2, .int x4), (3, .int (imax (Ss.2 (x4).toNatClampNeg) ((Ss.1 1) - (Ss.2 (x4).toNatClampNeg)))), (4, .int (x4 + 1))]) [4, 5, 1, 2, 0] rfl ?_
        exact ih x4 (imax (Ss.2 (x4).toNatClampNeg) ((Ss.1 1) - (Ss.2 (x4).toNatClampNeg))) (x4 + 1) h
set_option maxHeartbeats 4000000 in
set_option maxRecDepth 100000 in
theorem ok_X5_bestItem (l : Launch) (D : va_G) (cy : Nat → ClassId) (a : Nat → Nat) (a1 : Nat → Nat)  (Ss : SgtS) (N1 : NetS)  (out : Int32) (h : f_X5_bestItem Ss N1 = some out) : OK l D cy yX5_bestItem wsX5_bestItem rm_X5_bestItem [.ref (a 0), .ref (a1 0)] [(sSgt cy a Ss), (sNet cy a1 N1)] (some (.int out)) [(sSgt cy a Ss), (sNet cy a1 N1)] := by
  refine OKx.of (cc := cX5_bestItem) (maxL := 6) (ret := (some .int)) (by decide) rfl (Nat.le_of_ble_eq_true rfl) (fun G F Rq => ?_)
  show Go G 0 0 0 [(0, .ref (a 0)), (1, .ref (a1 0))] [] [(sSgt cy a Ss), (sNet cy a1 N1)]
  replace F : Fx G cX5_bestItem wsX5_bestItem RX5 cy 6 (rm_X5_bestItem) := F
  replace Rq : Rx G "bestItem" (some .int) (some (.int out)) (fun z => z = [(sSgt cy a Ss), (sNet cy a1 N1)]) 0 0 := Rq
  unfold f_X5_bestItem at h
  refine g_aload_n F dX5_bestItem_0 rfl 0 rfl ?_
  refine g_get F (C := RX5) (T := TX5) (N := 6) (ci := 5) (v := .int (Ss.1 1)) hi_X5_bestItem_X5 0 0 1 dX5_bestItem_1 rfl rfl (by decide) fl_X5_bestItem_25 rfl ?_
  refine g_iconst F (v := (1 : Int32)) dX5_bestItem_4 (by decide) ?_
  refine g_icmp_gt F 11 h dX5_bestItem_5 (by decide) (fun h => ?_) (fun h => ?_)
  · refine g_bipush F (v := (-9 : Int32)) dX5_bestItem_11 (by decide) ?_
    refine g_istore_n F (lv' := [(2, .int (-9 : Int32)), (0, .ref (a 0)), (1, .ref (a1 0))]) dX5_bestItem_13 rfl (by decide) rfl ?_
    refine g_aload_n F dX5_bestItem_14 rfl 1 rfl ?_
    refine g_get F (C := RX5) (T := TX5) (N := 6) (ci := 5) (v := .int (Ss.1 1)) hi_X5_bestItem_X5 0 0 1 dX5_bestItem_15 rfl rfl (by decide) fl_X5_bestItem_25 rfl ?_
    refine g_iconst F (v := (1 : Int32)) dX5_bestItem_18 (by decide) ?_
    refine g_iadd F dX5_bestItem_19 ?_
    refine g_istore_n F (lv' := [(3, .int ((Ss.1 1) + (1 : Int32))), (2, .int (-9 : Int32)), (0, .ref (a 0)), (1, .ref (a1 0))]) dX5_bestItem_20 rfl (by decide) rfl ?_
    refine g_iconst F (v := (0 : Int32)) dX5_bestItem_21 (by decide) ?_
    refine g_istore F (lv' := [(4, .int (0 : Int32)), (3, .int ((Ss.1 1) + (1 : Int32))), (2, .int (-9 : Int32)), (0, .ref (a 0)), (1, .ref (a1 0))]) dX5_bestItem_22 (by decide) rfl ?_
    refine Go.sub (lv' := [(0, .ref (a 0)), (1, .ref (a1 0)), (2, .int (-9 : Int32)), (3, .int ((Ss.1 1) + (1 : Int32))), (4, .int (0 : Int32))]) [3, 4, 2, 1, 0] rfl ?_
    refine k_X5_bestItem_24_ok a a1 Ss N1 F Rq _ (fun x2_1 h => ?_) _ (-9 : Int32) ((Ss.1 1) + (1 : Int32)) (0 : Int32) h
    refine g_iload_n F dX5_bestItem_75 rfl 0 rfl ?_
    obtain rfl := Option.some.inj h
    exact g_iret F Rq rfl dX5_bestItem_76
  · refine g_bipush F (v := (-9 : Int32)) dX5_bestItem_8 (by decide) ?_
    obtain rfl := Option.some.inj h
    exact g_iret F Rq rfl dX5_bestItem_10
theorem hi_X6_waysOn_X3 : ∀ w ∈ u_ws RX3 TX3 7, w ∈ wsX6_waysOn := by decide +kernel
theorem fl_X6_waysOn_42 : Cond.fieldLink RX6 42 "ArcOrder$Net" "items" "I" ∈ wsX6_waysOn := by decide +kernel
theorem hi_X6_waysOn_X6 : ∀ w ∈ u_ws RX6 TX6 3, w ∈ wsX6_waysOn := by decide +kernel
theorem fl_X6_waysOn_9 : Cond.fieldLink RX6 9 "ArcOrder$Tally" "ways" "[J" ∈ wsX6_waysOn := by decide +kernel
abbrev rm_X6_waysOn : Room := { frames := 2, cells := 0, slots := 0, locals := 43 }
set_option maxHeartbeats 4000000 in
set_option maxRecDepth 100000 in
theorem k_X6_waysOn_5_ok {G : GX} {cy : Nat → ClassId} (a : Nat → Nat) (a1 : Nat → Nat)  (x2 : Int32) (Ww : TalS) (N1 : NetS) {out : Int64} (F : Fx G cX6_waysOn wsX6_waysOn RX6 cy 6 (rm_X6_waysOn)) (Rq : Rx G "waysOn" (some .long) (some (.long out)) (fun z => z = [(sTal cy a Ww), (sNet cy a1 N1)]) 0 0) (ke : Int64 → Option (Int64)) (hke : ∀ (x3 : Int64) , ke x3 = some out → Go G 0 0 44 [(3, .long x3)] [] [(sTal cy a Ww), (sNet cy a1 N1)]) : ∀ (n : Nat) (x3 : Int64) (x5 : Int32) , k_X6_waysOn_5 x2 Ww N1 ke n x3 x5 = some out → Go G 0 0 5 [(0, .ref (a 0)), (1, .ref (a1 0)), (2, .int x2), (3, .long x3), (5, .int x5)] [] [(sTal cy a Ww), (sNet cy a1 N1)] := by
  intro n
  induction n with
  | zero =>
    intro x3 x5 h
    exact nosome h
  | succ n ih =>
    intro x3 x5 h
    rw [k_X6_waysOn_5.eq_2] at h
    refine g_iload F dX6_waysOn_5 4 rfl ?_
    refine g_aload_n F dX6_waysOn_7 rfl 1 rfl ?_
    refine g_get F (C := RX3) (T := TX3) (N := 7) (ci := 3) (v := .int N1.1) hi_X6_waysOn_X3 1 0 0 dX6_waysOn_8 rfl rfl (by decide) fl_X6_waysOn_42 rfl ?_
    refine g_icmp_ge F 44 h dX6_waysOn_11 (by decide) (fun h => ?_) (fun h => ?_)
    · refine Go.sub (lv' := [(3, .long x3)]) [3] rfl ?_
      exact hke x3 h
    · refine g_aload_n F dX6_waysOn_14 rfl 1 rfl ?_
      refine g_iload F dX6_waysOn_15 4 rfl ?_
      refine g_iload_n F dX6_waysOn_17 rfl 2 rfl ?_
      obtain ⟨r1, hr1, h⟩ := bnd h
      refine g_cV F [.int x5, .int x2] 0 0 (ok_X3_isReady (gl G) (gD G) cy a1 N1 x5 x2 r1 hr1) dX6_waysOn_18 rfl rfl gX6_waysOn_X3_isReady rfl ⟨rfl, cd_X3_isReady⟩ (by decide) rfl (Nat.le_of_ble_eq_true rfl) [1] (by decide) rfl rfl (sg' := [(sTal cy a Ww), (sNet cy a1 N1)]) (st' := [.int r1]) rfl rfl ?_
      refine g_if_eq F 38 h dX6_waysOn_21 (by decide) (fun h => ?_) (fun h => ?_)
      · refine g_iinc F (v := (x5 + 1)) (lv' := [(5, .int (x5 + 1)), (0, .ref (a 0)), (1, .ref (a1 0)), (2, .int x2), (3, .long x3)]) dX6_waysOn_38 4 rfl rfl (by decide) rfl ?_
        refine g_goto F 5 dX6_waysOn_41 (by decide) ?_
        refine Go.sub (lv' := [(0, .ref (a 0)), (1, .ref (a1 0)), (2, .int x2), (3, .long x3), (5, .int (x5 + 1))]) [1, 2, 3, 4, 0] rfl ?_
        exact ih x3 (x5 + 1) h
      · refine g_lload_n F dX6_waysOn_24 rfl 3 rfl ?_
        refine g_aload_n F dX6_waysOn_25 rfl 0 rfl ?_
        refine g_get F (C := RX6) (T := TX6) (N := 3) (ci := 6) (v := .ref (a 1)) hi_X6_waysOn_X6 0 0 0 dX6_waysOn_26 rfl rfl (by decide) fl_X6_waysOn_9 rfl ?_
        refine g_iload_n F dX6_waysOn_29 rfl 2 rfl ?_
        refine g_iconst F (v := (1 : Int32)) dX6_waysOn_30 (by decide) ?_
        refine g_iload F dX6_waysOn_31 4 rfl ?_
        refine g_ishl F dX6_waysOn_33 ?_
        refine g_ior F dX6_waysOn_34 ?_
        refine g_laload F h 0 1 dX6_waysOn_35 rfl (fun h => ?_)
        refine g_ladd F dX6_waysOn_36 ?_
        refine g_lstore_n F (lv' := [(3, .long (x3 + (Ww.2 ((x2 ||| ((1 : Int32) <<< (x5 &&& 31)))).toNatClampNeg))), (0, .ref (a 0)), (1, .ref (a1 0)), (2, .int x2), (5, .int x5)]) dX6_waysOn_37 rfl (by decide) rfl ?_
        refine g_iinc F (v := (x5 + 1)) (lv' := [(5, .int (x5 + 1)), (3, .long (x3 + (Ww.2 ((x2 ||| ((1 : Int32) <<< (x5 &&& 31)))).toNatClampNeg))), (0, .ref (a 0)), (1, .ref (a1 0)), (2, .int x2)]) dX6_waysOn_38 4 rfl rfl (by decide) rfl ?_
        refine g_goto F 5 dX6_waysOn_41 (by decide) ?_
        refine Go.sub (lv' := [(0, .ref (a 0)), (1, .ref (a1 0)), (2, .int x2), (3, .long (x3 + (Ww.2 ((x2 ||| ((1 : Int32) <<< (x5 &&& 31)))).toNatClampNeg))), (5, .int (x5 + 1))]) [2, 3, 4, 1, 0] rfl ?_
        exact ih (x3 + (Ww.2 ((x2 ||| ((1 : Int32) <<< (x5 &&& 31)))).toNatClampNeg)) (x5 + 1) h
set_option maxHeartbeats 4000000 in
set_option maxRecDepth 100000 in
theorem ok_X6_waysOn (l : Launch) (D : va_G) (cy : Nat → ClassId) (a : Nat → Nat) (a1 : Nat → Nat)  (Ww : TalS) (N1 : NetS) (x2 : Int32) (out : Int64) (h : f_X6_waysOn Ww N1 x2 = some out) : OK l D cy yX6_waysOn wsX6_waysOn rm_X6_waysOn [.ref (a 0), .ref (a1 0), .int x2] [(sTal cy a Ww), (sNet cy a1 N1)] (some (.long out)) [(sTal cy a Ww), (sNet cy a1 N1)] := by
  refine OKx.of (cc := cX6_waysOn) (maxL := 6) (ret := (some .long)) (by decide) rfl (Nat.le_of_ble_eq_true rfl) (fun G F Rq => ?_)
  show Go G 0 0 0 [(0, .ref (a 0)), (1, .ref (a1 0)), (2, .int x2)] [] [(sTal cy a Ww), (sNet cy a1 N1)]
  replace F : Fx G cX6_waysOn wsX6_waysOn RX6 cy 6 (rm_X6_waysOn) := F
  replace Rq : Rx G "waysOn" (some .long) (some (.long out)) (fun z => z = [(sTal cy a Ww), (sNet cy a1 N1)]) 0 0 := Rq
  unfold f_X6_waysOn at h
  refine g_lconst F (v := (0 : Int64)) dX6_waysOn_0 (by decide) ?_
  refine g_lstore_n F (lv' := [(3, .long (0 : Int64)), (0, .ref (a 0)), (1, .ref (a1 0)), (2, .int x2)]) dX6_waysOn_1 rfl (by decide) rfl ?_
  refine g_iconst F (v := (0 : Int32)) dX6_waysOn_2 (by decide) ?_
  refine g_istore F (lv' := [(5, .int (0 : Int32)), (3, .long (0 : Int64)), (0, .ref (a 0)), (1, .ref (a1 0)), (2, .int x2)]) dX6_waysOn_3 (by decide) rfl ?_
  refine Go.sub (lv' := [(0, .ref (a 0)), (1, .ref (a1 0)), (2, .int x2), (3, .long (0 : Int64)), (5, .int (0 : Int32))]) [2, 3, 4, 1, 0] rfl ?_
  refine k_X6_waysOn_5_ok a a1 x2 Ww N1 F Rq _ (fun x3_2 h => ?_) _ (0 : Int64) (0 : Int32) h
  refine g_lload_n F dX6_waysOn_44 rfl 0 rfl ?_
  obtain rfl := Option.some.inj h
  exact g_lret F Rq rfl dX6_waysOn_45
theorem hi_X6_prepare_X6 : ∀ w ∈ u_ws RX6 TX6 3, w ∈ wsX6_prepare := by decide +kernel
theorem fl_X6_prepare_22 : Cond.fieldLink RX6 22 "ArcOrder$Tally" "isCounted" "Z" ∈ wsX6_prepare := by decide +kernel
theorem fl_X6_prepare_9 : Cond.fieldLink RX6 9 "ArcOrder$Tally" "ways" "[J" ∈ wsX6_prepare := by decide +kernel
theorem fl_X6_prepare_18 : Cond.fieldLink RX6 18 "ArcOrder$Tally" "counted" "LArcOrder$Net;" ∈ wsX6_prepare := by decide +kernel
abbrev rm_X6_prepare : Room := { frames := 3, cells := 0, slots := 0, locals := 81 }
set_option maxHeartbeats 4000000 in
set_option maxRecDepth 100000 in
theorem k_X6_prepare_35_ok {G : GX} {cy : Nat → ClassId} (a : Nat → Nat) (a1 : Nat → Nat)   (Dd : NetS) (N1 : NetS) {out : TalS × NetS} (F : Fx G cX6_prepare wsX6_prepare RX6 cy 4 (rm_X6_prepare)) (Rq : Rx G "prepare" none none (fun z => z = [(sTal cy a out.1), (sNet cy (fun k => a (200 + k)) out.2), (sNet cy a1 N1)]) 0 0) (ke : TalS → Option (TalS × NetS)) (hke : ∀  (Ww : TalS), ke Ww = some out → Go G 0 0 57 [(0, .ref (a 0)), (1, .ref (a1 0))] [] [(sTal cy a Ww), (sNet cy (fun k => a (200 + k)) Dd), (sNet cy a1 N1)]) : ∀ (n : Nat) (x3 : Int32) (Ww : TalS), k_X6_prepare_35 Dd N1 ke n x3 Ww = some out → Go G 0 0 35 [(0, .ref (a 0)), (1, .ref (a1 0)), (3, .int x3)] [] [(sTal cy a Ww), (sNet cy (fun k => a (200 + k)) Dd), (sNet cy a1 N1)] := by
  intro n
  induction n with
  | zero =>
    intro x3 Ww h
    exact nosome h
  | succ n ih =>
    intro x3 Ww h
    rw [k_X6_prepare_35.eq_2] at h
    refine g_iload_n F dX6_prepare_35 rfl 2 rfl ?_
    refine g_if_lt F 57 h dX6_prepare_36 (by decide) (fun h => ?_) (fun h => ?_)
    · refine Go.sub (lv' := [(0, .ref (a 0)), (1, .ref (a1 0))]) [0, 1] rfl ?_
      exact hke Ww h
    · refine g_aload_n F dX6_prepare_39 rfl 0 rfl ?_
      refine g_get F (C := RX6) (T := TX6) (N := 3) (ci := 6) (v := .ref (a 1)) hi_X6_prepare_X6 0 0 0 dX6_prepare_40 rfl rfl (by decide) fl_X6_prepare_9 rfl ?_
      refine g_iload_n F dX6_prepare_43 rfl 2 rfl ?_
      refine g_aload_n F dX6_prepare_44 rfl 0 rfl ?_
      refine g_aload_n F dX6_prepare_45 rfl 1 rfl ?_
      refine g_iload_n F dX6_prepare_46 rfl 2 rfl ?_
      obtain ⟨r2, hr2, h⟩ := bnd h
      refine g_cV F [.ref (a1 0), .int x3] 0 0 (ok_X6_waysOn (gl G) (gD G) cy a a1 Ww N1 x3 r2 hr2) dX6_prepare_47 rfl rfl gX6_prepare_X6_waysOn rfl ⟨rfl, cd_X6_waysOn⟩ (by decide) rfl (Nat.le_of_ble_eq_true rfl) [0, 2] (by decide) rfl rfl (sg' := [(sTal cy a Ww), (sNet cy (fun k => a (200 + k)) Dd), (sNet cy a1 N1)]) (st' := [.long r2, .int x3, .ref (a 1)]) rfl rfl ?_
      refine g_lastore F h (sg' := [(sTal cy a (Ww.1, (vp_updL Ww.2 (x3).toNatClampNeg r2))), (sNet cy (fun k => a (200 + k)) Dd), (sNet cy a1 N1)]) 0 1 dX6_prepare_50 rfl rfl (fun h => ?_)
      refine g_iinc F (v := (x3 + (-1))) (lv' := [(3, .int (x3 + (-1))), (0, .ref (a 0)), (1, .ref (a1 0))]) dX6_prepare_51 2 rfl rfl (by decide) rfl ?_
      refine g_goto F 35 dX6_prepare_54 (by decide) ?_
      refine Go.sub (lv' := [(0, .ref (a 0)), (1, .ref (a1 0)), (3, .int (x3 + (-1)))]) [1, 2, 0] rfl ?_
      exact ih (x3 + (-1)) (Ww.1, (vp_updL Ww.2 (x3).toNatClampNeg r2)) h
set_option maxHeartbeats 4000000 in
set_option maxRecDepth 100000 in
theorem ok_X6_prepare (l : Launch) (D : va_G) (cy : Nat → ClassId) (a : Nat → Nat) (a1 : Nat → Nat)  (Ww : TalS) (Dd : NetS) (N1 : NetS)  (out : TalS × NetS) (h : f_X6_prepare Ww Dd N1 = some out) : OK l D cy yX6_prepare wsX6_prepare rm_X6_prepare [.ref (a 0), .ref (a1 0)] [(sTal cy a Ww), (sNet cy (fun k => a (200 + k)) Dd), (sNet cy a1 N1)] none [(sTal cy a out.1), (sNet cy (fun k => a (200 + k)) out.2), (sNet cy a1 N1)] := by
  refine OKx.of (cc := cX6_prepare) (maxL := 4) (ret := none) (by decide) rfl (Nat.le_of_ble_eq_true rfl) (fun G F Rq => ?_)
  show Go G 0 0 0 [(0, .ref (a 0)), (1, .ref (a1 0))] [] [(sTal cy a Ww), (sNet cy (fun k => a (200 + k)) Dd), (sNet cy a1 N1)]
  replace F : Fx G cX6_prepare wsX6_prepare RX6 cy 4 (rm_X6_prepare) := F
  replace Rq : Rx G "prepare" none none (fun z => z = [(sTal cy a out.1), (sNet cy (fun k => a (200 + k)) out.2), (sNet cy a1 N1)]) 0 0 := Rq
  unfold f_X6_prepare at h
  refine g_aload_n F dX6_prepare_0 rfl 0 rfl ?_
  refine g_get F (C := RX6) (T := TX6) (N := 3) (ci := 6) (v := .int Ww.1) hi_X6_prepare_X6 0 0 2 dX6_prepare_1 rfl rfl (by decide) fl_X6_prepare_22 rfl ?_
  refine g_if_eq F 19 h dX6_prepare_4 (by decide) (fun h => ?_) (fun h => ?_)
  · refine g_aload_n F dX6_prepare_19 rfl 1 rfl ?_
    obtain ⟨r1, hr1, h⟩ := bnd h
    refine g_cV F [] 0 0 (ok_X3_everyItem (gl G) (gD G) cy a1 N1 r1 hr1) dX6_prepare_20 rfl rfl gX6_prepare_X3_everyItem rfl ⟨rfl, cd_X3_everyItem⟩ (by decide) rfl (Nat.le_of_ble_eq_true rfl) [2] (by decide) rfl rfl (sg' := [(sTal cy a Ww), (sNet cy (fun k => a (200 + k)) Dd), (sNet cy a1 N1)]) (st' := [.int r1]) rfl rfl ?_
    refine g_istore_n F (lv' := [(2, .int r1), (0, .ref (a 0)), (1, .ref (a1 0))]) dX6_prepare_23 rfl (by decide) rfl ?_
    refine g_aload_n F dX6_prepare_24 rfl 1 rfl ?_
    refine g_get F (C := RX6) (T := TX6) (N := 3) (ci := 6) (v := .ref (a 1)) hi_X6_prepare_X6 0 0 0 dX6_prepare_25 rfl rfl (by decide) fl_X6_prepare_9 rfl ?_
    refine g_iload_n F dX6_prepare_28 rfl 0 rfl ?_
    refine g_lconst F (v := (1 : Int64)) dX6_prepare_29 (by decide) ?_
    refine g_lastore F h (sg' := [(sTal cy a (Ww.1, (vp_updL Ww.2 (r1).toNatClampNeg (1 : Int64)))), (sNet cy (fun k => a (200 + k)) Dd), (sNet cy a1 N1)]) 0 1 dX6_prepare_30 rfl rfl (fun h => ?_)
    refine g_iload_n F dX6_prepare_31 rfl 0 rfl ?_
    refine g_iconst F (v := (1 : Int32)) dX6_prepare_32 (by decide) ?_
    refine g_isub F dX6_prepare_33 ?_
    refine g_istore_n F (lv' := [(3, .int (r1 - (1 : Int32))), (2, .int r1), (0, .ref (a 0)), (1, .ref (a1 0))]) dX6_prepare_34 rfl (by decide) rfl ?_
    refine Go.sub (lv' := [(0, .ref (a 0)), (1, .ref (a1 0)), (3, .int (r1 - (1 : Int32)))]) [2, 3, 0] rfl ?_
    refine k_X6_prepare_35_ok a a1 Dd N1 F Rq _ (fun Ww_3 h => ?_) _ (r1 - (1 : Int32)) (Ww.1, (vp_updL Ww.2 (r1).toNatClampNeg (1 : Int64))) h
    refine g_aload_n F dX6_prepare_57 rfl 0 rfl ?_
    refine g_get F (C := RX6) (T := TX6) (N := 3) (ci := 6) (v := .ref (a 200)) hi_X6_prepare_X6 0 0 1 dX6_prepare_58 rfl rfl (by decide) fl_X6_prepare_18 rfl ?_
    refine g_aload_n F dX6_prepare_61 rfl 1 rfl ?_
    obtain ⟨r4, hr4, h⟩ := bnd h
    refine g_cV F [.ref (a1 0)] 0 0 (ok_X3_copyOf (gl G) (gD G) cy (fun k => a (200 + k)) a1 Dd N1 r4 hr4) dX6_prepare_62 rfl rfl gX6_prepare_X3_copyOf rfl ⟨rfl, cd_X3_copyOf⟩ (by decide) rfl (Nat.le_of_ble_eq_true rfl) [1, 2] (by decide) rfl rfl (sg' := [(sTal cy a Ww_3), (sNet cy (fun k => a (200 + k)) r4), (sNet cy a1 N1)]) (st' := []) rfl rfl ?_
    refine g_aload_n F dX6_prepare_65 rfl 0 rfl ?_
    refine g_iconst F (v := (1 : Int32)) dX6_prepare_66 (by decide) ?_
    refine g_put F (C := RX6) (T := TX6) (N := 3) (ci := 6) (v := .int (1 : Int32)) (ty := .boolean) (sg' := [(sTal cy a ((1 : Int32), Ww_3.2)), (sNet cy (fun k => a (200 + k)) r4), (sNet cy a1 N1)]) hi_X6_prepare_X6 tyX6 tyX6_ok nmX6 0 0 2 dX6_prepare_67 rfl rfl (by decide) fl_X6_prepare_22 rfl rfl rfl rfl (Nat.le_of_ble_eq_true rfl) rfl ?_
    obtain rfl := Option.some.inj h
    exact g_vret F Rq rfl dX6_prepare_70
  · refine g_aload_n F dX6_prepare_7 rfl 0 rfl ?_
    refine g_get F (C := RX6) (T := TX6) (N := 3) (ci := 6) (v := .ref (a 200)) hi_X6_prepare_X6 0 0 1 dX6_prepare_8 rfl rfl (by decide) fl_X6_prepare_18 rfl ?_
    refine g_aload_n F dX6_prepare_11 rfl 1 rfl ?_
    obtain ⟨r5, hr5, h⟩ := bnd h
    refine g_cV F [.ref (a1 0)] 0 0 (ok_X3_hasArcsOf (gl G) (gD G) cy (fun k => a (200 + k)) a1 Dd N1 r5 hr5) dX6_prepare_12 rfl rfl gX6_prepare_X3_hasArcsOf rfl ⟨rfl, cd_X3_hasArcsOf⟩ (by decide) rfl (Nat.le_of_ble_eq_true rfl) [1, 2] (by decide) rfl rfl (sg' := [(sTal cy a Ww), (sNet cy (fun k => a (200 + k)) Dd), (sNet cy a1 N1)]) (st' := [.int r5]) rfl rfl ?_
    refine g_if_eq F 19 h dX6_prepare_15 (by decide) (fun h => ?_) (fun h => ?_)
    · refine g_aload_n F dX6_prepare_19 rfl 1 rfl ?_
      obtain ⟨r6, hr6, h⟩ := bnd h
      refine g_cV F [] 0 0 (ok_X3_everyItem (gl G) (gD G) cy a1 N1 r6 hr6) dX6_prepare_20 rfl rfl gX6_prepare_X3_everyItem rfl ⟨rfl, cd_X3_everyItem⟩ (by decide) rfl (Nat.le_of_ble_eq_true rfl) [2] (by decide) rfl rfl (sg' := [(sTal cy a Ww), (sNet cy (fun k => a (200 + k)) Dd), (sNet cy a1 N1)]) (st' := [.int r6]) rfl rfl ?_
      refine g_istore_n F (lv' := [(2, .int r6), (0, .ref (a 0)), (1, .ref (a1 0))]) dX6_prepare_23 rfl (by decide) rfl ?_
      refine g_aload_n F dX6_prepare_24 rfl 1 rfl ?_
      refine g_get F (C := RX6) (T := TX6) (N := 3) (ci := 6) (v := .ref (a 1)) hi_X6_prepare_X6 0 0 0 dX6_prepare_25 rfl rfl (by decide) fl_X6_prepare_9 rfl ?_
      refine g_iload_n F dX6_prepare_28 rfl 0 rfl ?_
      refine g_lconst F (v := (1 : Int64)) dX6_prepare_29 (by decide) ?_
      refine g_lastore F h (sg' := [(sTal cy a (Ww.1, (vp_updL Ww.2 (r6).toNatClampNeg (1 : Int64)))), (sNet cy (fun k => a (200 + k)) Dd), (sNet cy a1 N1)]) 0 1 dX6_prepare_30 rfl rfl (fun h => ?_)
      refine g_iload_n F dX6_prepare_31 rfl 0 rfl ?_
      refine g_iconst F (v := (1 : Int32)) dX6_prepare_32 (by decide) ?_
      refine g_isub F dX6_prepare_33 ?_
      refine g_istore_n F (lv' := [(3, .int (r6 - (1 : Int32))), (2, .int r6), (0, .ref (a 0)), (1, .ref (a1 0))]) dX6_prepare_34 rfl (by decide) rfl ?_
      refine Go.sub (lv' := [(0, .ref (a 0)), (1, .ref (a1 0)), (3, .int (r6 - (1 : Int32)))]) [2, 3, 0] rfl ?_
      refine k_X6_prepare_35_ok a a1 Dd N1 F Rq _ (fun Ww_8 h => ?_) _ (r6 - (1 : Int32)) (Ww.1, (vp_updL Ww.2 (r6).toNatClampNeg (1 : Int64))) h
      refine g_aload_n F dX6_prepare_57 rfl 0 rfl ?_
      refine g_get F (C := RX6) (T := TX6) (N := 3) (ci := 6) (v := .ref (a 200)) hi_X6_prepare_X6 0 0 1 dX6_prepare_58 rfl rfl (by decide) fl_X6_prepare_18 rfl ?_
      refine g_aload_n F dX6_prepare_61 rfl 1 rfl ?_
      obtain ⟨r9, hr9, h⟩ := bnd h
      refine g_cV F [.ref (a1 0)] 0 0 (ok_X3_copyOf (gl G) (gD G) cy (fun k => a (200 + k)) a1 Dd N1 r9 hr9) dX6_prepare_62 rfl rfl gX6_prepare_X3_copyOf rfl ⟨rfl, cd_X3_copyOf⟩ (by decide) rfl (Nat.le_of_ble_eq_true rfl) [1, 2] (by decide) rfl rfl (sg' := [(sTal cy a Ww_8), (sNet cy (fun k => a (200 + k)) r9), (sNet cy a1 N1)]) (st' := []) rfl rfl ?_
      refine g_aload_n F dX6_prepare_65 rfl 0 rfl ?_
      refine g_iconst F (v := (1 : Int32)) dX6_prepare_66 (by decide) ?_
      refine g_put F (C := RX6) (T := TX6) (N := 3) (ci := 6) (v := .int (1 : Int32)) (ty := .boolean) (sg' := [(sTal cy a ((1 : Int32), Ww_8.2)), (sNet cy (fun k => a (200 + k)) r9), (sNet cy a1 N1)]) hi_X6_prepare_X6 tyX6 tyX6_ok nmX6 0 0 2 dX6_prepare_67 rfl rfl (by decide) fl_X6_prepare_22 rfl rfl rfl rfl (Nat.le_of_ble_eq_true rfl) rfl ?_
      obtain rfl := Option.some.inj h
      exact g_vret F Rq rfl dX6_prepare_70
    · obtain rfl := Option.some.inj h
      exact g_vret F Rq rfl dX6_prepare_18
theorem hi_X6_all_X6 : ∀ w ∈ u_ws RX6 TX6 3, w ∈ wsX6_all := by decide +kernel
theorem fl_X6_all_9 : Cond.fieldLink RX6 9 "ArcOrder$Tally" "ways" "[J" ∈ wsX6_all := by decide +kernel
abbrev rm_X6_all : Room := { frames := 4, cells := 0, slots := 0, locals := 104 }
set_option maxHeartbeats 4000000 in
set_option maxRecDepth 100000 in
theorem ok_X6_all (l : Launch) (D : va_G) (cy : Nat → ClassId) (a : Nat → Nat) (a1 : Nat → Nat)  (Ww : TalS) (Dd : NetS) (N1 : NetS)  (out : Int64 × TalS × NetS) (h : f_X6_all Ww Dd N1 = some out) : OK l D cy yX6_all wsX6_all rm_X6_all [.ref (a 0), .ref (a1 0)] [(sTal cy a Ww), (sNet cy (fun k => a (200 + k)) Dd), (sNet cy a1 N1)] (some (.long out.1)) [(sTal cy a out.2.1), (sNet cy (fun k => a (200 + k)) out.2.2), (sNet cy a1 N1)] := by
  refine OKx.of (cc := cX6_all) (maxL := 2) (ret := (some .long)) (by decide) rfl (Nat.le_of_ble_eq_true rfl) (fun G F Rq => ?_)
  show Go G 0 0 0 [(0, .ref (a 0)), (1, .ref (a1 0))] [] [(sTal cy a Ww), (sNet cy (fun k => a (200 + k)) Dd), (sNet cy a1 N1)]
  replace F : Fx G cX6_all wsX6_all RX6 cy 2 (rm_X6_all) := F
  replace Rq : Rx G "all" (some .long) (some (.long out.1)) (fun z => z = [(sTal cy a out.2.1), (sNet cy (fun k => a (200 + k)) out.2.2), (sNet cy a1 N1)]) 0 0 := Rq
  unfold f_X6_all at h
  refine g_aload_n F dX6_all_0 rfl 0 rfl ?_
  refine g_aload_n F dX6_all_1 rfl 1 rfl ?_
  obtain ⟨r1, hr1, h⟩ := bnd h
  refine g_cV F [.ref (a1 0)] 0 0 (ok_X6_prepare (gl G) (gD G) cy a a1 Ww Dd N1 r1 hr1) dX6_all_2 rfl rfl gX6_all_X6_prepare rfl ⟨rfl, cd_X6_prepare⟩ (by decide) rfl (Nat.le_of_ble_eq_true rfl) [0, 1, 2] (by decide) rfl rfl (sg' := [(sTal cy a r1.1), (sNet cy (fun k => a (200 + k)) r1.2), (sNet cy a1 N1)]) (st' := []) rfl rfl ?_
  refine g_aload_n F dX6_all_5 rfl 0 rfl ?_
  refine g_get F (C := RX6) (T := TX6) (N := 3) (ci := 6) (v := .ref (a 1)) hi_X6_all_X6 0 0 0 dX6_all_6 rfl rfl (by decide) fl_X6_all_9 rfl ?_
  refine g_iconst F (v := (0 : Int32)) dX6_all_9 (by decide) ?_
  refine g_laload F h 0 1 dX6_all_10 rfl (fun h => ?_)
  obtain rfl := Option.some.inj h
  exact g_lret F Rq rfl dX6_all_11
theorem hi_X6_rank_X3 : ∀ w ∈ u_ws RX3 TX3 7, w ∈ wsX6_rank := by decide +kernel
theorem fl_X6_rank_42 : Cond.fieldLink RX6 42 "ArcOrder$Net" "items" "I" ∈ wsX6_rank := by decide +kernel
theorem fl_X6_rank_53 : Cond.fieldLink RX6 53 "ArcOrder$Net" "order" "[I" ∈ wsX6_rank := by decide +kernel
theorem hi_X6_rank_X6 : ∀ w ∈ u_ws RX6 TX6 3, w ∈ wsX6_rank := by decide +kernel
theorem fl_X6_rank_9 : Cond.fieldLink RX6 9 "ArcOrder$Tally" "ways" "[J" ∈ wsX6_rank := by decide +kernel
abbrev rm_X6_rank : Room := { frames := 4, cells := 0, slots := 0, locals := 104 }
set_option maxHeartbeats 4000000 in
set_option maxRecDepth 100000 in
theorem k_X6_rank_34_ok {G : GX} {cy : Nat → ClassId} (a : Nat → Nat) (a1 : Nat → Nat)  (x4 : Int32) (x5 : Int32) (x6 : Int32) (Ww : TalS) (Dd : NetS) (N1 : NetS) {out : Int64 × TalS × NetS} (F : Fx G cX6_rank wsX6_rank RX6 cy 8 (rm_X6_rank)) (Rq : Rx G "rank" (some .long) (some (.long out.1)) (fun z => z = [(sTal cy a out.2.1), (sNet cy (fun k => a (200 + k)) out.2.2), (sNet cy a1 N1)]) 0 0) (ke : Int64 → Option (Int64 × TalS × NetS)) (hke : ∀ (x2 : Int64) , ke x2 = some out → Go G 0 0 73 [(0, .ref (a 0)), (1, .ref (a1 0)), (2, .long x2), (4, .int x4), (5, .int x5), (6, .int x6)] [] [(sTal cy a Ww), (sNet cy (fun k => a (200 + k)) Dd), (sNet cy a1 N1)]) : ∀ (n : Nat) (x2 : Int64) (x7 : Int32) , k_X6_rank_34 x4 x5 x6 Ww Dd N1 ke n x2 x7 = some out → Go G 0 0 34 [(0, .ref (a 0)), (1, .ref (a1 0)), (2, .long x2), (4, .int x4), (5, .int x5), (6, .int x6), (7, .int x7)] [] [(sTal cy a Ww), (sNet cy (fun k => a (200 + k)) Dd), (sNet cy a1 N1)] := by
  intro n
  induction n with
  | zero =>
    intro x2 x7 h
    exact nosome h
  | succ n ih =>
    intro x2 x7 h
    rw [k_X6_rank_34.eq_2] at h
    refine g_iload F dX6_rank_34 6 rfl ?_
    refine g_iload F dX6_rank_36 5 rfl ?_
    refine g_icmp_ge F 73 h dX6_rank_38 (by decide) (fun h => ?_) (fun h => ?_)
    · refine Go.sub (lv' := [(0, .ref (a 0)), (1, .ref (a1 0)), (2, .long x2), (4, .int x4), (5, .int x5), (6, .int x6)]) [0, 1, 2, 3, 4, 5] rfl ?_
      exact hke x2 h
    · refine g_aload_n F dX6_rank_41 rfl 1 rfl ?_
      refine g_iload F dX6_rank_42 6 rfl ?_
      refine g_iload F dX6_rank_44 3 rfl ?_
      obtain ⟨r2, hr2, h⟩ := bnd h
      refine g_cV F [.int x7, .int x4] 0 0 (ok_X3_isReady (gl G) (gD G) cy a1 N1 x7 x4 r2 hr2) dX6_rank_46 rfl rfl gX6_rank_X3_isReady rfl ⟨rfl, cd_X3_isReady⟩ (by decide) rfl (Nat.le_of_ble_eq_true rfl) [2] (by decide) rfl rfl (sg' := [(sTal cy a Ww), (sNet cy (fun k => a (200 + k)) Dd), (sNet cy a1 N1)]) (st' := [.int r2]) rfl rfl ?_
      refine g_if_eq F 67 h dX6_rank_49 (by decide) (fun h => ?_) (fun h => ?_)
      · refine g_iinc F (v := (x7 + 1)) (lv' := [(7, .int (x7 + 1)), (0, .ref (a 0)), (1, .ref (a1 0)), (2, .long x2), (4, .int x4), (5, .int x5), (6, .int x6)]) dX6_rank_67 6 rfl rfl (by decide) rfl ?_
        refine g_goto F 34 dX6_rank_70 (by decide) ?_
        refine Go.sub (lv' := [(0, .ref (a 0)), (1, .ref (a1 0)), (2, .long x2), (4, .int x4), (5, .int x5), (6, .int x6), (7, .int (x7 + 1))]) [1, 2, 3, 4, 5, 6, 0] rfl ?_
        exact ih x2 (x7 + 1) h
      · refine g_lload_n F dX6_rank_52 rfl 2 rfl ?_
        refine g_aload_n F dX6_rank_53 rfl 0 rfl ?_
        refine g_get F (C := RX6) (T := TX6) (N := 3) (ci := 6) (v := .ref (a 1)) hi_X6_rank_X6 0 0 0 dX6_rank_54 rfl rfl (by decide) fl_X6_rank_9 rfl ?_
        refine g_iload F dX6_rank_57 3 rfl ?_
        refine g_iconst F (v := (1 : Int32)) dX6_rank_59 (by decide) ?_
        refine g_iload F dX6_rank_60 6 rfl ?_
        refine g_ishl F dX6_rank_62 ?_
        refine g_ior F dX6_rank_63 ?_
        refine g_laload F h 0 1 dX6_rank_64 rfl (fun h => ?_)
        refine g_ladd F dX6_rank_65 ?_
        refine g_lstore_n F (lv' := [(2, .long (x2 + (Ww.2 ((x4 ||| ((1 : Int32) <<< (x7 &&& 31)))).toNatClampNeg))), (0, .ref (a 0)), (1, .ref (a1 0)), (4, .int x4), (5, .int x5), (6, .int x6), (7, .int x7)]) dX6_rank_66 rfl (by decide) rfl ?_
        refine g_iinc F (v := (x7 + 1)) (lv' := [(7, .int (x7 + 1)), (2, .long (x2 + (Ww.2 ((x4 ||| ((1 : Int32) <<< (x7 &&& 31)))).toNatClampNeg))), (0, .ref (a 0)), (1, .ref (a1 0)), (4, .int x4), (5, .int x5), (6, .int x6)]) dX6_rank_67 6 rfl rfl (by decide) rfl ?_
        refine g_goto F 34 dX6_rank_70 (by decide) ?_
        refine Go.sub (lv' := [(0, .ref (a 0)), (1, .ref (a1 0)), (2, .long (x2 + (Ww.2 ((x4 ||| ((1 : Int32) <<< (x7 &&& 31)))).toNatClampNeg))), (4, .int x4), (5, .int x5), (6, .int x6), (7, .int (x7 + 1))]) [2, 3, 1, 4, 5, 6, 0] rfl ?_
        exact ih (x2 + (Ww.2 ((x4 ||| ((1 : Int32) <<< (x7 &&& 31)))).toNatClampNeg)) (x7 + 1) h
set_option maxHeartbeats 4000000 in
set_option maxRecDepth 100000 in
theorem k_X6_rank_13_ok {G : GX} {cy : Nat → ClassId} (a : Nat → Nat) (a1 : Nat → Nat)   (Ww : TalS) (Dd : NetS) (N1 : NetS) {out : Int64 × TalS × NetS} (F : Fx G cX6_rank wsX6_rank RX6 cy 8 (rm_X6_rank)) (Rq : Rx G "rank" (some .long) (some (.long out.1)) (fun z => z = [(sTal cy a out.2.1), (sNet cy (fun k => a (200 + k)) out.2.2), (sNet cy a1 N1)]) 0 0) (ke : Int64 → Option (Int64 × TalS × NetS)) (hke : ∀ (x2 : Int64) , ke x2 = some out → Go G 0 0 88 [(2, .long x2)] [] [(sTal cy a Ww), (sNet cy (fun k => a (200 + k)) Dd), (sNet cy a1 N1)]) : ∀ (n : Nat) (x2 : Int64) (x4 : Int32) (x5 : Int32) , k_X6_rank_13 Ww Dd N1 ke n x2 x4 x5 = some out → Go G 0 0 13 [(0, .ref (a 0)), (1, .ref (a1 0)), (2, .long x2), (4, .int x4), (5, .int x5)] [] [(sTal cy a Ww), (sNet cy (fun k => a (200 + k)) Dd), (sNet cy a1 N1)] := by
  intro n
  induction n with
  | zero =>
    intro x2 x4 x5 h
    exact nosome h
  | succ n ih =>
    intro x2 x4 x5 h
    rw [k_X6_rank_13.eq_2] at h
    refine g_iload F dX6_rank_13 4 rfl ?_
    refine g_aload_n F dX6_rank_15 rfl 1 rfl ?_
    refine g_get F (C := RX3) (T := TX3) (N := 7) (ci := 3) (v := .int N1.1) hi_X6_rank_X3 2 0 0 dX6_rank_16 rfl rfl (by decide) fl_X6_rank_42 rfl ?_
    refine g_icmp_ge F 88 h dX6_rank_19 (by decide) (fun h => ?_) (fun h => ?_)
    · refine Go.sub (lv' := [(2, .long x2)]) [2] rfl ?_
      exact hke x2 h
    · refine g_aload_n F dX6_rank_22 rfl 1 rfl ?_
      refine g_get F (C := RX3) (T := TX3) (N := 7) (ci := 3) (v := .ref (a1 5)) hi_X6_rank_X3 2 0 4 dX6_rank_23 rfl rfl (by decide) fl_X6_rank_53 rfl ?_
      refine g_iload F dX6_rank_26 4 rfl ?_
      refine g_iaload F h 2 3 dX6_rank_28 rfl (fun h => ?_)
      refine g_istore F (lv' := [(6, .int (N1.2.2.2.2.1 (x5).toNatClampNeg)), (0, .ref (a 0)), (1, .ref (a1 0)), (2, .long x2), (4, .int x4), (5, .int x5)]) dX6_rank_29 (by decide) rfl ?_
      refine g_iconst F (v := (0 : Int32)) dX6_rank_31 (by decide) ?_
      refine g_istore F (lv' := [(7, .int (0 : Int32)), (6, .int (N1.2.2.2.2.1 (x5).toNatClampNeg)), (0, .ref (a 0)), (1, .ref (a1 0)), (2, .long x2), (4, .int x4), (5, .int x5)]) dX6_rank_32 (by decide) rfl ?_
      refine Go.sub (lv' := [(0, .ref (a 0)), (1, .ref (a1 0)), (2, .long x2), (4, .int x4), (5, .int x5), (6, .int (N1.2.2.2.2.1 (x5).toNatClampNeg)), (7, .int (0 : Int32))]) [2, 3, 4, 5, 6, 1, 0] rfl ?_
      refine k_X6_rank_34_ok a a1 x4 x5 (N1.2.2.2.2.1 (x5).toNatClampNeg) Ww Dd N1 F Rq _ (fun x2_3 h => ?_) _ x2 (0 : Int32) h
      refine g_iload F dX6_rank_73 3 rfl ?_
      refine g_iconst F (v := (1 : Int32)) dX6_rank_75 (by decide) ?_
      refine g_iload F dX6_rank_76 5 rfl ?_
      refine g_ishl F dX6_rank_78 ?_
      refine g_ior F dX6_rank_79 ?_
      refine g_istore F (lv' := [(4, .int (x4 ||| ((1 : Int32) <<< ((N1.2.2.2.2.1 (x5).toNatClampNeg) &&& 31)))), (0, .ref (a 0)), (1, .ref (a1 0)), (2, .long x2_3), (5, .int x5), (6, .int (N1.2.2.2.2.1 (x5).toNatClampNeg))]) dX6_rank_80 (by decide) rfl ?_
      refine g_iinc F (v := (x5 + 1)) (lv' := [(5, .int (x5 + 1)), (4, .int (x4 ||| ((1 : Int32) <<< ((N1.2.2.2.2.1 (x5).toNatClampNeg) &&& 31)))), (0, .ref (a 0)), (1, .ref (a1 0)), (2, .long x2_3), (6, .int (N1.2.2.2.2.1 (x5).toNatClampNeg))]) dX6_rank_82 4 rfl rfl (by decide) rfl ?_
      refine g_goto F 13 dX6_rank_85 (by decide) ?_
      refine Go.sub (lv' := [(0, .ref (a 0)), (1, .ref (a1 0)), (2, .long x2_3), (4, .int (x4 ||| ((1 : Int32) <<< ((N1.2.2.2.2.1 (x5).toNatClampNeg) &&& 31)))), (5, .int (x5 + 1))]) [2, 3, 4, 1, 0] rfl ?_
      exact ih x2_3 (x4 ||| ((1 : Int32) <<< ((N1.2.2.2.2.1 (x5).toNatClampNeg) &&& 31))) (x5 + 1) h
set_option maxHeartbeats 4000000 in
set_option maxRecDepth 100000 in
theorem ok_X6_rank (l : Launch) (D : va_G) (cy : Nat → ClassId) (a : Nat → Nat) (a1 : Nat → Nat)  (Ww : TalS) (Dd : NetS) (N1 : NetS)  (out : Int64 × TalS × NetS) (h : f_X6_rank Ww Dd N1 = some out) : OK l D cy yX6_rank wsX6_rank rm_X6_rank [.ref (a 0), .ref (a1 0)] [(sTal cy a Ww), (sNet cy (fun k => a (200 + k)) Dd), (sNet cy a1 N1)] (some (.long out.1)) [(sTal cy a out.2.1), (sNet cy (fun k => a (200 + k)) out.2.2), (sNet cy a1 N1)] := by
  refine OKx.of (cc := cX6_rank) (maxL := 8) (ret := (some .long)) (by decide) rfl (Nat.le_of_ble_eq_true rfl) (fun G F Rq => ?_)
  show Go G 0 0 0 [(0, .ref (a 0)), (1, .ref (a1 0))] [] [(sTal cy a Ww), (sNet cy (fun k => a (200 + k)) Dd), (sNet cy a1 N1)]
  replace F : Fx G cX6_rank wsX6_rank RX6 cy 8 (rm_X6_rank) := F
  replace Rq : Rx G "rank" (some .long) (some (.long out.1)) (fun z => z = [(sTal cy a out.2.1), (sNet cy (fun k => a (200 + k)) out.2.2), (sNet cy a1 N1)]) 0 0 := Rq
  unfold f_X6_rank at h
  refine g_aload_n F dX6_rank_0 rfl 0 rfl ?_
  refine g_aload_n F dX6_rank_1 rfl 1 rfl ?_
  obtain ⟨r1, hr1, h⟩ := bnd h
  refine g_cV F [.ref (a1 0)] 0 0 (ok_X6_prepare (gl G) (gD G) cy a a1 Ww Dd N1 r1 hr1) dX6_rank_2 rfl rfl gX6_rank_X6_prepare rfl ⟨rfl, cd_X6_prepare⟩ (by decide) rfl (Nat.le_of_ble_eq_true rfl) [0, 1, 2] (by decide) rfl rfl (sg' := [(sTal cy a r1.1), (sNet cy (fun k => a (200 + k)) r1.2), (sNet cy a1 N1)]) (st' := []) rfl rfl ?_
  refine g_lconst F (v := (0 : Int64)) dX6_rank_5 (by decide) ?_
  refine g_lstore_n F (lv' := [(2, .long (0 : Int64)), (0, .ref (a 0)), (1, .ref (a1 0))]) dX6_rank_6 rfl (by decide) rfl ?_
  refine g_iconst F (v := (0 : Int32)) dX6_rank_7 (by decide) ?_
  refine g_istore F (lv' := [(4, .int (0 : Int32)), (2, .long (0 : Int64)), (0, .ref (a 0)), (1, .ref (a1 0))]) dX6_rank_8 (by decide) rfl ?_
  refine g_iconst F (v := (0 : Int32)) dX6_rank_10 (by decide) ?_
  refine g_istore F (lv' := [(5, .int (0 : Int32)), (4, .int (0 : Int32)), (2, .long (0 : Int64)), (0, .ref (a 0)), (1, .ref (a1 0))]) dX6_rank_11 (by decide) rfl ?_
  refine Go.sub (lv' := [(0, .ref (a 0)), (1, .ref (a1 0)), (2, .long (0 : Int64)), (4, .int (0 : Int32)), (5, .int (0 : Int32))]) [3, 4, 2, 1, 0] rfl ?_
  refine k_X6_rank_13_ok a a1 r1.1 r1.2 N1 F Rq _ (fun x2_4 h => ?_) _ (0 : Int64) (0 : Int32) (0 : Int32) h
  refine g_lload_n F dX6_rank_88 rfl 0 rfl ?_
  obtain rfl := Option.some.inj h
  exact g_lret F Rq rfl dX6_rank_89
theorem hi_X6_itemOf_X3 : ∀ w ∈ u_ws RX3 TX3 7, w ∈ wsX6_itemOf := by decide +kernel
theorem fl_X6_itemOf_42 : Cond.fieldLink RX6 42 "ArcOrder$Net" "items" "I" ∈ wsX6_itemOf := by decide +kernel
theorem hi_X6_itemOf_X6 : ∀ w ∈ u_ws RX6 TX6 3, w ∈ wsX6_itemOf := by decide +kernel
theorem fl_X6_itemOf_9 : Cond.fieldLink RX6 9 "ArcOrder$Tally" "ways" "[J" ∈ wsX6_itemOf := by decide +kernel
abbrev rm_X6_itemOf : Room := { frames := 5, cells := 0, slots := 0, locals := 125 }
set_option maxHeartbeats 4000000 in
set_option maxRecDepth 100000 in
theorem k_X6_itemOf_36_ok {G : GX} {cy : Nat → ClassId} (a : Nat → Nat) (a1 : Nat → Nat)  (x4 : Int32) (x9 : Int32) (Ww : TalS) (Dd : NetS) (N1 : NetS) {out : Int32 × TalS × NetS} (F : Fx G cX6_itemOf wsX6_itemOf RX6 cy 11 (rm_X6_itemOf)) (Rq : Rx G "itemOf" (some .int) (some (.int out.1)) (fun z => z = [(sTal cy a out.2.1), (sNet cy (fun k => a (200 + k)) out.2.2), (sNet cy a1 N1)]) 0 0) (ke : Int64 → Int32 → Int32 → Option (Int32 × TalS × NetS)) (hke : ∀ (x5 : Int64) (x7 : Int32) (x8 : Int32) , ke x5 x7 x8 = some out → Go G 0 0 116 [(0, .ref (a 0)), (1, .ref (a1 0)), (4, .int x4), (5, .long x5), (7, .int x7), (8, .int x8), (9, .int x9)] [] [(sTal cy a Ww), (sNet cy (fun k => a (200 + k)) Dd), (sNet cy a1 N1)]) : ∀ (n : Nat) (x5 : Int64) (x7 : Int32) (x8 : Int32) (x10 : Int32) , k_X6_itemOf_36 x4 x9 Ww Dd N1 ke n x5 x7 x8 x10 = some out → Go G 0 0 36 [(0, .ref (a 0)), (1, .ref (a1 0)), (4, .int x4), (5, .long x5), (7, .int x7), (8, .int x8), (9, .int x9), (10, .int x10)] [] [(sTal cy a Ww), (sNet cy (fun k => a (200 + k)) Dd), (sNet cy a1 N1)] := by
  intro n
  induction n with
  | zero =>
    intro x5 x7 x8 x10 h
    exact nosome h
  | succ n ih =>
    intro x5 x7 x8 x10 h
    rw [k_X6_itemOf_36.eq_2] at h
    refine g_iload F dX6_itemOf_36 7 rfl ?_
    refine g_aload_n F dX6_itemOf_38 rfl 1 rfl ?_
    refine g_get F (C := RX3) (T := TX3) (N := 7) (ci := 3) (v := .int N1.1) hi_X6_itemOf_X3 2 0 0 dX6_itemOf_39 rfl rfl (by decide) fl_X6_itemOf_42 rfl ?_
    refine g_icmp_ge F 116 h dX6_itemOf_42 (by decide) (fun h => ?_) (fun h => ?_)
    · refine Go.sub (lv' := [(0, .ref (a 0)), (1, .ref (a1 0)), (4, .int x4), (5, .long x5), (7, .int x7), (8, .int x8), (9, .int x9)]) [0, 1, 2, 3, 4, 5, 6] rfl ?_
      exact hke x5 x7 x8 h
    · refine g_aload_n F dX6_itemOf_45 rfl 1 rfl ?_
      refine g_iload F dX6_itemOf_46 7 rfl ?_
      refine g_iload F dX6_itemOf_48 4 rfl ?_
      obtain ⟨r2, hr2, h⟩ := bnd h
      refine g_cV F [.int x10, .int x7] 0 0 (ok_X3_isReady (gl G) (gD G) cy a1 N1 x10 x7 r2 hr2) dX6_itemOf_50 rfl rfl gX6_itemOf_X3_isReady rfl ⟨rfl, cd_X3_isReady⟩ (by decide) rfl (Nat.le_of_ble_eq_true rfl) [2] (by decide) rfl rfl (sg' := [(sTal cy a Ww), (sNet cy (fun k => a (200 + k)) Dd), (sNet cy a1 N1)]) (st' := [.int r2]) rfl rfl ?_
      refine g_if_ne F 59 h dX6_itemOf_53 (by decide) (fun h => ?_) (fun h => ?_)
      · refine g_lload F dX6_itemOf_59 3 rfl ?_
        refine g_aload_n F dX6_itemOf_61 rfl 0 rfl ?_
        refine g_get F (C := RX6) (T := TX6) (N := 3) (ci := 6) (v := .ref (a 1)) hi_X6_itemOf_X6 0 0 0 dX6_itemOf_62 rfl rfl (by decide) fl_X6_itemOf_9 rfl ?_
        refine g_iload F dX6_itemOf_65 4 rfl ?_
        refine g_iconst F (v := (1 : Int32)) dX6_itemOf_67 (by decide) ?_
        refine g_iload F dX6_itemOf_68 7 rfl ?_
        refine g_ishl F dX6_itemOf_70 ?_
        refine g_ior F dX6_itemOf_71 ?_
        refine g_laload F h 0 1 dX6_itemOf_72 rfl (fun h => ?_)
        refine g_lcmp F dX6_itemOf_73 ?_
        refine g_if_ge F 93 h dX6_itemOf_74 (by decide) (fun h => ?_) (fun h => ?_)
        · refine g_lload F dX6_itemOf_93 3 rfl ?_
          refine g_aload_n F dX6_itemOf_95 rfl 0 rfl ?_
          refine g_get F (C := RX6) (T := TX6) (N := 3) (ci := 6) (v := .ref (a 1)) hi_X6_itemOf_X6 0 0 0 dX6_itemOf_96 rfl rfl (by decide) fl_X6_itemOf_9 rfl ?_
          refine g_iload F dX6_itemOf_99 4 rfl ?_
          refine g_iconst F (v := (1 : Int32)) dX6_itemOf_101 (by decide) ?_
          refine g_iload F dX6_itemOf_102 7 rfl ?_
          refine g_ishl F dX6_itemOf_104 ?_
          refine g_ior F dX6_itemOf_105 ?_
          refine g_laload F h 0 1 dX6_itemOf_106 rfl (fun h => ?_)
          refine g_lsub F dX6_itemOf_107 ?_
          refine g_lstore F (lv' := [(5, .long (x5 - (Ww.2 ((x7 ||| ((1 : Int32) <<< (x10 &&& 31)))).toNatClampNeg))), (0, .ref (a 0)), (1, .ref (a1 0)), (4, .int x4), (7, .int x7), (8, .int x8), (9, .int x9), (10, .int x10)]) dX6_itemOf_108 (by decide) rfl ?_
          refine g_iinc F (v := (x10 + 1)) (lv' := [(10, .int (x10 + 1)), (5, .long (x5 - (Ww.2 ((x7 ||| ((1 : Int32) <<< (x10 &&& 31)))).toNatClampNeg))), (0, .ref (a 0)), (1, .ref (a1 0)), (4, .int x4), (7, .int x7), (8, .int x8), (9, .int x9)]) dX6_itemOf_110 7 rfl rfl (by decide) rfl ?_
          refine g_goto F 36 dX6_itemOf_113 (by decide) ?_
          refine Go.sub (lv' := [(0, .ref (a 0)), (1, .ref (a1 0)), (4, .int x4), (5, .long (x5 - (Ww.2 ((x7 ||| ((1 : Int32) <<< (x10 &&& 31)))).toNatClampNeg))), (7, .int x7), (8, .int x8), (9, .int x9), (10, .int (x10 + 1))]) [2, 3, 4, 1, 5, 6, 7, 0] rfl ?_
          exact ih (x5 - (Ww.2 ((x7 ||| ((1 : Int32) <<< (x10 &&& 31)))).toNatClampNeg)) x7 x8 (x10 + 1) h
        · refine g_iload F dX6_itemOf_77 7 rfl ?_
          refine g_istore F (lv' := [(8, .int x10), (0, .ref (a 0)), (1, .ref (a1 0)), (4, .int x4), (5, .long x5), (7, .int x7), (9, .int x9), (10, .int x10)]) dX6_itemOf_79 (by decide) rfl ?_
          refine g_iload F dX6_itemOf_81 5 rfl ?_
          refine g_iconst F (v := (1 : Int32)) dX6_itemOf_83 (by decide) ?_
          refine g_iload F dX6_itemOf_84 7 rfl ?_
          refine g_ishl F dX6_itemOf_86 ?_
          refine g_ior F dX6_itemOf_87 ?_
          refine g_istore F (lv' := [(7, .int (x7 ||| ((1 : Int32) <<< (x10 &&& 31)))), (8, .int x10), (0, .ref (a 0)), (1, .ref (a1 0)), (4, .int x4), (5, .long x5), (9, .int x9), (10, .int x10)]) dX6_itemOf_88 (by decide) rfl ?_
          refine g_goto F 116 dX6_itemOf_90 (by decide) ?_
          refine Go.sub (lv' := [(0, .ref (a 0)), (1, .ref (a1 0)), (4, .int x4), (5, .long x5), (7, .int (x7 ||| ((1 : Int32) <<< (x10 &&& 31)))), (8, .int x10), (9, .int x9)]) [2, 3, 4, 5, 0, 1, 6] rfl ?_
          exact hke x5 (x7 ||| ((1 : Int32) <<< (x10 &&& 31))) x10 h
      · refine g_goto F 110 dX6_itemOf_56 (by decide) ?_
        refine g_iinc F (v := (x10 + 1)) (lv' := [(10, .int (x10 + 1)), (0, .ref (a 0)), (1, .ref (a1 0)), (4, .int x4), (5, .long x5), (7, .int x7), (8, .int x8), (9, .int x9)]) dX6_itemOf_110 7 rfl rfl (by decide) rfl ?_
        refine g_goto F 36 dX6_itemOf_113 (by decide) ?_
        refine Go.sub (lv' := [(0, .ref (a 0)), (1, .ref (a1 0)), (4, .int x4), (5, .long x5), (7, .int x7), (8, .int x8), (9, .int x9), (10, .int (x10 + 1))]) [1, 2, 3, 4, 5, 6, 7, 0] rfl ?_
        exact ih x5 x7 x8 (x10 + 1) h
set_option maxHeartbeats 4000000 in
set_option maxRecDepth 100000 in
theorem k_X6_itemOf_26_ok {G : GX} {cy : Nat → ClassId} (a : Nat → Nat) (a1 : Nat → Nat)  (x4 : Int32) (Ww : TalS) (Dd : NetS) (N1 : NetS) {out : Int32 × TalS × NetS} (F : Fx G cX6_itemOf wsX6_itemOf RX6 cy 11 (rm_X6_itemOf)) (Rq : Rx G "itemOf" (some .int) (some (.int out.1)) (fun z => z = [(sTal cy a out.2.1), (sNet cy (fun k => a (200 + k)) out.2.2), (sNet cy a1 N1)]) 0 0) (ke : Int32 → Option (Int32 × TalS × NetS)) (hke : ∀ (x8 : Int32) , ke x8 = some out → Go G 0 0 122 [(8, .int x8)] [] [(sTal cy a Ww), (sNet cy (fun k => a (200 + k)) Dd), (sNet cy a1 N1)]) : ∀ (n : Nat) (x5 : Int64) (x7 : Int32) (x8 : Int32) (x9 : Int32) , k_X6_itemOf_26 x4 Ww Dd N1 ke n x5 x7 x8 x9 = some out → Go G 0 0 26 [(0, .ref (a 0)), (1, .ref (a1 0)), (4, .int x4), (5, .long x5), (7, .int x7), (8, .int x8), (9, .int x9)] [] [(sTal cy a Ww), (sNet cy (fun k => a (200 + k)) Dd), (sNet cy a1 N1)] := by
  intro n
  induction n with
  | zero =>
    intro x5 x7 x8 x9 h
    exact nosome h
  | succ n ih =>
    intro x5 x7 x8 x9 h
    rw [k_X6_itemOf_26.eq_2] at h
    refine g_iload F dX6_itemOf_26 6 rfl ?_
    refine g_iload F dX6_itemOf_28 2 rfl ?_
    refine g_icmp_gt F 122 h dX6_itemOf_30 (by decide) (fun h => ?_) (fun h => ?_)
    · refine Go.sub (lv' := [(8, .int x8)]) [5] rfl ?_
      exact hke x8 h
    · refine g_iconst F (v := (0 : Int32)) dX6_itemOf_33 (by decide) ?_
      refine g_istore F (lv' := [(10, .int (0 : Int32)), (0, .ref (a 0)), (1, .ref (a1 0)), (4, .int x4), (5, .long x5), (7, .int x7), (8, .int x8), (9, .int x9)]) dX6_itemOf_34 (by decide) rfl ?_
      refine Go.sub (lv' := [(0, .ref (a 0)), (1, .ref (a1 0)), (4, .int x4), (5, .long x5), (7, .int x7), (8, .int x8), (9, .int x9), (10, .int (0 : Int32))]) [1, 2, 3, 4, 5, 6, 7, 0] rfl ?_
      refine k_X6_itemOf_36_ok a a1 x4 x9 Ww Dd N1 F Rq _ (fun x5_3 x7_3 x8_3 h => ?_) _ x5 x7 x8 (0 : Int32) h
      refine g_iinc F (v := (x9 + 1)) (lv' := [(9, .int (x9 + 1)), (0, .ref (a 0)), (1, .ref (a1 0)), (4, .int x4), (5, .long x5_3), (7, .int x7_3), (8, .int x8_3)]) dX6_itemOf_116 6 rfl rfl (by decide) rfl ?_
      refine g_goto F 26 dX6_itemOf_119 (by decide) ?_
      refine Go.sub (lv' := [(0, .ref (a 0)), (1, .ref (a1 0)), (4, .int x4), (5, .long x5_3), (7, .int x7_3), (8, .int x8_3), (9, .int (x9 + 1))]) [1, 2, 3, 4, 5, 6, 0] rfl ?_
      exact ih x5_3 x7_3 x8_3 (x9 + 1) h
set_option maxHeartbeats 4000000 in
set_option maxRecDepth 100000 in
theorem ok_X6_itemOf (l : Launch) (D : va_G) (cy : Nat → ClassId) (a : Nat → Nat) (a1 : Nat → Nat)  (Ww : TalS) (Dd : NetS) (N1 : NetS) (x2 : Int64) (x4 : Int32) (out : Int32 × TalS × NetS) (h : f_X6_itemOf Ww Dd N1 x2 x4 = some out) : OK l D cy yX6_itemOf wsX6_itemOf rm_X6_itemOf [.ref (a 0), .ref (a1 0), .long x2, .int x4] [(sTal cy a Ww), (sNet cy (fun k => a (200 + k)) Dd), (sNet cy a1 N1)] (some (.int out.1)) [(sTal cy a out.2.1), (sNet cy (fun k => a (200 + k)) out.2.2), (sNet cy a1 N1)] := by
  refine OKx.of (cc := cX6_itemOf) (maxL := 11) (ret := (some .int)) (by decide) rfl (Nat.le_of_ble_eq_true rfl) (fun G F Rq => ?_)
  show Go G 0 0 0 [(0, .ref (a 0)), (1, .ref (a1 0)), (2, .long x2), (4, .int x4)] [] [(sTal cy a Ww), (sNet cy (fun k => a (200 + k)) Dd), (sNet cy a1 N1)]
  replace F : Fx G cX6_itemOf wsX6_itemOf RX6 cy 11 (rm_X6_itemOf) := F
  replace Rq : Rx G "itemOf" (some .int) (some (.int out.1)) (fun z => z = [(sTal cy a out.2.1), (sNet cy (fun k => a (200 + k)) out.2.2), (sNet cy a1 N1)]) 0 0 := Rq
  unfold f_X6_itemOf at h
  refine g_lload_n F dX6_itemOf_0 rfl 2 rfl ?_
  refine g_aload_n F dX6_itemOf_1 rfl 0 rfl ?_
  refine g_aload_n F dX6_itemOf_2 rfl 1 rfl ?_
  obtain ⟨r1, hr1, h⟩ := bnd h
  refine g_cV F [.ref (a1 0)] 0 0 (ok_X6_all (gl G) (gD G) cy a a1 Ww Dd N1 r1 hr1) dX6_itemOf_3 rfl rfl gX6_itemOf_X6_all rfl ⟨rfl, cd_X6_all⟩ (by decide) rfl (Nat.le_of_ble_eq_true rfl) [0, 1, 2] (by decide) rfl rfl (sg' := [(sTal cy a r1.2.1), (sNet cy (fun k => a (200 + k)) r1.2.2), (sNet cy a1 N1)]) (st' := [.long r1.1, .long x2]) rfl rfl ?_
  refine g_lcmp F dX6_itemOf_6 ?_
  refine g_if_lt F 13 h dX6_itemOf_7 (by decide) (fun h => ?_) (fun h => ?_)
  · refine g_lload_n F dX6_itemOf_13 rfl 2 rfl ?_
    refine g_lstore F (lv' := [(5, .long x2), (0, .ref (a 0)), (1, .ref (a1 0)), (2, .long x2), (4, .int x4)]) dX6_itemOf_14 (by decide) rfl ?_
    refine g_iconst F (v := (0 : Int32)) dX6_itemOf_16 (by decide) ?_
    refine g_istore F (lv' := [(7, .int (0 : Int32)), (5, .long x2), (0, .ref (a 0)), (1, .ref (a1 0)), (2, .long x2), (4, .int x4)]) dX6_itemOf_17 (by decide) rfl ?_
    refine g_bipush F (v := (-9 : Int32)) dX6_itemOf_19 (by decide) ?_
    refine g_istore F (lv' := [(8, .int (-9 : Int32)), (7, .int (0 : Int32)), (5, .long x2), (0, .ref (a 0)), (1, .ref (a1 0)), (2, .long x2), (4, .int x4)]) dX6_itemOf_21 (by decide) rfl ?_
    refine g_iconst F (v := (0 : Int32)) dX6_itemOf_23 (by decide) ?_
    refine g_istore F (lv' := [(9, .int (0 : Int32)), (8, .int (-9 : Int32)), (7, .int (0 : Int32)), (5, .long x2), (0, .ref (a 0)), (1, .ref (a1 0)), (2, .long x2), (4, .int x4)]) dX6_itemOf_24 (by decide) rfl ?_
    refine Go.sub (lv' := [(0, .ref (a 0)), (1, .ref (a1 0)), (4, .int x4), (5, .long x2), (7, .int (0 : Int32)), (8, .int (-9 : Int32)), (9, .int (0 : Int32))]) [4, 5, 7, 3, 2, 1, 0] rfl ?_
    refine k_X6_itemOf_26_ok a a1 x4 r1.2.1 r1.2.2 N1 F Rq _ (fun x8_4 h => ?_) _ x2 (0 : Int32) (-9 : Int32) (0 : Int32) h
    refine g_iload F dX6_itemOf_122 0 rfl ?_
    obtain rfl := Option.some.inj h
    exact g_iret F Rq rfl dX6_itemOf_124
  · refine g_bipush F (v := (-9 : Int32)) dX6_itemOf_10 (by decide) ?_
    obtain rfl := Option.some.inj h
    exact g_iret F Rq rfl dX6_itemOf_12
theorem hi_X7_append_X7 : ∀ w ∈ u_ws RX7 TX7 6, w ∈ wsX7_append := by decide +kernel
theorem fl_X7_append_15 : Cond.fieldLink RX7 15 "ArcOrder$Text" "length" "I" ∈ wsX7_append := by decide +kernel
theorem fl_X7_append_9 : Cond.fieldLink RX7 9 "ArcOrder$Text" "letters" "[I" ∈ wsX7_append := by decide +kernel
abbrev rm_X7_append : Room := { frames := 0, cells := 0, slots := 0, locals := 0 }
set_option maxHeartbeats 4000000 in
set_option maxRecDepth 100000 in
theorem ok_X7_append (l : Launch) (D : va_G) (cy : Nat → ClassId) (a : Nat → Nat)  (Tt : TxtS) (x1 : Int32) (out : Int32 × TxtS) (h : f_X7_append Tt x1 = some out) : OK l D cy yX7_append wsX7_append rm_X7_append [.ref (a 0), .int x1] [(sTxt cy a Tt)] (some (.int out.1)) [(sTxt cy a out.2)] := by
  refine OKx.of (cc := cX7_append) (maxL := 2) (ret := (some .boolean)) (by decide) rfl (Nat.le_of_ble_eq_true rfl) (fun G F Rq => ?_)
  show Go G 0 0 0 [(0, .ref (a 0)), (1, .int x1)] [] [(sTxt cy a Tt)]
  replace F : Fx G cX7_append wsX7_append RX7 cy 2 (rm_X7_append) := F
  replace Rq : Rx G "append" (some .boolean) (some (.int out.1)) (fun z => z = [(sTxt cy a out.2)]) 0 0 := Rq
  unfold f_X7_append at h
  refine g_aload_n F dX7_append_0 rfl 0 rfl ?_
  refine g_get F (C := RX7) (T := TX7) (N := 6) (ci := 7) (v := .int (Tt.1 0)) hi_X7_append_X7 0 0 0 dX7_append_1 rfl rfl (by decide) fl_X7_append_15 rfl ?_
  refine g_bipush F (v := (120 : Int32)) dX7_append_4 (by decide) ?_
  refine g_icmp_lt F 11 h dX7_append_6 (by decide) (fun h => ?_) (fun h => ?_)
  · refine g_aload_n F dX7_append_11 rfl 0 rfl ?_
    refine g_get F (C := RX7) (T := TX7) (N := 6) (ci := 7) (v := .ref (a 2)) hi_X7_append_X7 0 0 1 dX7_append_12 rfl rfl (by decide) fl_X7_append_9 rfl ?_
    refine g_aload_n F dX7_append_15 rfl 0 rfl ?_
    refine g_get F (C := RX7) (T := TX7) (N := 6) (ci := 7) (v := .int (Tt.1 0)) hi_X7_append_X7 0 0 0 dX7_append_16 rfl rfl (by decide) fl_X7_append_15 rfl ?_
    refine g_iload_n F dX7_append_19 rfl 1 rfl ?_
    refine g_iastore F h (sg' := [(sTxt cy a (Tt.1, (upd Tt.2 ((Tt.1 0)).toNatClampNeg x1)))]) 0 1 dX7_append_20 rfl rfl (fun h => ?_)
    refine g_aload_n F dX7_append_21 rfl 0 rfl ?_
    refine g_dup F dX7_append_22 rfl ?_
    refine g_get F (C := RX7) (T := TX7) (N := 6) (ci := 7) (v := .int (Tt.1 0)) hi_X7_append_X7 0 0 0 dX7_append_23 rfl rfl (by decide) fl_X7_append_15 rfl ?_
    refine g_iconst F (v := (1 : Int32)) dX7_append_26 (by decide) ?_
    refine g_iadd F dX7_append_27 ?_
    refine g_put F (C := RX7) (T := TX7) (N := 6) (ci := 7) (v := .int ((Tt.1 0) + (1 : Int32))) (ty := .int) (sg' := [(sTxt cy a ((upd Tt.1 0 ((Tt.1 0) + (1 : Int32))), (upd Tt.2 ((Tt.1 0)).toNatClampNeg x1)))]) hi_X7_append_X7 tyX7 tyX7_ok nmX7 0 0 0 dX7_append_28 rfl rfl (by decide) fl_X7_append_15 rfl rfl rfl rfl (Nat.le_of_ble_eq_true rfl) rfl ?_
    refine g_iconst F (v := (1 : Int32)) dX7_append_31 (by decide) ?_
    obtain rfl := Option.some.inj h
    exact g_zret F Rq rfl rfl dX7_append_32
  · refine g_iconst F (v := (0 : Int32)) dX7_append_9 (by decide) ?_
    obtain rfl := Option.some.inj h
    exact g_zret F Rq rfl rfl dX7_append_10
theorem hi_X7_isDigit_X7 : ∀ w ∈ u_ws RX7 TX7 6, w ∈ wsX7_isDigit := by decide +kernel
theorem fl_X7_isDigit_9 : Cond.fieldLink RX7 9 "ArcOrder$Text" "letters" "[I" ∈ wsX7_isDigit := by decide +kernel
abbrev rm_X7_isDigit : Room := { frames := 0, cells := 0, slots := 0, locals := 0 }
set_option maxHeartbeats 4000000 in
set_option maxRecDepth 100000 in
theorem ok_X7_isDigit (l : Launch) (D : va_G) (cy : Nat → ClassId) (a : Nat → Nat)  (Tt : TxtS) (x1 : Int32) (out : Int32) (h : f_X7_isDigit Tt x1 = some out) : OK l D cy yX7_isDigit wsX7_isDigit rm_X7_isDigit [.ref (a 0), .int x1] [(sTxt cy a Tt)] (some (.int out)) [(sTxt cy a Tt)] := by
  refine OKx.of (cc := cX7_isDigit) (maxL := 2) (ret := (some .boolean)) (by decide) rfl (Nat.le_of_ble_eq_true rfl) (fun G F Rq => ?_)
  show Go G 0 0 0 [(0, .ref (a 0)), (1, .int x1)] [] [(sTxt cy a Tt)]
  replace F : Fx G cX7_isDigit wsX7_isDigit RX7 cy 2 (rm_X7_isDigit) := F
  replace Rq : Rx G "isDigit" (some .boolean) (some (.int out)) (fun z => z = [(sTxt cy a Tt)]) 0 0 := Rq
  unfold f_X7_isDigit at h
  refine g_aload_n F dX7_isDigit_0 rfl 0 rfl ?_
  refine g_get F (C := RX7) (T := TX7) (N := 6) (ci := 7) (v := .ref (a 2)) hi_X7_isDigit_X7 0 0 1 dX7_isDigit_1 rfl rfl (by decide) fl_X7_isDigit_9 rfl ?_
  refine g_iload_n F dX7_isDigit_4 rfl 1 rfl ?_
  refine g_iaload F h 0 1 dX7_isDigit_5 rfl (fun h => ?_)
  refine g_bipush F (v := (48 : Int32)) dX7_isDigit_6 (by decide) ?_
  refine g_icmp_lt F 26 h dX7_isDigit_8 (by decide) (fun h => ?_) (fun h => ?_)
  · refine g_iconst F (v := (0 : Int32)) dX7_isDigit_26 (by decide) ?_
    obtain rfl := Option.some.inj h
    exact g_zret F Rq rfl rfl dX7_isDigit_27
  · refine g_aload_n F dX7_isDigit_11 rfl 0 rfl ?_
    refine g_get F (C := RX7) (T := TX7) (N := 6) (ci := 7) (v := .ref (a 2)) hi_X7_isDigit_X7 0 0 1 dX7_isDigit_12 rfl rfl (by decide) fl_X7_isDigit_9 rfl ?_
    refine g_iload_n F dX7_isDigit_15 rfl 1 rfl ?_
    refine g_iaload F h 0 1 dX7_isDigit_16 rfl (fun h => ?_)
    refine g_bipush F (v := (57 : Int32)) dX7_isDigit_17 (by decide) ?_
    refine g_icmp_gt F 26 h dX7_isDigit_19 (by decide) (fun h => ?_) (fun h => ?_)
    · refine g_iconst F (v := (0 : Int32)) dX7_isDigit_26 (by decide) ?_
      obtain rfl := Option.some.inj h
      exact g_zret F Rq rfl rfl dX7_isDigit_27
    · refine g_iconst F (v := (1 : Int32)) dX7_isDigit_22 (by decide) ?_
      refine g_goto F 27 dX7_isDigit_23 (by decide) ?_
      obtain rfl := Option.some.inj h
      exact g_zret F Rq rfl rfl dX7_isDigit_27
theorem hi_X7_readDigits_X7 : ∀ w ∈ u_ws RX7 TX7 6, w ∈ wsX7_readDigits := by decide +kernel
theorem fl_X7_readDigits_53 : Cond.fieldLink RX7 53 "ArcOrder$Text" "value" "I" ∈ wsX7_readDigits := by decide +kernel
theorem fl_X7_readDigits_25 : Cond.fieldLink RX7 25 "ArcOrder$Text" "tokenEnd" "I" ∈ wsX7_readDigits := by decide +kernel
theorem fl_X7_readDigits_15 : Cond.fieldLink RX7 15 "ArcOrder$Text" "length" "I" ∈ wsX7_readDigits := by decide +kernel
theorem fl_X7_readDigits_9 : Cond.fieldLink RX7 9 "ArcOrder$Text" "letters" "[I" ∈ wsX7_readDigits := by decide +kernel
theorem mm_X7_readDigits_min : Cond.methodLink RX7 73 Lib.Math.min.name ∈ wsX7_readDigits ∧ Cond.static Lib.Math.min.name ∈ wsX7_readDigits ∧ Cond.initialized "java/lang/Math" ∈ wsX7_readDigits ∧ Cond.code Lib.Math.min.name Lib.Math.min.code 2 (some .int) ∈ wsX7_readDigits := by decide +kernel
theorem fl_X7_readDigits_39 : Cond.fieldLink RX7 39 "ArcOrder$Text" "tokenStart" "I" ∈ wsX7_readDigits := by decide +kernel
theorem fl_X7_readDigits_31 : Cond.fieldLink RX7 31 "ArcOrder$Text" "token" "C" ∈ wsX7_readDigits := by decide +kernel
abbrev rm_X7_readDigits : Room := { frames := 1, cells := 0, slots := 0, locals := 40 }
set_option maxHeartbeats 4000000 in
set_option maxRecDepth 100000 in
theorem k_X7_readDigits_5_ok {G : GX} {cy : Nat → ClassId} (a : Nat → Nat)    {out : TxtS} (F : Fx G cX7_readDigits wsX7_readDigits RX7 cy 2 (rm_X7_readDigits)) (Rq : Rx G "readDigits" none none (fun z => z = [(sTxt cy a out)]) 0 0) (ke : TxtS → Option (TxtS)) (hke : ∀  (Tt : TxtS), ke Tt = some out → Go G 0 0 69 [(0, .ref (a 0))] [] [(sTxt cy a Tt)]) : ∀ (n : Nat)  (Tt : TxtS), k_X7_readDigits_5 ke n Tt = some out → Go G 0 0 5 [(0, .ref (a 0))] [] [(sTxt cy a Tt)] := by
  intro n
  induction n with
  | zero =>
    intro Tt h
    exact nosome h
  | succ n ih =>
    intro Tt h
    rw [k_X7_readDigits_5.eq_2] at h
    refine g_aload_n F dX7_readDigits_5 rfl 0 rfl ?_
    refine g_get F (C := RX7) (T := TX7) (N := 6) (ci := 7) (v := .int (Tt.1 4)) hi_X7_readDigits_X7 0 0 4 dX7_readDigits_6 rfl rfl (by decide) fl_X7_readDigits_25 rfl ?_
    refine g_aload_n F dX7_readDigits_9 rfl 0 rfl ?_
    refine g_get F (C := RX7) (T := TX7) (N := 6) (ci := 7) (v := .int (Tt.1 0)) hi_X7_readDigits_X7 0 0 0 dX7_readDigits_10 rfl rfl (by decide) fl_X7_readDigits_15 rfl ?_
    refine g_icmp_ge F 69 h dX7_readDigits_13 (by decide) (fun h => ?_) (fun h => ?_)
    · refine Go.sub (lv' := [(0, .ref (a 0))]) [0] rfl ?_
      exact hke Tt h
    · refine g_aload_n F dX7_readDigits_16 rfl 0 rfl ?_
      refine g_aload_n F dX7_readDigits_17 rfl 0 rfl ?_
      refine g_get F (C := RX7) (T := TX7) (N := 6) (ci := 7) (v := .int (Tt.1 4)) hi_X7_readDigits_X7 0 0 4 dX7_readDigits_18 rfl rfl (by decide) fl_X7_readDigits_25 rfl ?_
      obtain ⟨r1, hr1, h⟩ := bnd h
      refine g_cV F [.int (Tt.1 4)] 0 0 (ok_X7_isDigit (gl G) (gD G) cy a Tt (Tt.1 4) r1 hr1) dX7_readDigits_21 rfl rfl gX7_readDigits_X7_isDigit rfl ⟨rfl, cd_X7_isDigit⟩ (by decide) rfl (Nat.le_of_ble_eq_true rfl) [0] (by decide) rfl rfl (sg' := [(sTxt cy a Tt)]) (st' := [.int r1]) rfl rfl ?_
      refine g_if_eq F 69 h dX7_readDigits_24 (by decide) (fun h => ?_) (fun h => ?_)
      · refine Go.sub (lv' := [(0, .ref (a 0))]) [0] rfl ?_
        exact hke Tt h
      · refine g_aload_n F dX7_readDigits_27 rfl 0 rfl ?_
        refine g_bipush F (v := (10 : Int32)) dX7_readDigits_28 (by decide) ?_
        refine g_aload_n F dX7_readDigits_30 rfl 0 rfl ?_
        refine g_get F (C := RX7) (T := TX7) (N := 6) (ci := 7) (v := .int (Tt.1 5)) hi_X7_readDigits_X7 0 0 5 dX7_readDigits_31 rfl rfl (by decide) fl_X7_readDigits_53 rfl ?_
        refine g_imul F dX7_readDigits_34 ?_
        refine g_aload_n F dX7_readDigits_35 rfl 0 rfl ?_
        refine g_get F (C := RX7) (T := TX7) (N := 6) (ci := 7) (v := .ref (a 2)) hi_X7_readDigits_X7 0 0 1 dX7_readDigits_36 rfl rfl (by decide) fl_X7_readDigits_9 rfl ?_
        refine g_aload_n F dX7_readDigits_39 rfl 0 rfl ?_
        refine g_get F (C := RX7) (T := TX7) (N := 6) (ci := 7) (v := .int (Tt.1 4)) hi_X7_readDigits_X7 0 0 4 dX7_readDigits_40 rfl rfl (by decide) fl_X7_readDigits_25 rfl ?_
        refine g_iaload F h 0 1 dX7_readDigits_43 rfl (fun h => ?_)
        refine g_iadd F dX7_readDigits_44 ?_
        refine g_bipush F (v := (48 : Int32)) dX7_readDigits_45 (by decide) ?_
        refine g_isub F dX7_readDigits_47 ?_
        refine g_bipush F (v := (100 : Int32)) dX7_readDigits_48 (by decide) ?_
        refine g_mmin F dX7_readDigits_50 mm_X7_readDigits_min ⟨by decide, Nat.le_of_ble_eq_true rfl, by decide, by decide⟩ ?_
        refine g_put F (C := RX7) (T := TX7) (N := 6) (ci := 7) (v := .int (imin ((((10 : Int32) * (Tt.1 5)) + (Tt.2 ((Tt.1 4)).toNatClampNeg)) - (48 : Int32)) (100 : Int32))) (ty := .int) (sg' := [(sTxt cy a ((upd Tt.1 5 (imin ((((10 : Int32) * (Tt.1 5)) + (Tt.2 ((Tt.1 4)).toNatClampNeg)) - (48 : Int32)) (100 : Int32))), Tt.2))]) hi_X7_readDigits_X7 tyX7 tyX7_ok nmX7 0 0 5 dX7_readDigits_53 rfl rfl (by decide) fl_X7_readDigits_53 rfl rfl rfl rfl (Nat.le_of_ble_eq_true rfl) rfl ?_
        refine g_aload_n F dX7_readDigits_56 rfl 0 rfl ?_
        refine g_dup F dX7_readDigits_57 rfl ?_
        refine g_get F (C := RX7) (T := TX7) (N := 6) (ci := 7) (v := .int (Tt.1 4)) hi_X7_readDigits_X7 0 0 4 dX7_readDigits_58 rfl rfl (by decide) fl_X7_readDigits_25 rfl ?_
        refine g_iconst F (v := (1 : Int32)) dX7_readDigits_61 (by decide) ?_
        refine g_iadd F dX7_readDigits_62 ?_
        refine g_put F (C := RX7) (T := TX7) (N := 6) (ci := 7) (v := .int ((Tt.1 4) + (1 : Int32))) (ty := .int) (sg' := [(sTxt cy a ((upd (upd Tt.1 5 (imin ((((10 : Int32) * (Tt.1 5)) + (Tt.2 ((Tt.1 4)).toNatClampNeg)) - (48 : Int32)) (100 : Int32))) 4 ((Tt.1 4) + (1 : Int32))), Tt.2))]) hi_X7_readDigits_X7 tyX7 tyX7_ok nmX7 0 0 4 dX7_readDigits_63 rfl rfl (by decide) fl_X7_readDigits_25 rfl rfl rfl rfl (Nat.le_of_ble_eq_true rfl) rfl ?_
        refine g_goto F 5 dX7_readDigits_66 (by decide) ?_
        refine Go.sub (lv' := [(0, .ref (a 0))]) [0] rfl ?_
        exact ih ((upd (upd Tt.1 5 (imin ((((10 : Int32) * (Tt.1 5)) + (Tt.2 ((Tt.1 4)).toNatClampNeg)) - (48 : Int32)) (100 : Int32))) 4 ((Tt.1 4) + (1 : Int32))), Tt.2) h
set_option maxHeartbeats 4000000 in
set_option maxRecDepth 100000 in
theorem ok_X7_readDigits (l : Launch) (D : va_G) (cy : Nat → ClassId) (a : Nat → Nat)  (Tt : TxtS)  (out : TxtS) (h : f_X7_readDigits Tt = some out) : OK l D cy yX7_readDigits wsX7_readDigits rm_X7_readDigits [.ref (a 0)] [(sTxt cy a Tt)] none [(sTxt cy a out)] := by
  refine OKx.of (cc := cX7_readDigits) (maxL := 2) (ret := none) (by decide) rfl (Nat.le_of_ble_eq_true rfl) (fun G F Rq => ?_)
  show Go G 0 0 0 [(0, .ref (a 0))] [] [(sTxt cy a Tt)]
  replace F : Fx G cX7_readDigits wsX7_readDigits RX7 cy 2 (rm_X7_readDigits) := F
  replace Rq : Rx G "readDigits" none none (fun z => z = [(sTxt cy a out)]) 0 0 := Rq
  unfold f_X7_readDigits at h
  refine g_aload_n F dX7_readDigits_0 rfl 0 rfl ?_
  refine g_iconst F (v := (0 : Int32)) dX7_readDigits_1 (by decide) ?_
  refine g_put F (C := RX7) (T := TX7) (N := 6) (ci := 7) (v := .int (0 : Int32)) (ty := .int) (sg' := [(sTxt cy a ((upd Tt.1 5 (0 : Int32)), Tt.2))]) hi_X7_readDigits_X7 tyX7 tyX7_ok nmX7 0 0 5 dX7_readDigits_2 rfl rfl (by decide) fl_X7_readDigits_53 rfl rfl rfl rfl (Nat.le_of_ble_eq_true rfl) rfl ?_
  refine Go.sub (lv' := [(0, .ref (a 0))]) [0] rfl ?_
  refine k_X7_readDigits_5_ok a  F Rq _ (fun Tt_2 h => ?_) _ ((upd Tt.1 5 (0 : Int32)), Tt.2) h
  refine g_aload_n F dX7_readDigits_69 rfl 0 rfl ?_
  refine g_get F (C := RX7) (T := TX7) (N := 6) (ci := 7) (v := .ref (a 2)) hi_X7_readDigits_X7 0 0 1 dX7_readDigits_70 rfl rfl (by decide) fl_X7_readDigits_9 rfl ?_
  refine g_aload_n F dX7_readDigits_73 rfl 0 rfl ?_
  refine g_get F (C := RX7) (T := TX7) (N := 6) (ci := 7) (v := .int (Tt_2.1 3)) hi_X7_readDigits_X7 0 0 3 dX7_readDigits_74 rfl rfl (by decide) fl_X7_readDigits_39 rfl ?_
  refine g_iaload F h 0 1 dX7_readDigits_77 rfl (fun h => ?_)
  refine g_bipush F (v := (48 : Int32)) dX7_readDigits_78 (by decide) ?_
  refine g_icmp_ne F 100 h dX7_readDigits_80 (by decide) (fun h => ?_) (fun h => ?_)
  · refine g_iconst F (v := (0 : Int32)) dX7_readDigits_100 (by decide) ?_
    refine g_istore_n F (lv' := [(1, .int (0 : Int32)), (0, .ref (a 0))]) dX7_readDigits_101 rfl (by decide) rfl ?_
    refine g_aload_n F dX7_readDigits_102 rfl 1 rfl ?_
    refine g_iload_n F dX7_readDigits_103 rfl 0 rfl ?_
    refine g_if_ne F 116 h dX7_readDigits_104 (by decide) (fun h => ?_) (fun h => ?_)
    · refine g_bipush F (v := (119 : Int32)) dX7_readDigits_116 (by decide) ?_
      refine g_goto F 123 dX7_readDigits_118 (by decide) ?_
      refine g_put F (C := RX7) (T := TX7) (N := 6) (ci := 7) (v := .int (119 : Int32)) (ty := .char) (sg' := [(sTxt cy a ((upd Tt_2.1 2 (119 : Int32)), Tt_2.2))]) hi_X7_readDigits_X7 tyX7 tyX7_ok nmX7 0 0 2 dX7_readDigits_123 rfl rfl (by decide) fl_X7_readDigits_31 rfl rfl rfl rfl (Nat.le_of_ble_eq_true rfl) rfl ?_
      obtain rfl := Option.some.inj h
      exact g_vret F Rq rfl dX7_readDigits_126
    · refine g_aload_n F dX7_readDigits_107 rfl 1 rfl ?_
      refine g_get F (C := RX7) (T := TX7) (N := 6) (ci := 7) (v := .int (Tt_2.1 5)) hi_X7_readDigits_X7 0 0 5 dX7_readDigits_108 rfl rfl (by decide) fl_X7_readDigits_53 rfl ?_
      refine g_bipush F (v := (99 : Int32)) dX7_readDigits_111 (by decide) ?_
      refine g_icmp_le F 121 h dX7_readDigits_113 (by decide) (fun h => ?_) (fun h => ?_)
      · refine g_bipush F (v := (100 : Int32)) dX7_readDigits_121 (by decide) ?_
        refine g_put F (C := RX7) (T := TX7) (N := 6) (ci := 7) (v := .int (100 : Int32)) (ty := .char) (sg' := [(sTxt cy a ((upd Tt_2.1 2 (100 : Int32)), Tt_2.2))]) hi_X7_readDigits_X7 tyX7 tyX7_ok nmX7 0 0 2 dX7_readDigits_123 rfl rfl (by decide) fl_X7_readDigits_31 rfl rfl rfl rfl (Nat.le_of_ble_eq_true rfl) rfl ?_
        obtain rfl := Option.some.inj h
        exact g_vret F Rq rfl dX7_readDigits_126
      · refine g_bipush F (v := (119 : Int32)) dX7_readDigits_116 (by decide) ?_
        refine g_goto F 123 dX7_readDigits_118 (by decide) ?_
        refine g_put F (C := RX7) (T := TX7) (N := 6) (ci := 7) (v := .int (119 : Int32)) (ty := .char) (sg' := [(sTxt cy a ((upd Tt_2.1 2 (119 : Int32)), Tt_2.2))]) hi_X7_readDigits_X7 tyX7 tyX7_ok nmX7 0 0 2 dX7_readDigits_123 rfl rfl (by decide) fl_X7_readDigits_31 rfl rfl rfl rfl (Nat.le_of_ble_eq_true rfl) rfl ?_
        obtain rfl := Option.some.inj h
        exact g_vret F Rq rfl dX7_readDigits_126
  · refine g_aload_n F dX7_readDigits_83 rfl 0 rfl ?_
    refine g_get F (C := RX7) (T := TX7) (N := 6) (ci := 7) (v := .int (Tt_2.1 4)) hi_X7_readDigits_X7 0 0 4 dX7_readDigits_84 rfl rfl (by decide) fl_X7_readDigits_25 rfl ?_
    refine g_aload_n F dX7_readDigits_87 rfl 0 rfl ?_
    refine g_get F (C := RX7) (T := TX7) (N := 6) (ci := 7) (v := .int (Tt_2.1 3)) hi_X7_readDigits_X7 0 0 3 dX7_readDigits_88 rfl rfl (by decide) fl_X7_readDigits_39 rfl ?_
    refine g_iconst F (v := (1 : Int32)) dX7_readDigits_91 (by decide) ?_
    refine g_iadd F dX7_readDigits_92 ?_
    refine g_icmp_le F 100 h dX7_readDigits_93 (by decide) (fun h => ?_) (fun h => ?_)
    · refine g_iconst F (v := (0 : Int32)) dX7_readDigits_100 (by decide) ?_
      refine g_istore_n F (lv' := [(1, .int (0 : Int32)), (0, .ref (a 0))]) dX7_readDigits_101 rfl (by decide) rfl ?_
      refine g_aload_n F dX7_readDigits_102 rfl 1 rfl ?_
      refine g_iload_n F dX7_readDigits_103 rfl 0 rfl ?_
      refine g_if_ne F 116 h dX7_readDigits_104 (by decide) (fun h => ?_) (fun h => ?_)
      · refine g_bipush F (v := (119 : Int32)) dX7_readDigits_116 (by decide) ?_
        refine g_goto F 123 dX7_readDigits_118 (by decide) ?_
        refine g_put F (C := RX7) (T := TX7) (N := 6) (ci := 7) (v := .int (119 : Int32)) (ty := .char) (sg' := [(sTxt cy a ((upd Tt_2.1 2 (119 : Int32)), Tt_2.2))]) hi_X7_readDigits_X7 tyX7 tyX7_ok nmX7 0 0 2 dX7_readDigits_123 rfl rfl (by decide) fl_X7_readDigits_31 rfl rfl rfl rfl (Nat.le_of_ble_eq_true rfl) rfl ?_
        obtain rfl := Option.some.inj h
        exact g_vret F Rq rfl dX7_readDigits_126
      · refine g_aload_n F dX7_readDigits_107 rfl 1 rfl ?_
        refine g_get F (C := RX7) (T := TX7) (N := 6) (ci := 7) (v := .int (Tt_2.1 5)) hi_X7_readDigits_X7 0 0 5 dX7_readDigits_108 rfl rfl (by decide) fl_X7_readDigits_53 rfl ?_
        refine g_bipush F (v := (99 : Int32)) dX7_readDigits_111 (by decide) ?_
        refine g_icmp_le F 121 h dX7_readDigits_113 (by decide) (fun h => ?_) (fun h => ?_)
        · refine g_bipush F (v := (100 : Int32)) dX7_readDigits_121 (by decide) ?_
          refine g_put F (C := RX7) (T := TX7) (N := 6) (ci := 7) (v := .int (100 : Int32)) (ty := .char) (sg' := [(sTxt cy a ((upd Tt_2.1 2 (100 : Int32)), Tt_2.2))]) hi_X7_readDigits_X7 tyX7 tyX7_ok nmX7 0 0 2 dX7_readDigits_123 rfl rfl (by decide) fl_X7_readDigits_31 rfl rfl rfl rfl (Nat.le_of_ble_eq_true rfl) rfl ?_
          obtain rfl := Option.some.inj h
          exact g_vret F Rq rfl dX7_readDigits_126
        · refine g_bipush F (v := (119 : Int32)) dX7_readDigits_116 (by decide) ?_
          refine g_goto F 123 dX7_readDigits_118 (by decide) ?_
          refine g_put F (C := RX7) (T := TX7) (N := 6) (ci := 7) (v := .int (119 : Int32)) (ty := .char) (sg' := [(sTxt cy a ((upd Tt_2.1 2 (119 : Int32)), Tt_2.2))]) hi_X7_readDigits_X7 tyX7 tyX7_ok nmX7 0 0 2 dX7_readDigits_123 rfl rfl (by decide) fl_X7_readDigits_31 rfl rfl rfl rfl (Nat.le_of_ble_eq_true rfl) rfl ?_
          obtain rfl := Option.some.inj h
          exact g_vret F Rq rfl dX7_readDigits_126
    · refine g_iconst F (v := (1 : Int32)) dX7_readDigits_96 (by decide) ?_
      refine g_goto F 101 dX7_readDigits_97 (by decide) ?_
      refine g_istore_n F (lv' := [(1, .int (1 : Int32)), (0, .ref (a 0))]) dX7_readDigits_101 rfl (by decide) rfl ?_
      refine g_aload_n F dX7_readDigits_102 rfl 1 rfl ?_
      refine g_iload_n F dX7_readDigits_103 rfl 0 rfl ?_
      refine g_if_ne F 116 h dX7_readDigits_104 (by decide) (fun h => ?_) (fun h => ?_)
      · refine g_bipush F (v := (119 : Int32)) dX7_readDigits_116 (by decide) ?_
        refine g_goto F 123 dX7_readDigits_118 (by decide) ?_
        refine g_put F (C := RX7) (T := TX7) (N := 6) (ci := 7) (v := .int (119 : Int32)) (ty := .char) (sg' := [(sTxt cy a ((upd Tt_2.1 2 (119 : Int32)), Tt_2.2))]) hi_X7_readDigits_X7 tyX7 tyX7_ok nmX7 0 0 2 dX7_readDigits_123 rfl rfl (by decide) fl_X7_readDigits_31 rfl rfl rfl rfl (Nat.le_of_ble_eq_true rfl) rfl ?_
        obtain rfl := Option.some.inj h
        exact g_vret F Rq rfl dX7_readDigits_126
      · refine g_aload_n F dX7_readDigits_107 rfl 1 rfl ?_
        refine g_get F (C := RX7) (T := TX7) (N := 6) (ci := 7) (v := .int (Tt_2.1 5)) hi_X7_readDigits_X7 0 0 5 dX7_readDigits_108 rfl rfl (by decide) fl_X7_readDigits_53 rfl ?_
        refine g_bipush F (v := (99 : Int32)) dX7_readDigits_111 (by decide) ?_
        refine g_icmp_le F 121 h dX7_readDigits_113 (by decide) (fun h => ?_) (fun h => ?_)
        · refine g_bipush F (v := (100 : Int32)) dX7_readDigits_121 (by decide) ?_
          refine g_put F (C := RX7) (T := TX7) (N := 6) (ci := 7) (v := .int (100 : Int32)) (ty := .char) (sg' := [(sTxt cy a ((upd Tt_2.1 2 (100 : Int32)), Tt_2.2))]) hi_X7_readDigits_X7 tyX7 tyX7_ok nmX7 0 0 2 dX7_readDigits_123 rfl rfl (by decide) fl_X7_readDigits_31 rfl rfl rfl rfl (Nat.le_of_ble_eq_true rfl) rfl ?_
          obtain rfl := Option.some.inj h
          exact g_vret F Rq rfl dX7_readDigits_126
        · refine g_bipush F (v := (119 : Int32)) dX7_readDigits_116 (by decide) ?_
          refine g_goto F 123 dX7_readDigits_118 (by decide) ?_
          refine g_put F (C := RX7) (T := TX7) (N := 6) (ci := 7) (v := .int (119 : Int32)) (ty := .char) (sg' := [(sTxt cy a ((upd Tt_2.1 2 (119 : Int32)), Tt_2.2))]) hi_X7_readDigits_X7 tyX7 tyX7_ok nmX7 0 0 2 dX7_readDigits_123 rfl rfl (by decide) fl_X7_readDigits_31 rfl rfl rfl rfl (Nat.le_of_ble_eq_true rfl) rfl ?_
          obtain rfl := Option.some.inj h
          exact g_vret F Rq rfl dX7_readDigits_126
theorem hi_X7_nextToken_X7 : ∀ w ∈ u_ws RX7 TX7 6, w ∈ wsX7_nextToken := by decide +kernel
theorem fl_X7_nextToken_25 : Cond.fieldLink RX7 25 "ArcOrder$Text" "tokenEnd" "I" ∈ wsX7_nextToken := by decide +kernel
theorem fl_X7_nextToken_39 : Cond.fieldLink RX7 39 "ArcOrder$Text" "tokenStart" "I" ∈ wsX7_nextToken := by decide +kernel
theorem fl_X7_nextToken_15 : Cond.fieldLink RX7 15 "ArcOrder$Text" "length" "I" ∈ wsX7_nextToken := by decide +kernel
theorem fl_X7_nextToken_9 : Cond.fieldLink RX7 9 "ArcOrder$Text" "letters" "[I" ∈ wsX7_nextToken := by decide +kernel
theorem fl_X7_nextToken_31 : Cond.fieldLink RX7 31 "ArcOrder$Text" "token" "C" ∈ wsX7_nextToken := by decide +kernel
abbrev rm_X7_nextToken : Room := { frames := 2, cells := 0, slots := 0, locals := 61 }
set_option maxHeartbeats 4000000 in
set_option maxRecDepth 100000 in
theorem k_X7_nextToken_8_ok {G : GX} {cy : Nat → ClassId} (a : Nat → Nat)    {out : TxtS} (F : Fx G cX7_nextToken wsX7_nextToken RX7 cy 3 (rm_X7_nextToken)) (Rq : Rx G "nextToken" none none (fun z => z = [(sTxt cy a out)]) 0 0) (ke : TxtS → Option (TxtS)) (hke : ∀  (Tt : TxtS), ke Tt = some out → Go G 0 0 46 [(0, .ref (a 0))] [] [(sTxt cy a Tt)]) : ∀ (n : Nat)  (Tt : TxtS), k_X7_nextToken_8 ke n Tt = some out → Go G 0 0 8 [(0, .ref (a 0))] [] [(sTxt cy a Tt)] := by
  intro n
  induction n with
  | zero =>
    intro Tt h
    exact nosome h
  | succ n ih =>
    intro Tt h
    rw [k_X7_nextToken_8.eq_2] at h
    refine g_aload_n F dX7_nextToken_8 rfl 0 rfl ?_
    refine g_get F (C := RX7) (T := TX7) (N := 6) (ci := 7) (v := .int (Tt.1 3)) hi_X7_nextToken_X7 0 0 3 dX7_nextToken_9 rfl rfl (by decide) fl_X7_nextToken_39 rfl ?_
    refine g_aload_n F dX7_nextToken_12 rfl 0 rfl ?_
    refine g_get F (C := RX7) (T := TX7) (N := 6) (ci := 7) (v := .int (Tt.1 0)) hi_X7_nextToken_X7 0 0 0 dX7_nextToken_13 rfl rfl (by decide) fl_X7_nextToken_15 rfl ?_
    refine g_icmp_ge F 46 h dX7_nextToken_16 (by decide) (fun h => ?_) (fun h => ?_)
    · refine Go.sub (lv' := [(0, .ref (a 0))]) [0] rfl ?_
      exact hke Tt h
    · refine g_aload_n F dX7_nextToken_19 rfl 0 rfl ?_
      refine g_get F (C := RX7) (T := TX7) (N := 6) (ci := 7) (v := .ref (a 2)) hi_X7_nextToken_X7 0 0 1 dX7_nextToken_20 rfl rfl (by decide) fl_X7_nextToken_9 rfl ?_
      refine g_aload_n F dX7_nextToken_23 rfl 0 rfl ?_
      refine g_get F (C := RX7) (T := TX7) (N := 6) (ci := 7) (v := .int (Tt.1 3)) hi_X7_nextToken_X7 0 0 3 dX7_nextToken_24 rfl rfl (by decide) fl_X7_nextToken_39 rfl ?_
      refine g_iaload F h 0 1 dX7_nextToken_27 rfl (fun h => ?_)
      refine g_bipush F (v := (32 : Int32)) dX7_nextToken_28 (by decide) ?_
      refine g_icmp_ne F 46 h dX7_nextToken_30 (by decide) (fun h => ?_) (fun h => ?_)
      · refine Go.sub (lv' := [(0, .ref (a 0))]) [0] rfl ?_
        exact hke Tt h
      · refine g_aload_n F dX7_nextToken_33 rfl 0 rfl ?_
        refine g_dup F dX7_nextToken_34 rfl ?_
        refine g_get F (C := RX7) (T := TX7) (N := 6) (ci := 7) (v := .int (Tt.1 3)) hi_X7_nextToken_X7 0 0 3 dX7_nextToken_35 rfl rfl (by decide) fl_X7_nextToken_39 rfl ?_
        refine g_iconst F (v := (1 : Int32)) dX7_nextToken_38 (by decide) ?_
        refine g_iadd F dX7_nextToken_39 ?_
        refine g_put F (C := RX7) (T := TX7) (N := 6) (ci := 7) (v := .int ((Tt.1 3) + (1 : Int32))) (ty := .int) (sg' := [(sTxt cy a ((upd Tt.1 3 ((Tt.1 3) + (1 : Int32))), Tt.2))]) hi_X7_nextToken_X7 tyX7 tyX7_ok nmX7 0 0 3 dX7_nextToken_40 rfl rfl (by decide) fl_X7_nextToken_39 rfl rfl rfl rfl (Nat.le_of_ble_eq_true rfl) rfl ?_
        refine g_goto F 8 dX7_nextToken_43 (by decide) ?_
        refine Go.sub (lv' := [(0, .ref (a 0))]) [0] rfl ?_
        exact ih ((upd Tt.1 3 ((Tt.1 3) + (1 : Int32))), Tt.2) h
set_option maxHeartbeats 4000000 in
set_option maxRecDepth 100000 in
theorem ok_X7_nextToken (l : Launch) (D : va_G) (cy : Nat → ClassId) (a : Nat → Nat)  (Tt : TxtS)  (out : TxtS) (h : f_X7_nextToken Tt = some out) : OK l D cy yX7_nextToken wsX7_nextToken rm_X7_nextToken [.ref (a 0)] [(sTxt cy a Tt)] none [(sTxt cy a out)] := by
  refine OKx.of (cc := cX7_nextToken) (maxL := 3) (ret := none) (by decide) rfl (Nat.le_of_ble_eq_true rfl) (fun G F Rq => ?_)
  show Go G 0 0 0 [(0, .ref (a 0))] [] [(sTxt cy a Tt)]
  replace F : Fx G cX7_nextToken wsX7_nextToken RX7 cy 3 (rm_X7_nextToken) := F
  replace Rq : Rx G "nextToken" none none (fun z => z = [(sTxt cy a out)]) 0 0 := Rq
  unfold f_X7_nextToken at h
  refine g_aload_n F dX7_nextToken_0 rfl 0 rfl ?_
  refine g_aload_n F dX7_nextToken_1 rfl 0 rfl ?_
  refine g_get F (C := RX7) (T := TX7) (N := 6) (ci := 7) (v := .int (Tt.1 4)) hi_X7_nextToken_X7 0 0 4 dX7_nextToken_2 rfl rfl (by decide) fl_X7_nextToken_25 rfl ?_
  refine g_put F (C := RX7) (T := TX7) (N := 6) (ci := 7) (v := .int (Tt.1 4)) (ty := .int) (sg' := [(sTxt cy a ((upd Tt.1 3 (Tt.1 4)), Tt.2))]) hi_X7_nextToken_X7 tyX7 tyX7_ok nmX7 0 0 3 dX7_nextToken_5 rfl rfl (by decide) fl_X7_nextToken_39 rfl rfl rfl rfl (Nat.le_of_ble_eq_true rfl) rfl ?_
  refine Go.sub (lv' := [(0, .ref (a 0))]) [0] rfl ?_
  refine k_X7_nextToken_8_ok a  F Rq _ (fun Tt_1 h => ?_) _ ((upd Tt.1 3 (Tt.1 4)), Tt.2) h
  refine g_aload_n F dX7_nextToken_46 rfl 0 rfl ?_
  refine g_aload_n F dX7_nextToken_47 rfl 0 rfl ?_
  refine g_get F (C := RX7) (T := TX7) (N := 6) (ci := 7) (v := .int (Tt_1.1 3)) hi_X7_nextToken_X7 0 0 3 dX7_nextToken_48 rfl rfl (by decide) fl_X7_nextToken_39 rfl ?_
  refine g_put F (C := RX7) (T := TX7) (N := 6) (ci := 7) (v := .int (Tt_1.1 3)) (ty := .int) (sg' := [(sTxt cy a ((upd Tt_1.1 4 (Tt_1.1 3)), Tt_1.2))]) hi_X7_nextToken_X7 tyX7 tyX7_ok nmX7 0 0 4 dX7_nextToken_51 rfl rfl (by decide) fl_X7_nextToken_25 rfl rfl rfl rfl (Nat.le_of_ble_eq_true rfl) rfl ?_
  refine g_aload_n F dX7_nextToken_54 rfl 0 rfl ?_
  refine g_get F (C := RX7) (T := TX7) (N := 6) (ci := 7) (v := .int (Tt_1.1 3)) hi_X7_nextToken_X7 0 0 3 dX7_nextToken_55 rfl rfl (by decide) fl_X7_nextToken_39 rfl ?_
  refine g_aload_n F dX7_nextToken_58 rfl 0 rfl ?_
  refine g_get F (C := RX7) (T := TX7) (N := 6) (ci := 7) (v := .int (Tt_1.1 0)) hi_X7_nextToken_X7 0 0 0 dX7_nextToken_59 rfl rfl (by decide) fl_X7_nextToken_15 rfl ?_
  refine g_icmp_lt F 74 h dX7_nextToken_62 (by decide) (fun h => ?_) (fun h => ?_)
  · refine g_aload_n F dX7_nextToken_74 rfl 0 rfl ?_
    refine g_aload_n F dX7_nextToken_75 rfl 0 rfl ?_
    refine g_get F (C := RX7) (T := TX7) (N := 6) (ci := 7) (v := .int (Tt_1.1 3)) hi_X7_nextToken_X7 0 0 3 dX7_nextToken_76 rfl rfl (by decide) fl_X7_nextToken_39 rfl ?_
    obtain ⟨r2, hr2, h⟩ := bnd h
    refine g_cV F [.int (Tt_1.1 3)] 0 0 (ok_X7_isDigit (gl G) (gD G) cy a ((upd Tt_1.1 4 (Tt_1.1 3)), Tt_1.2) (Tt_1.1 3) r2 hr2) dX7_nextToken_79 rfl rfl gX7_nextToken_X7_isDigit rfl ⟨rfl, cd_X7_isDigit⟩ (by decide) rfl (Nat.le_of_ble_eq_true rfl) [0] (by decide) rfl rfl (sg' := [(sTxt cy a ((upd Tt_1.1 4 (Tt_1.1 3)), Tt_1.2))]) (st' := [.int r2]) rfl rfl ?_
    refine g_if_eq F 92 h dX7_nextToken_82 (by decide) (fun h => ?_) (fun h => ?_)
    · refine g_aload_n F dX7_nextToken_92 rfl 0 rfl ?_
      refine g_get F (C := RX7) (T := TX7) (N := 6) (ci := 7) (v := .ref (a 2)) hi_X7_nextToken_X7 0 0 1 dX7_nextToken_93 rfl rfl (by decide) fl_X7_nextToken_9 rfl ?_
      refine g_aload_n F dX7_nextToken_96 rfl 0 rfl ?_
      refine g_get F (C := RX7) (T := TX7) (N := 6) (ci := 7) (v := .int (Tt_1.1 3)) hi_X7_nextToken_X7 0 0 3 dX7_nextToken_97 rfl rfl (by decide) fl_X7_nextToken_39 rfl ?_
      refine g_iaload F h 0 1 dX7_nextToken_100 rfl (fun h => ?_)
      refine g_istore_n F (lv' := [(1, .int (Tt_1.2 ((Tt_1.1 3)).toNatClampNeg)), (0, .ref (a 0))]) dX7_nextToken_101 rfl (by decide) rfl ?_
      refine g_iload_n F dX7_nextToken_102 rfl 0 rfl ?_
      refine g_bipush F (v := (110 : Int32)) dX7_nextToken_103 (by decide) ?_
      refine g_icmp_eq F 120 h dX7_nextToken_105 (by decide) (fun h => ?_) (fun h => ?_)
      · refine g_iconst F (v := (1 : Int32)) dX7_nextToken_120 (by decide) ?_
        refine g_goto F 125 dX7_nextToken_121 (by decide) ?_
        refine g_istore_n F (lv' := [(2, .int (1 : Int32)), (1, .int (Tt_1.2 ((Tt_1.1 3)).toNatClampNeg)), (0, .ref (a 0))]) dX7_nextToken_125 rfl (by decide) rfl ?_
        refine g_aload_n F dX7_nextToken_126 rfl 2 rfl ?_
        refine g_iload_n F dX7_nextToken_127 rfl 0 rfl ?_
        refine g_if_eq F 136 h dX7_nextToken_128 (by decide) (fun h => ?_) (fun h => ?_)
        · refine g_bipush F (v := (119 : Int32)) dX7_nextToken_136 (by decide) ?_
          refine g_put F (C := RX7) (T := TX7) (N := 6) (ci := 7) (v := .int (119 : Int32)) (ty := .char) (sg' := [(sTxt cy a ((upd (upd Tt_1.1 4 (Tt_1.1 3)) 2 (119 : Int32)), Tt_1.2))]) hi_X7_nextToken_X7 tyX7 tyX7_ok nmX7 0 0 2 dX7_nextToken_138 rfl rfl (by decide) fl_X7_nextToken_31 rfl rfl rfl rfl (Nat.le_of_ble_eq_true rfl) rfl ?_
          refine g_aload_n F dX7_nextToken_141 rfl 2 rfl ?_
          refine g_dup F dX7_nextToken_142 rfl ?_
          refine g_get F (C := RX7) (T := TX7) (N := 6) (ci := 7) (v := .int (Tt_1.1 3)) hi_X7_nextToken_X7 0 0 4 dX7_nextToken_143 rfl rfl (by decide) fl_X7_nextToken_25 rfl ?_
          refine g_iconst F (v := (1 : Int32)) dX7_nextToken_146 (by decide) ?_
          refine g_iadd F dX7_nextToken_147 ?_
          refine g_put F (C := RX7) (T := TX7) (N := 6) (ci := 7) (v := .int ((Tt_1.1 3) + (1 : Int32))) (ty := .int) (sg' := [(sTxt cy a ((upd (upd Tt_1.1 2 (119 : Int32)) 4 ((Tt_1.1 3) + (1 : Int32))), Tt_1.2))]) hi_X7_nextToken_X7 tyX7 tyX7_ok nmX7 0 0 4 dX7_nextToken_148 rfl rfl (by decide) fl_X7_nextToken_25 rfl rfl rfl rfl (Nat.le_of_ble_eq_true rfl) rfl ?_
          obtain rfl := Option.some.inj h
          exact g_vret F Rq rfl dX7_nextToken_151
        · refine g_iload_n F dX7_nextToken_131 rfl 1 rfl ?_
          refine g_i2c F dX7_nextToken_132 ?_
          refine g_goto F 138 dX7_nextToken_133 (by decide) ?_
          refine g_put F (C := RX7) (T := TX7) (N := 6) (ci := 7) (v := .int ((((Tt_1.2 ((Tt_1.1 3)).toNatClampNeg)).toUInt32 % 65536).toInt32)) (ty := .char) (sg' := [(sTxt cy a ((upd (upd Tt_1.1 4 (Tt_1.1 3)) 2 ((((Tt_1.2 ((Tt_1.1 3)).toNatClampNeg)).toUInt32 % 65536).toInt32)), Tt_1.2))]) hi_X7_nextToken_X7 tyX7 tyX7_ok nmX7 0 0 2 dX7_nextToken_138 rfl rfl (by decide) fl_X7_nextToken_31 rfl rfl (pk_nc _) (pk_fc _) (Nat.le_of_ble_eq_true rfl) rfl ?_
          refine g_aload_n F dX7_nextToken_141 rfl 2 rfl ?_
          refine g_dup F dX7_nextToken_142 rfl ?_
          refine g_get F (C := RX7) (T := TX7) (N := 6) (ci := 7) (v := .int (Tt_1.1 3)) hi_X7_nextToken_X7 0 0 4 dX7_nextToken_143 rfl rfl (by decide) fl_X7_nextToken_25 rfl ?_
          refine g_iconst F (v := (1 : Int32)) dX7_nextToken_146 (by decide) ?_
          refine g_iadd F dX7_nextToken_147 ?_
          refine g_put F (C := RX7) (T := TX7) (N := 6) (ci := 7) (v := .int ((Tt_1.1 3) + (1 : Int32))) (ty := .int) (sg' := [(sTxt cy a ((upd (upd Tt_1.1 2 ((((Tt_1.2 ((Tt_1.1 3)).toNatClampNeg)).toUInt32 % 65536).toInt32)) 4 ((Tt_1.1 3) + (1 : Int32))), Tt_1.2))]) hi_X7_nextToken_X7 tyX7 tyX7_ok nmX7 0 0 4 dX7_nextToken_148 rfl rfl (by decide) fl_X7_nextToken_25 rfl rfl rfl rfl (Nat.le_of_ble_eq_true rfl) rfl ?_
          obtain rfl := Option.some.inj h
          exact g_vret F Rq rfl dX7_nextToken_151
      · refine g_iload_n F dX7_nextToken_108 rfl 0 rfl ?_
        refine g_bipush F (v := (97 : Int32)) dX7_nextToken_109 (by decide) ?_
        refine g_icmp_eq F 120 h dX7_nextToken_111 (by decide) (fun h => ?_) (fun h => ?_)
        · refine g_iconst F (v := (1 : Int32)) dX7_nextToken_120 (by decide) ?_
          refine g_goto F 125 dX7_nextToken_121 (by decide) ?_
          refine g_istore_n F (lv' := [(2, .int (1 : Int32)), (1, .int (Tt_1.2 ((Tt_1.1 3)).toNatClampNeg)), (0, .ref (a 0))]) dX7_nextToken_125 rfl (by decide) rfl ?_
          refine g_aload_n F dX7_nextToken_126 rfl 2 rfl ?_
          refine g_iload_n F dX7_nextToken_127 rfl 0 rfl ?_
          refine g_if_eq F 136 h dX7_nextToken_128 (by decide) (fun h => ?_) (fun h => ?_)
          · refine g_bipush F (v := (119 : Int32)) dX7_nextToken_136 (by decide) ?_
            refine g_put F (C := RX7) (T := TX7) (N := 6) (ci := 7) (v := .int (119 : Int32)) (ty := .char) (sg' := [(sTxt cy a ((upd (upd Tt_1.1 4 (Tt_1.1 3)) 2 (119 : Int32)), Tt_1.2))]) hi_X7_nextToken_X7 tyX7 tyX7_ok nmX7 0 0 2 dX7_nextToken_138 rfl rfl (by decide) fl_X7_nextToken_31 rfl rfl rfl rfl (Nat.le_of_ble_eq_true rfl) rfl ?_
            refine g_aload_n F dX7_nextToken_141 rfl 2 rfl ?_
            refine g_dup F dX7_nextToken_142 rfl ?_
            refine g_get F (C := RX7) (T := TX7) (N := 6) (ci := 7) (v := .int (Tt_1.1 3)) hi_X7_nextToken_X7 0 0 4 dX7_nextToken_143 rfl rfl (by decide) fl_X7_nextToken_25 rfl ?_
            refine g_iconst F (v := (1 : Int32)) dX7_nextToken_146 (by decide) ?_
            refine g_iadd F dX7_nextToken_147 ?_
            refine g_put F (C := RX7) (T := TX7) (N := 6) (ci := 7) (v := .int ((Tt_1.1 3) + (1 : Int32))) (ty := .int) (sg' := [(sTxt cy a ((upd (upd Tt_1.1 2 (119 : Int32)) 4 ((Tt_1.1 3) + (1 : Int32))), Tt_1.2))]) hi_X7_nextToken_X7 tyX7 tyX7_ok nmX7 0 0 4 dX7_nextToken_148 rfl rfl (by decide) fl_X7_nextToken_25 rfl rfl rfl rfl (Nat.le_of_ble_eq_true rfl) rfl ?_
            obtain rfl := Option.some.inj h
            exact g_vret F Rq rfl dX7_nextToken_151
          · refine g_iload_n F dX7_nextToken_131 rfl 1 rfl ?_
            refine g_i2c F dX7_nextToken_132 ?_
            refine g_goto F 138 dX7_nextToken_133 (by decide) ?_
            refine g_put F (C := RX7) (T := TX7) (N := 6) (ci := 7) (v := .int ((((Tt_1.2 ((Tt_1.1 3)).toNatClampNeg)).toUInt32 % 65536).toInt32)) (ty := .char) (sg' := [(sTxt cy a ((upd (upd Tt_1.1 4 (Tt_1.1 3)) 2 ((((Tt_1.2 ((Tt_1.1 3)).toNatClampNeg)).toUInt32 % 65536).toInt32)), Tt_1.2))]) hi_X7_nextToken_X7 tyX7 tyX7_ok nmX7 0 0 2 dX7_nextToken_138 rfl rfl (by decide) fl_X7_nextToken_31 rfl rfl (pk_nc _) (pk_fc _) (Nat.le_of_ble_eq_true rfl) rfl ?_
            refine g_aload_n F dX7_nextToken_141 rfl 2 rfl ?_
            refine g_dup F dX7_nextToken_142 rfl ?_
            refine g_get F (C := RX7) (T := TX7) (N := 6) (ci := 7) (v := .int (Tt_1.1 3)) hi_X7_nextToken_X7 0 0 4 dX7_nextToken_143 rfl rfl (by decide) fl_X7_nextToken_25 rfl ?_
            refine g_iconst F (v := (1 : Int32)) dX7_nextToken_146 (by decide) ?_
            refine g_iadd F dX7_nextToken_147 ?_
            refine g_put F (C := RX7) (T := TX7) (N := 6) (ci := 7) (v := .int ((Tt_1.1 3) + (1 : Int32))) (ty := .int) (sg' := [(sTxt cy a ((upd (upd Tt_1.1 2 ((((Tt_1.2 ((Tt_1.1 3)).toNatClampNeg)).toUInt32 % 65536).toInt32)) 4 ((Tt_1.1 3) + (1 : Int32))), Tt_1.2))]) hi_X7_nextToken_X7 tyX7 tyX7_ok nmX7 0 0 4 dX7_nextToken_148 rfl rfl (by decide) fl_X7_nextToken_25 rfl rfl rfl rfl (Nat.le_of_ble_eq_true rfl) rfl ?_
            obtain rfl := Option.some.inj h
            exact g_vret F Rq rfl dX7_nextToken_151
        · refine g_iload_n F dX7_nextToken_114 rfl 0 rfl ?_
          refine g_bipush F (v := (59 : Int32)) dX7_nextToken_115 (by decide) ?_
          refine g_icmp_ne F 124 h dX7_nextToken_117 (by decide) (fun h => ?_) (fun h => ?_)
          · refine g_iconst F (v := (0 : Int32)) dX7_nextToken_124 (by decide) ?_
            refine g_istore_n F (lv' := [(2, .int (0 : Int32)), (1, .int (Tt_1.2 ((Tt_1.1 3)).toNatClampNeg)), (0, .ref (a 0))]) dX7_nextToken_125 rfl (by decide) rfl ?_
            refine g_aload_n F dX7_nextToken_126 rfl 2 rfl ?_
            refine g_iload_n F dX7_nextToken_127 rfl 0 rfl ?_
            refine g_if_eq F 136 h dX7_nextToken_128 (by decide) (fun h => ?_) (fun h => ?_)
            · refine g_bipush F (v := (119 : Int32)) dX7_nextToken_136 (by decide) ?_
              refine g_put F (C := RX7) (T := TX7) (N := 6) (ci := 7) (v := .int (119 : Int32)) (ty := .char) (sg' := [(sTxt cy a ((upd (upd Tt_1.1 4 (Tt_1.1 3)) 2 (119 : Int32)), Tt_1.2))]) hi_X7_nextToken_X7 tyX7 tyX7_ok nmX7 0 0 2 dX7_nextToken_138 rfl rfl (by decide) fl_X7_nextToken_31 rfl rfl rfl rfl (Nat.le_of_ble_eq_true rfl) rfl ?_
              refine g_aload_n F dX7_nextToken_141 rfl 2 rfl ?_
              refine g_dup F dX7_nextToken_142 rfl ?_
              refine g_get F (C := RX7) (T := TX7) (N := 6) (ci := 7) (v := .int (Tt_1.1 3)) hi_X7_nextToken_X7 0 0 4 dX7_nextToken_143 rfl rfl (by decide) fl_X7_nextToken_25 rfl ?_
              refine g_iconst F (v := (1 : Int32)) dX7_nextToken_146 (by decide) ?_
              refine g_iadd F dX7_nextToken_147 ?_
              refine g_put F (C := RX7) (T := TX7) (N := 6) (ci := 7) (v := .int ((Tt_1.1 3) + (1 : Int32))) (ty := .int) (sg' := [(sTxt cy a ((upd (upd Tt_1.1 2 (119 : Int32)) 4 ((Tt_1.1 3) + (1 : Int32))), Tt_1.2))]) hi_X7_nextToken_X7 tyX7 tyX7_ok nmX7 0 0 4 dX7_nextToken_148 rfl rfl (by decide) fl_X7_nextToken_25 rfl rfl rfl rfl (Nat.le_of_ble_eq_true rfl) rfl ?_
              obtain rfl := Option.some.inj h
              exact g_vret F Rq rfl dX7_nextToken_151
            · refine g_iload_n F dX7_nextToken_131 rfl 1 rfl ?_
              refine g_i2c F dX7_nextToken_132 ?_
              refine g_goto F 138 dX7_nextToken_133 (by decide) ?_
              refine g_put F (C := RX7) (T := TX7) (N := 6) (ci := 7) (v := .int ((((Tt_1.2 ((Tt_1.1 3)).toNatClampNeg)).toUInt32 % 65536).toInt32)) (ty := .char) (sg' := [(sTxt cy a ((upd (upd Tt_1.1 4 (Tt_1.1 3)) 2 ((((Tt_1.2 ((Tt_1.1 3)).toNatClampNeg)).toUInt32 % 65536).toInt32)), Tt_1.2))]) hi_X7_nextToken_X7 tyX7 tyX7_ok nmX7 0 0 2 dX7_nextToken_138 rfl rfl (by decide) fl_X7_nextToken_31 rfl rfl (pk_nc _) (pk_fc _) (Nat.le_of_ble_eq_true rfl) rfl ?_
              refine g_aload_n F dX7_nextToken_141 rfl 2 rfl ?_
              refine g_dup F dX7_nextToken_142 rfl ?_
              refine g_get F (C := RX7) (T := TX7) (N := 6) (ci := 7) (v := .int (Tt_1.1 3)) hi_X7_nextToken_X7 0 0 4 dX7_nextToken_143 rfl rfl (by decide) fl_X7_nextToken_25 rfl ?_
              refine g_iconst F (v := (1 : Int32)) dX7_nextToken_146 (by decide) ?_
              refine g_iadd F dX7_nextToken_147 ?_
              refine g_put F (C := RX7) (T := TX7) (N := 6) (ci := 7) (v := .int ((Tt_1.1 3) + (1 : Int32))) (ty := .int) (sg' := [(sTxt cy a ((upd (upd Tt_1.1 2 ((((Tt_1.2 ((Tt_1.1 3)).toNatClampNeg)).toUInt32 % 65536).toInt32)) 4 ((Tt_1.1 3) + (1 : Int32))), Tt_1.2))]) hi_X7_nextToken_X7 tyX7 tyX7_ok nmX7 0 0 4 dX7_nextToken_148 rfl rfl (by decide) fl_X7_nextToken_25 rfl rfl rfl rfl (Nat.le_of_ble_eq_true rfl) rfl ?_
              obtain rfl := Option.some.inj h
              exact g_vret F Rq rfl dX7_nextToken_151
          · refine g_iconst F (v := (1 : Int32)) dX7_nextToken_120 (by decide) ?_
            refine g_goto F 125 dX7_nextToken_121 (by decide) ?_
            refine g_istore_n F (lv' := [(2, .int (1 : Int32)), (1, .int (Tt_1.2 ((Tt_1.1 3)).toNatClampNeg)), (0, .ref (a 0))]) dX7_nextToken_125 rfl (by decide) rfl ?_
            refine g_aload_n F dX7_nextToken_126 rfl 2 rfl ?_
            refine g_iload_n F dX7_nextToken_127 rfl 0 rfl ?_
            refine g_if_eq F 136 h dX7_nextToken_128 (by decide) (fun h => ?_) (fun h => ?_)
            · refine g_bipush F (v := (119 : Int32)) dX7_nextToken_136 (by decide) ?_
              refine g_put F (C := RX7) (T := TX7) (N := 6) (ci := 7) (v := .int (119 : Int32)) (ty := .char) (sg' := [(sTxt cy a ((upd (upd Tt_1.1 4 (Tt_1.1 3)) 2 (119 : Int32)), Tt_1.2))]) hi_X7_nextToken_X7 tyX7 tyX7_ok nmX7 0 0 2 dX7_nextToken_138 rfl rfl (by decide) fl_X7_nextToken_31 rfl rfl rfl rfl (Nat.le_of_ble_eq_true rfl) rfl ?_
              refine g_aload_n F dX7_nextToken_141 rfl 2 rfl ?_
              refine g_dup F dX7_nextToken_142 rfl ?_
              refine g_get F (C := RX7) (T := TX7) (N := 6) (ci := 7) (v := .int (Tt_1.1 3)) hi_X7_nextToken_X7 0 0 4 dX7_nextToken_143 rfl rfl (by decide) fl_X7_nextToken_25 rfl ?_
              refine g_iconst F (v := (1 : Int32)) dX7_nextToken_146 (by decide) ?_
              refine g_iadd F dX7_nextToken_147 ?_
              refine g_put F (C := RX7) (T := TX7) (N := 6) (ci := 7) (v := .int ((Tt_1.1 3) + (1 : Int32))) (ty := .int) (sg' := [(sTxt cy a ((upd (upd Tt_1.1 2 (119 : Int32)) 4 ((Tt_1.1 3) + (1 : Int32))), Tt_1.2))]) hi_X7_nextToken_X7 tyX7 tyX7_ok nmX7 0 0 4 dX7_nextToken_148 rfl rfl (by decide) fl_X7_nextToken_25 rfl rfl rfl rfl (Nat.le_of_ble_eq_true rfl) rfl ?_
              obtain rfl := Option.some.inj h
              exact g_vret F Rq rfl dX7_nextToken_151
            · refine g_iload_n F dX7_nextToken_131 rfl 1 rfl ?_
              refine g_i2c F dX7_nextToken_132 ?_
              refine g_goto F 138 dX7_nextToken_133 (by decide) ?_
              refine g_put F (C := RX7) (T := TX7) (N := 6) (ci := 7) (v := .int ((((Tt_1.2 ((Tt_1.1 3)).toNatClampNeg)).toUInt32 % 65536).toInt32)) (ty := .char) (sg' := [(sTxt cy a ((upd (upd Tt_1.1 4 (Tt_1.1 3)) 2 ((((Tt_1.2 ((Tt_1.1 3)).toNatClampNeg)).toUInt32 % 65536).toInt32)), Tt_1.2))]) hi_X7_nextToken_X7 tyX7 tyX7_ok nmX7 0 0 2 dX7_nextToken_138 rfl rfl (by decide) fl_X7_nextToken_31 rfl rfl (pk_nc _) (pk_fc _) (Nat.le_of_ble_eq_true rfl) rfl ?_
              refine g_aload_n F dX7_nextToken_141 rfl 2 rfl ?_
              refine g_dup F dX7_nextToken_142 rfl ?_
              refine g_get F (C := RX7) (T := TX7) (N := 6) (ci := 7) (v := .int (Tt_1.1 3)) hi_X7_nextToken_X7 0 0 4 dX7_nextToken_143 rfl rfl (by decide) fl_X7_nextToken_25 rfl ?_
              refine g_iconst F (v := (1 : Int32)) dX7_nextToken_146 (by decide) ?_
              refine g_iadd F dX7_nextToken_147 ?_
              refine g_put F (C := RX7) (T := TX7) (N := 6) (ci := 7) (v := .int ((Tt_1.1 3) + (1 : Int32))) (ty := .int) (sg' := [(sTxt cy a ((upd (upd Tt_1.1 2 ((((Tt_1.2 ((Tt_1.1 3)).toNatClampNeg)).toUInt32 % 65536).toInt32)) 4 ((Tt_1.1 3) + (1 : Int32))), Tt_1.2))]) hi_X7_nextToken_X7 tyX7 tyX7_ok nmX7 0 0 4 dX7_nextToken_148 rfl rfl (by decide) fl_X7_nextToken_25 rfl rfl rfl rfl (Nat.le_of_ble_eq_true rfl) rfl ?_
              obtain rfl := Option.some.inj h
              exact g_vret F Rq rfl dX7_nextToken_151
    · refine g_aload_n F dX7_nextToken_85 rfl 0 rfl ?_
      obtain ⟨r3, hr3, h⟩ := bnd h
      refine g_cV F [] 0 0 (ok_X7_readDigits (gl G) (gD G) cy a ((upd Tt_1.1 4 (Tt_1.1 3)), Tt_1.2) r3 hr3) dX7_nextToken_86 rfl rfl gX7_nextToken_X7_readDigits rfl ⟨rfl, cd_X7_readDigits⟩ (by decide) rfl (Nat.le_of_ble_eq_true rfl) [0] (by decide) rfl rfl (sg' := [(sTxt cy a r3)]) (st' := []) rfl rfl ?_
      refine g_goto F 151 dX7_nextToken_89 (by decide) ?_
      obtain rfl := Option.some.inj h
      exact g_vret F Rq rfl dX7_nextToken_151
  · refine g_aload_n F dX7_nextToken_65 rfl 0 rfl ?_
    refine g_bipush F (v := (101 : Int32)) dX7_nextToken_66 (by decide) ?_
    refine g_put F (C := RX7) (T := TX7) (N := 6) (ci := 7) (v := .int (101 : Int32)) (ty := .char) (sg' := [(sTxt cy a ((upd (upd Tt_1.1 4 (Tt_1.1 3)) 2 (101 : Int32)), Tt_1.2))]) hi_X7_nextToken_X7 tyX7 tyX7_ok nmX7 0 0 2 dX7_nextToken_68 rfl rfl (by decide) fl_X7_nextToken_31 rfl rfl rfl rfl (Nat.le_of_ble_eq_true rfl) rfl ?_
    refine g_goto F 151 dX7_nextToken_71 (by decide) ?_
    obtain rfl := Option.some.inj h
    exact g_vret F Rq rfl dX7_nextToken_151
theorem hi_X7_readNumber_X7 : ∀ w ∈ u_ws RX7 TX7 6, w ∈ wsX7_readNumber := by decide +kernel
theorem fl_X7_readNumber_31 : Cond.fieldLink RX7 31 "ArcOrder$Text" "token" "C" ∈ wsX7_readNumber := by decide +kernel
theorem fl_X7_readNumber_53 : Cond.fieldLink RX7 53 "ArcOrder$Text" "value" "I" ∈ wsX7_readNumber := by decide +kernel
abbrev rm_X7_readNumber : Room := { frames := 3, cells := 0, slots := 0, locals := 83 }
set_option maxHeartbeats 4000000 in
set_option maxRecDepth 100000 in
theorem ok_X7_readNumber (l : Launch) (D : va_G) (cy : Nat → ClassId) (a : Nat → Nat)  (Tt : TxtS) (x1 : Int32) (x2 : Int32) (out : Int32 × TxtS) (h : f_X7_readNumber Tt x1 x2 = some out) : OK l D cy yX7_readNumber wsX7_readNumber rm_X7_readNumber [.ref (a 0), .int x1, .int x2] [(sTxt cy a Tt)] (some (.int out.1)) [(sTxt cy a out.2)] := by
  refine OKx.of (cc := cX7_readNumber) (maxL := 3) (ret := (some .boolean)) (by decide) rfl (Nat.le_of_ble_eq_true rfl) (fun G F Rq => ?_)
  show Go G 0 0 0 [(0, .ref (a 0)), (1, .int x1), (2, .int x2)] [] [(sTxt cy a Tt)]
  replace F : Fx G cX7_readNumber wsX7_readNumber RX7 cy 3 (rm_X7_readNumber) := F
  replace Rq : Rx G "readNumber" (some .boolean) (some (.int out.1)) (fun z => z = [(sTxt cy a out.2)]) 0 0 := Rq
  unfold f_X7_readNumber at h
  refine g_aload_n F dX7_readNumber_0 rfl 0 rfl ?_
  obtain ⟨r1, hr1, h⟩ := bnd h
  refine g_cV F [] 0 0 (ok_X7_nextToken (gl G) (gD G) cy a Tt r1 hr1) dX7_readNumber_1 rfl rfl gX7_readNumber_X7_nextToken rfl ⟨rfl, cd_X7_nextToken⟩ (by decide) rfl (Nat.le_of_ble_eq_true rfl) [0] (by decide) rfl rfl (sg' := [(sTxt cy a r1)]) (st' := []) rfl rfl ?_
  refine g_aload_n F dX7_readNumber_4 rfl 0 rfl ?_
  refine g_get F (C := RX7) (T := TX7) (N := 6) (ci := 7) (v := .int (r1.1 2)) hi_X7_readNumber_X7 0 0 2 dX7_readNumber_5 rfl rfl (by decide) fl_X7_readNumber_31 rfl ?_
  refine g_bipush F (v := (100 : Int32)) dX7_readNumber_8 (by decide) ?_
  refine g_icmp_ne F 33 h dX7_readNumber_10 (by decide) (fun h => ?_) (fun h => ?_)
  · refine g_iconst F (v := (0 : Int32)) dX7_readNumber_33 (by decide) ?_
    obtain rfl := Option.some.inj h
    exact g_zret F Rq rfl rfl dX7_readNumber_34
  · refine g_aload_n F dX7_readNumber_13 rfl 0 rfl ?_
    refine g_get F (C := RX7) (T := TX7) (N := 6) (ci := 7) (v := .int (r1.1 5)) hi_X7_readNumber_X7 0 0 5 dX7_readNumber_14 rfl rfl (by decide) fl_X7_readNumber_53 rfl ?_
    refine g_iload_n F dX7_readNumber_17 rfl 1 rfl ?_
    refine g_icmp_lt F 33 h dX7_readNumber_18 (by decide) (fun h => ?_) (fun h => ?_)
    · refine g_iconst F (v := (0 : Int32)) dX7_readNumber_33 (by decide) ?_
      obtain rfl := Option.some.inj h
      exact g_zret F Rq rfl rfl dX7_readNumber_34
    · refine g_aload_n F dX7_readNumber_21 rfl 0 rfl ?_
      refine g_get F (C := RX7) (T := TX7) (N := 6) (ci := 7) (v := .int (r1.1 5)) hi_X7_readNumber_X7 0 0 5 dX7_readNumber_22 rfl rfl (by decide) fl_X7_readNumber_53 rfl ?_
      refine g_iload_n F dX7_readNumber_25 rfl 2 rfl ?_
      refine g_icmp_gt F 33 h dX7_readNumber_26 (by decide) (fun h => ?_) (fun h => ?_)
      · refine g_iconst F (v := (0 : Int32)) dX7_readNumber_33 (by decide) ?_
        obtain rfl := Option.some.inj h
        exact g_zret F Rq rfl rfl dX7_readNumber_34
      · refine g_iconst F (v := (1 : Int32)) dX7_readNumber_29 (by decide) ?_
        refine g_goto F 34 dX7_readNumber_30 (by decide) ?_
        obtain rfl := Option.some.inj h
        exact g_zret F Rq rfl rfl dX7_readNumber_34
theorem hi_X7_readItems_X7 : ∀ w ∈ u_ws RX7 TX7 6, w ∈ wsX7_readItems := by decide +kernel
theorem fl_X7_readItems_53 : Cond.fieldLink RX7 53 "ArcOrder$Text" "value" "I" ∈ wsX7_readItems := by decide +kernel
abbrev rm_X7_readItems : Room := { frames := 4, cells := 0, slots := 0, locals := 105 }
set_option maxHeartbeats 4000000 in
set_option maxRecDepth 100000 in
theorem ok_X7_readItems (l : Launch) (D : va_G) (cy : Nat → ClassId) (a : Nat → Nat) (a1 : Nat → Nat)  (Tt : TxtS) (N1 : NetS)  (out : Int32 × TxtS × NetS) (h : f_X7_readItems Tt N1 = some out) : OK l D cy yX7_readItems wsX7_readItems rm_X7_readItems [.ref (a 0), .ref (a1 0)] [(sTxt cy a Tt), (sNet cy a1 N1)] (some (.int out.1)) [(sTxt cy a out.2.1), (sNet cy a1 out.2.2)] := by
  refine OKx.of (cc := cX7_readItems) (maxL := 2) (ret := (some .boolean)) (by decide) rfl (Nat.le_of_ble_eq_true rfl) (fun G F Rq => ?_)
  show Go G 0 0 0 [(0, .ref (a 0)), (1, .ref (a1 0))] [] [(sTxt cy a Tt), (sNet cy a1 N1)]
  replace F : Fx G cX7_readItems wsX7_readItems RX7 cy 2 (rm_X7_readItems) := F
  replace Rq : Rx G "readItems" (some .boolean) (some (.int out.1)) (fun z => z = [(sTxt cy a out.2.1), (sNet cy a1 out.2.2)]) 0 0 := Rq
  unfold f_X7_readItems at h
  refine g_aload_n F dX7_readItems_0 rfl 0 rfl ?_
  refine g_iconst F (v := (1 : Int32)) dX7_readItems_1 (by decide) ?_
  refine g_bipush F (v := (12 : Int32)) dX7_readItems_2 (by decide) ?_
  obtain ⟨r1, hr1, h⟩ := bnd h
  refine g_cV F [.int (1 : Int32), .int (12 : Int32)] 0 0 (ok_X7_readNumber (gl G) (gD G) cy a Tt (1 : Int32) (12 : Int32) r1 hr1) dX7_readItems_4 rfl rfl gX7_readItems_X7_readNumber rfl ⟨rfl, cd_X7_readNumber⟩ (by decide) rfl (Nat.le_of_ble_eq_true rfl) [0] (by decide) rfl rfl (sg' := [(sTxt cy a r1.2), (sNet cy a1 N1)]) (st' := [.int r1.1]) rfl rfl ?_
  refine g_if_ne F 12 h dX7_readItems_7 (by decide) (fun h => ?_) (fun h => ?_)
  · refine g_aload_n F dX7_readItems_12 rfl 1 rfl ?_
    refine g_aload_n F dX7_readItems_13 rfl 0 rfl ?_
    refine g_get F (C := RX7) (T := TX7) (N := 6) (ci := 7) (v := .int (r1.2.1 5)) hi_X7_readItems_X7 0 0 5 dX7_readItems_14 rfl rfl (by decide) fl_X7_readItems_53 rfl ?_
    obtain ⟨r2, hr2, h⟩ := bnd h
    refine g_cV F [.int (r1.2.1 5)] 0 0 (ok_X3_begin (gl G) (gD G) cy a1 N1 (r1.2.1 5) r2 hr2) dX7_readItems_17 rfl rfl gX7_readItems_X3_begin rfl ⟨rfl, cd_X3_begin⟩ (by decide) rfl (Nat.le_of_ble_eq_true rfl) [1] (by decide) rfl rfl (sg' := [(sTxt cy a r1.2), (sNet cy a1 r2)]) (st' := []) rfl rfl ?_
    refine g_iconst F (v := (1 : Int32)) dX7_readItems_20 (by decide) ?_
    obtain rfl := Option.some.inj h
    exact g_zret F Rq rfl rfl dX7_readItems_21
  · refine g_iconst F (v := (0 : Int32)) dX7_readItems_10 (by decide) ?_
    obtain rfl := Option.some.inj h
    exact g_zret F Rq rfl rfl dX7_readItems_11
theorem hi_X7_readArc_X3 : ∀ w ∈ u_ws RX3 TX3 7, w ∈ wsX7_readArc := by decide +kernel
theorem fl_X7_readArc_56 : Cond.fieldLink RX7 56 "ArcOrder$Net" "items" "I" ∈ wsX7_readArc := by decide +kernel
theorem hi_X7_readArc_X7 : ∀ w ∈ u_ws RX7 TX7 6, w ∈ wsX7_readArc := by decide +kernel
theorem fl_X7_readArc_53 : Cond.fieldLink RX7 53 "ArcOrder$Text" "value" "I" ∈ wsX7_readArc := by decide +kernel
abbrev rm_X7_readArc : Room := { frames := 4, cells := 0, slots := 0, locals := 105 }
set_option maxHeartbeats 4000000 in
set_option maxRecDepth 100000 in
theorem ok_X7_readArc (l : Launch) (D : va_G) (cy : Nat → ClassId) (a : Nat → Nat) (a1 : Nat → Nat)  (Tt : TxtS) (N1 : NetS)  (out : Int32 × TxtS × NetS) (h : f_X7_readArc Tt N1 = some out) : OK l D cy yX7_readArc wsX7_readArc rm_X7_readArc [.ref (a 0), .ref (a1 0)] [(sTxt cy a Tt), (sNet cy a1 N1)] (some (.int out.1)) [(sTxt cy a out.2.1), (sNet cy a1 out.2.2)] := by
  refine OKx.of (cc := cX7_readArc) (maxL := 3) (ret := (some .boolean)) (by decide) rfl (Nat.le_of_ble_eq_true rfl) (fun G F Rq => ?_)
  show Go G 0 0 0 [(0, .ref (a 0)), (1, .ref (a1 0))] [] [(sTxt cy a Tt), (sNet cy a1 N1)]
  replace F : Fx G cX7_readArc wsX7_readArc RX7 cy 3 (rm_X7_readArc) := F
  replace Rq : Rx G "readArc" (some .boolean) (some (.int out.1)) (fun z => z = [(sTxt cy a out.2.1), (sNet cy a1 out.2.2)]) 0 0 := Rq
  unfold f_X7_readArc at h
  refine g_aload_n F dX7_readArc_0 rfl 0 rfl ?_
  refine g_iconst F (v := (0 : Int32)) dX7_readArc_1 (by decide) ?_
  refine g_aload_n F dX7_readArc_2 rfl 1 rfl ?_
  refine g_get F (C := RX3) (T := TX3) (N := 7) (ci := 3) (v := .int N1.1) hi_X7_readArc_X3 1 0 0 dX7_readArc_3 rfl rfl (by decide) fl_X7_readArc_56 rfl ?_
  refine g_iconst F (v := (1 : Int32)) dX7_readArc_6 (by decide) ?_
  refine g_isub F dX7_readArc_7 ?_
  obtain ⟨r1, hr1, h⟩ := bnd h
  refine g_cV F [.int (0 : Int32), .int (N1.1 - (1 : Int32))] 0 0 (ok_X7_readNumber (gl G) (gD G) cy a Tt (0 : Int32) (N1.1 - (1 : Int32)) r1 hr1) dX7_readArc_8 rfl rfl gX7_readArc_X7_readNumber rfl ⟨rfl, cd_X7_readNumber⟩ (by decide) rfl (Nat.le_of_ble_eq_true rfl) [0] (by decide) rfl rfl (sg' := [(sTxt cy a r1.2), (sNet cy a1 N1)]) (st' := [.int r1.1]) rfl rfl ?_
  refine g_if_ne F 16 h dX7_readArc_11 (by decide) (fun h => ?_) (fun h => ?_)
  · refine g_aload_n F dX7_readArc_16 rfl 0 rfl ?_
    refine g_get F (C := RX7) (T := TX7) (N := 6) (ci := 7) (v := .int (r1.2.1 5)) hi_X7_readArc_X7 0 0 5 dX7_readArc_17 rfl rfl (by decide) fl_X7_readArc_53 rfl ?_
    refine g_istore_n F (lv' := [(2, .int (r1.2.1 5)), (0, .ref (a 0)), (1, .ref (a1 0))]) dX7_readArc_20 rfl (by decide) rfl ?_
    refine g_aload_n F dX7_readArc_21 rfl 1 rfl ?_
    refine g_iconst F (v := (0 : Int32)) dX7_readArc_22 (by decide) ?_
    refine g_aload_n F dX7_readArc_23 rfl 2 rfl ?_
    refine g_get F (C := RX3) (T := TX3) (N := 7) (ci := 3) (v := .int N1.1) hi_X7_readArc_X3 1 0 0 dX7_readArc_24 rfl rfl (by decide) fl_X7_readArc_56 rfl ?_
    refine g_iconst F (v := (1 : Int32)) dX7_readArc_27 (by decide) ?_
    refine g_isub F dX7_readArc_28 ?_
    obtain ⟨r2, hr2, h⟩ := bnd h
    refine g_cV F [.int (0 : Int32), .int (N1.1 - (1 : Int32))] 0 0 (ok_X7_readNumber (gl G) (gD G) cy a r1.2 (0 : Int32) (N1.1 - (1 : Int32)) r2 hr2) dX7_readArc_29 rfl rfl gX7_readArc_X7_readNumber rfl ⟨rfl, cd_X7_readNumber⟩ (by decide) rfl (Nat.le_of_ble_eq_true rfl) [0] (by decide) rfl rfl (sg' := [(sTxt cy a r2.2), (sNet cy a1 N1)]) (st' := [.int r2.1]) rfl rfl ?_
    refine g_if_eq F 47 h dX7_readArc_32 (by decide) (fun h => ?_) (fun h => ?_)
    · refine g_iconst F (v := (0 : Int32)) dX7_readArc_47 (by decide) ?_
      obtain rfl := Option.some.inj h
      exact g_zret F Rq rfl rfl dX7_readArc_48
    · refine g_aload_n F dX7_readArc_35 rfl 2 rfl ?_
      refine g_iload_n F dX7_readArc_36 rfl 0 rfl ?_
      refine g_aload_n F dX7_readArc_37 rfl 1 rfl ?_
      refine g_get F (C := RX7) (T := TX7) (N := 6) (ci := 7) (v := .int (r2.2.1 5)) hi_X7_readArc_X7 0 0 5 dX7_readArc_38 rfl rfl (by decide) fl_X7_readArc_53 rfl ?_
      obtain ⟨r3, hr3, h⟩ := bnd h
      refine g_cV F [.int (r1.2.1 5), .int (r2.2.1 5)] 0 0 (ok_X3_canTake (gl G) (gD G) cy a1 N1 (r1.2.1 5) (r2.2.1 5) r3 hr3) dX7_readArc_41 rfl rfl gX7_readArc_X3_canTake rfl ⟨rfl, cd_X3_canTake⟩ (by decide) rfl (Nat.le_of_ble_eq_true rfl) [1] (by decide) rfl rfl (sg' := [(sTxt cy a r2.2), (sNet cy a1 N1)]) (st' := [.int r3]) rfl rfl ?_
      refine g_if_ne F 49 h dX7_readArc_44 (by decide) (fun h => ?_) (fun h => ?_)
      · refine g_aload_n F dX7_readArc_49 rfl 2 rfl ?_
        refine g_iload_n F dX7_readArc_50 rfl 0 rfl ?_
        refine g_aload_n F dX7_readArc_51 rfl 1 rfl ?_
        refine g_get F (C := RX7) (T := TX7) (N := 6) (ci := 7) (v := .int (r2.2.1 5)) hi_X7_readArc_X7 0 0 5 dX7_readArc_52 rfl rfl (by decide) fl_X7_readArc_53 rfl ?_
        obtain ⟨r4, hr4, h⟩ := bnd h
        refine g_cV F [.int (r1.2.1 5), .int (r2.2.1 5)] 0 0 (ok_X3_put (gl G) (gD G) cy a1 N1 (r1.2.1 5) (r2.2.1 5) r4 hr4) dX7_readArc_55 rfl rfl gX7_readArc_X3_put rfl ⟨rfl, cd_X3_put⟩ (by decide) rfl (Nat.le_of_ble_eq_true rfl) [1] (by decide) rfl rfl (sg' := [(sTxt cy a r2.2), (sNet cy a1 r4.2)]) (st' := [.int r4.1]) rfl rfl ?_
        refine g_pop F dX7_readArc_58 rfl ?_
        refine g_iconst F (v := (1 : Int32)) dX7_readArc_59 (by decide) ?_
        obtain rfl := Option.some.inj h
        exact g_zret F Rq rfl rfl dX7_readArc_60
      · refine g_iconst F (v := (0 : Int32)) dX7_readArc_47 (by decide) ?_
        obtain rfl := Option.some.inj h
        exact g_zret F Rq rfl rfl dX7_readArc_48
  · refine g_iconst F (v := (0 : Int32)) dX7_readArc_14 (by decide) ?_
    obtain rfl := Option.some.inj h
    exact g_zret F Rq rfl rfl dX7_readArc_15
theorem hi_X7_readEntry_X7 : ∀ w ∈ u_ws RX7 TX7 6, w ∈ wsX7_readEntry := by decide +kernel
theorem fl_X7_readEntry_31 : Cond.fieldLink RX7 31 "ArcOrder$Text" "token" "C" ∈ wsX7_readEntry := by decide +kernel
abbrev rm_X7_readEntry : Room := { frames := 5, cells := 0, slots := 0, locals := 127 }
set_option maxHeartbeats 4000000 in
set_option maxRecDepth 100000 in
theorem ok_X7_readEntry (l : Launch) (D : va_G) (cy : Nat → ClassId) (a : Nat → Nat) (a1 : Nat → Nat)  (Tt : TxtS) (N1 : NetS) (x2 : Int32) (out : Int32 × TxtS × NetS) (h : f_X7_readEntry Tt N1 x2 = some out) : OK l D cy yX7_readEntry wsX7_readEntry rm_X7_readEntry [.ref (a 0), .ref (a1 0), .int x2] [(sTxt cy a Tt), (sNet cy a1 N1)] (some (.int out.1)) [(sTxt cy a out.2.1), (sNet cy a1 out.2.2)] := by
  refine OKx.of (cc := cX7_readEntry) (maxL := 4) (ret := (some .boolean)) (by decide) rfl (Nat.le_of_ble_eq_true rfl) (fun G F Rq => ?_)
  show Go G 0 0 0 [(0, .ref (a 0)), (1, .ref (a1 0)), (2, .int x2)] [] [(sTxt cy a Tt), (sNet cy a1 N1)]
  replace F : Fx G cX7_readEntry wsX7_readEntry RX7 cy 4 (rm_X7_readEntry) := F
  replace Rq : Rx G "readEntry" (some .boolean) (some (.int out.1)) (fun z => z = [(sTxt cy a out.2.1), (sNet cy a1 out.2.2)]) 0 0 := Rq
  unfold f_X7_readEntry at h
  refine g_iconst F (v := (0 : Int32)) dX7_readEntry_0 (by decide) ?_
  refine g_istore_n F (lv' := [(3, .int (0 : Int32)), (0, .ref (a 0)), (1, .ref (a1 0)), (2, .int x2)]) dX7_readEntry_1 rfl (by decide) rfl ?_
  refine g_aload_n F dX7_readEntry_2 rfl 1 rfl ?_
  refine g_get F (C := RX7) (T := TX7) (N := 6) (ci := 7) (v := .int (Tt.1 2)) hi_X7_readEntry_X7 0 0 2 dX7_readEntry_3 rfl rfl (by decide) fl_X7_readEntry_31 rfl ?_
  refine g_bipush F (v := (110 : Int32)) dX7_readEntry_6 (by decide) ?_
  refine g_icmp_ne F 32 h dX7_readEntry_8 (by decide) (fun h => ?_) (fun h => ?_)
  · refine g_aload_n F dX7_readEntry_32 rfl 1 rfl ?_
    refine g_get F (C := RX7) (T := TX7) (N := 6) (ci := 7) (v := .int (Tt.1 2)) hi_X7_readEntry_X7 0 0 2 dX7_readEntry_33 rfl rfl (by decide) fl_X7_readEntry_31 rfl ?_
    refine g_bipush F (v := (97 : Int32)) dX7_readEntry_36 (by decide) ?_
    refine g_icmp_ne F 47 h dX7_readEntry_38 (by decide) (fun h => ?_) (fun h => ?_)
    · refine g_iload_n F dX7_readEntry_47 rfl 0 rfl ?_
      refine g_if_ne F 53 h dX7_readEntry_48 (by decide) (fun h => ?_) (fun h => ?_)
      · refine g_aload_n F dX7_readEntry_53 rfl 1 rfl ?_
        obtain ⟨r1, hr1, h⟩ := bnd h
        refine g_cV F [] 0 0 (ok_X7_nextToken (gl G) (gD G) cy a Tt r1 hr1) dX7_readEntry_54 rfl rfl gX7_readEntry_X7_nextToken rfl ⟨rfl, cd_X7_nextToken⟩ (by decide) rfl (Nat.le_of_ble_eq_true rfl) [0] (by decide) rfl rfl (sg' := [(sTxt cy a r1), (sNet cy a1 N1)]) (st' := []) rfl rfl ?_
        refine g_aload_n F dX7_readEntry_57 rfl 1 rfl ?_
        refine g_get F (C := RX7) (T := TX7) (N := 6) (ci := 7) (v := .int (r1.1 2)) hi_X7_readEntry_X7 0 0 2 dX7_readEntry_58 rfl rfl (by decide) fl_X7_readEntry_31 rfl ?_
        refine g_bipush F (v := (59 : Int32)) dX7_readEntry_61 (by decide) ?_
        refine g_icmp_ne F 70 h dX7_readEntry_63 (by decide) (fun h => ?_) (fun h => ?_)
        · refine g_iconst F (v := (0 : Int32)) dX7_readEntry_70 (by decide) ?_
          obtain rfl := Option.some.inj h
          exact g_zret F Rq rfl rfl dX7_readEntry_71
        · refine g_iconst F (v := (1 : Int32)) dX7_readEntry_66 (by decide) ?_
          refine g_goto F 71 dX7_readEntry_67 (by decide) ?_
          obtain rfl := Option.some.inj h
          exact g_zret F Rq rfl rfl dX7_readEntry_71
      · refine g_iconst F (v := (0 : Int32)) dX7_readEntry_51 (by decide) ?_
        obtain rfl := Option.some.inj h
        exact g_zret F Rq rfl rfl dX7_readEntry_52
    · refine g_aload_n F dX7_readEntry_41 rfl 1 rfl ?_
      refine g_aload_n F dX7_readEntry_42 rfl 2 rfl ?_
      obtain ⟨r2, hr2, h⟩ := bnd h
      refine g_cV F [.ref (a1 0)] 0 0 (ok_X7_readArc (gl G) (gD G) cy a a1 Tt N1 r2 hr2) dX7_readEntry_43 rfl rfl gX7_readEntry_X7_readArc rfl ⟨rfl, cd_X7_readArc⟩ (by decide) rfl (Nat.le_of_ble_eq_true rfl) [0, 1] (by decide) rfl rfl (sg' := [(sTxt cy a r2.2.1), (sNet cy a1 r2.2.2)]) (st' := [.int r2.1]) rfl rfl ?_
      refine g_istore_n F (lv' := [(3, .int r2.1), (0, .ref (a 0)), (1, .ref (a1 0)), (2, .int x2)]) dX7_readEntry_46 rfl (by decide) rfl ?_
      refine g_iload_n F dX7_readEntry_47 rfl 0 rfl ?_
      refine g_if_ne F 53 h dX7_readEntry_48 (by decide) (fun h => ?_) (fun h => ?_)
      · refine g_aload_n F dX7_readEntry_53 rfl 1 rfl ?_
        obtain ⟨r3, hr3, h⟩ := bnd h
        refine g_cV F [] 0 0 (ok_X7_nextToken (gl G) (gD G) cy a r2.2.1 r3 hr3) dX7_readEntry_54 rfl rfl gX7_readEntry_X7_nextToken rfl ⟨rfl, cd_X7_nextToken⟩ (by decide) rfl (Nat.le_of_ble_eq_true rfl) [0] (by decide) rfl rfl (sg' := [(sTxt cy a r3), (sNet cy a1 r2.2.2)]) (st' := []) rfl rfl ?_
        refine g_aload_n F dX7_readEntry_57 rfl 1 rfl ?_
        refine g_get F (C := RX7) (T := TX7) (N := 6) (ci := 7) (v := .int (r3.1 2)) hi_X7_readEntry_X7 0 0 2 dX7_readEntry_58 rfl rfl (by decide) fl_X7_readEntry_31 rfl ?_
        refine g_bipush F (v := (59 : Int32)) dX7_readEntry_61 (by decide) ?_
        refine g_icmp_ne F 70 h dX7_readEntry_63 (by decide) (fun h => ?_) (fun h => ?_)
        · refine g_iconst F (v := (0 : Int32)) dX7_readEntry_70 (by decide) ?_
          obtain rfl := Option.some.inj h
          exact g_zret F Rq rfl rfl dX7_readEntry_71
        · refine g_iconst F (v := (1 : Int32)) dX7_readEntry_66 (by decide) ?_
          refine g_goto F 71 dX7_readEntry_67 (by decide) ?_
          obtain rfl := Option.some.inj h
          exact g_zret F Rq rfl rfl dX7_readEntry_71
      · refine g_iconst F (v := (0 : Int32)) dX7_readEntry_51 (by decide) ?_
        obtain rfl := Option.some.inj h
        exact g_zret F Rq rfl rfl dX7_readEntry_52
  · refine g_iload_n F dX7_readEntry_11 rfl 3 rfl ?_
    refine g_if_eq F 27 h dX7_readEntry_12 (by decide) (fun h => ?_) (fun h => ?_)
    · refine g_iconst F (v := (0 : Int32)) dX7_readEntry_27 (by decide) ?_
      refine g_istore_n F (lv' := [(3, .int (0 : Int32)), (0, .ref (a 0)), (1, .ref (a1 0)), (2, .int x2)]) dX7_readEntry_28 rfl (by decide) rfl ?_
      refine g_goto F 47 dX7_readEntry_29 (by decide) ?_
      refine g_iload_n F dX7_readEntry_47 rfl 0 rfl ?_
      refine g_if_ne F 53 h dX7_readEntry_48 (by decide) (fun h => ?_) (fun h => ?_)
      · refine g_aload_n F dX7_readEntry_53 rfl 1 rfl ?_
        obtain ⟨r4, hr4, h⟩ := bnd h
        refine g_cV F [] 0 0 (ok_X7_nextToken (gl G) (gD G) cy a Tt r4 hr4) dX7_readEntry_54 rfl rfl gX7_readEntry_X7_nextToken rfl ⟨rfl, cd_X7_nextToken⟩ (by decide) rfl (Nat.le_of_ble_eq_true rfl) [0] (by decide) rfl rfl (sg' := [(sTxt cy a r4), (sNet cy a1 N1)]) (st' := []) rfl rfl ?_
        refine g_aload_n F dX7_readEntry_57 rfl 1 rfl ?_
        refine g_get F (C := RX7) (T := TX7) (N := 6) (ci := 7) (v := .int (r4.1 2)) hi_X7_readEntry_X7 0 0 2 dX7_readEntry_58 rfl rfl (by decide) fl_X7_readEntry_31 rfl ?_
        refine g_bipush F (v := (59 : Int32)) dX7_readEntry_61 (by decide) ?_
        refine g_icmp_ne F 70 h dX7_readEntry_63 (by decide) (fun h => ?_) (fun h => ?_)
        · refine g_iconst F (v := (0 : Int32)) dX7_readEntry_70 (by decide) ?_
          obtain rfl := Option.some.inj h
          exact g_zret F Rq rfl rfl dX7_readEntry_71
        · refine g_iconst F (v := (1 : Int32)) dX7_readEntry_66 (by decide) ?_
          refine g_goto F 71 dX7_readEntry_67 (by decide) ?_
          obtain rfl := Option.some.inj h
          exact g_zret F Rq rfl rfl dX7_readEntry_71
      · refine g_iconst F (v := (0 : Int32)) dX7_readEntry_51 (by decide) ?_
        obtain rfl := Option.some.inj h
        exact g_zret F Rq rfl rfl dX7_readEntry_52
    · refine g_aload_n F dX7_readEntry_15 rfl 1 rfl ?_
      refine g_aload_n F dX7_readEntry_16 rfl 2 rfl ?_
      obtain ⟨r5, hr5, h⟩ := bnd h
      refine g_cV F [.ref (a1 0)] 0 0 (ok_X7_readItems (gl G) (gD G) cy a a1 Tt N1 r5 hr5) dX7_readEntry_17 rfl rfl gX7_readEntry_X7_readItems rfl ⟨rfl, cd_X7_readItems⟩ (by decide) rfl (Nat.le_of_ble_eq_true rfl) [0, 1] (by decide) rfl rfl (sg' := [(sTxt cy a r5.2.1), (sNet cy a1 r5.2.2)]) (st' := [.int r5.1]) rfl rfl ?_
      refine g_if_eq F 27 h dX7_readEntry_20 (by decide) (fun h => ?_) (fun h => ?_)
      · refine g_iconst F (v := (0 : Int32)) dX7_readEntry_27 (by decide) ?_
        refine g_istore_n F (lv' := [(3, .int (0 : Int32)), (0, .ref (a 0)), (1, .ref (a1 0)), (2, .int x2)]) dX7_readEntry_28 rfl (by decide) rfl ?_
        refine g_goto F 47 dX7_readEntry_29 (by decide) ?_
        refine g_iload_n F dX7_readEntry_47 rfl 0 rfl ?_
        refine g_if_ne F 53 h dX7_readEntry_48 (by decide) (fun h => ?_) (fun h => ?_)
        · refine g_aload_n F dX7_readEntry_53 rfl 1 rfl ?_
          obtain ⟨r6, hr6, h⟩ := bnd h
          refine g_cV F [] 0 0 (ok_X7_nextToken (gl G) (gD G) cy a r5.2.1 r6 hr6) dX7_readEntry_54 rfl rfl gX7_readEntry_X7_nextToken rfl ⟨rfl, cd_X7_nextToken⟩ (by decide) rfl (Nat.le_of_ble_eq_true rfl) [0] (by decide) rfl rfl (sg' := [(sTxt cy a r6), (sNet cy a1 r5.2.2)]) (st' := []) rfl rfl ?_
          refine g_aload_n F dX7_readEntry_57 rfl 1 rfl ?_
          refine g_get F (C := RX7) (T := TX7) (N := 6) (ci := 7) (v := .int (r6.1 2)) hi_X7_readEntry_X7 0 0 2 dX7_readEntry_58 rfl rfl (by decide) fl_X7_readEntry_31 rfl ?_
          refine g_bipush F (v := (59 : Int32)) dX7_readEntry_61 (by decide) ?_
          refine g_icmp_ne F 70 h dX7_readEntry_63 (by decide) (fun h => ?_) (fun h => ?_)
          · refine g_iconst F (v := (0 : Int32)) dX7_readEntry_70 (by decide) ?_
            obtain rfl := Option.some.inj h
            exact g_zret F Rq rfl rfl dX7_readEntry_71
          · refine g_iconst F (v := (1 : Int32)) dX7_readEntry_66 (by decide) ?_
            refine g_goto F 71 dX7_readEntry_67 (by decide) ?_
            obtain rfl := Option.some.inj h
            exact g_zret F Rq rfl rfl dX7_readEntry_71
        · refine g_iconst F (v := (0 : Int32)) dX7_readEntry_51 (by decide) ?_
          obtain rfl := Option.some.inj h
          exact g_zret F Rq rfl rfl dX7_readEntry_52
      · refine g_iconst F (v := (1 : Int32)) dX7_readEntry_23 (by decide) ?_
        refine g_goto F 28 dX7_readEntry_24 (by decide) ?_
        refine g_istore_n F (lv' := [(3, .int (1 : Int32)), (0, .ref (a 0)), (1, .ref (a1 0)), (2, .int x2)]) dX7_readEntry_28 rfl (by decide) rfl ?_
        refine g_goto F 47 dX7_readEntry_29 (by decide) ?_
        refine g_iload_n F dX7_readEntry_47 rfl 0 rfl ?_
        refine g_if_ne F 53 h dX7_readEntry_48 (by decide) (fun h => ?_) (fun h => ?_)
        · refine g_aload_n F dX7_readEntry_53 rfl 1 rfl ?_
          obtain ⟨r7, hr7, h⟩ := bnd h
          refine g_cV F [] 0 0 (ok_X7_nextToken (gl G) (gD G) cy a r5.2.1 r7 hr7) dX7_readEntry_54 rfl rfl gX7_readEntry_X7_nextToken rfl ⟨rfl, cd_X7_nextToken⟩ (by decide) rfl (Nat.le_of_ble_eq_true rfl) [0] (by decide) rfl rfl (sg' := [(sTxt cy a r7), (sNet cy a1 r5.2.2)]) (st' := []) rfl rfl ?_
          refine g_aload_n F dX7_readEntry_57 rfl 1 rfl ?_
          refine g_get F (C := RX7) (T := TX7) (N := 6) (ci := 7) (v := .int (r7.1 2)) hi_X7_readEntry_X7 0 0 2 dX7_readEntry_58 rfl rfl (by decide) fl_X7_readEntry_31 rfl ?_
          refine g_bipush F (v := (59 : Int32)) dX7_readEntry_61 (by decide) ?_
          refine g_icmp_ne F 70 h dX7_readEntry_63 (by decide) (fun h => ?_) (fun h => ?_)
          · refine g_iconst F (v := (0 : Int32)) dX7_readEntry_70 (by decide) ?_
            obtain rfl := Option.some.inj h
            exact g_zret F Rq rfl rfl dX7_readEntry_71
          · refine g_iconst F (v := (1 : Int32)) dX7_readEntry_66 (by decide) ?_
            refine g_goto F 71 dX7_readEntry_67 (by decide) ?_
            obtain rfl := Option.some.inj h
            exact g_zret F Rq rfl rfl dX7_readEntry_71
        · refine g_iconst F (v := (0 : Int32)) dX7_readEntry_51 (by decide) ?_
          obtain rfl := Option.some.inj h
          exact g_zret F Rq rfl rfl dX7_readEntry_52
theorem hi_X7_readInto_X7 : ∀ w ∈ u_ws RX7 TX7 6, w ∈ wsX7_readInto := by decide +kernel
theorem fl_X7_readInto_25 : Cond.fieldLink RX7 25 "ArcOrder$Text" "tokenEnd" "I" ∈ wsX7_readInto := by decide +kernel
theorem fl_X7_readInto_31 : Cond.fieldLink RX7 31 "ArcOrder$Text" "token" "C" ∈ wsX7_readInto := by decide +kernel
theorem fl_X7_readInto_39 : Cond.fieldLink RX7 39 "ArcOrder$Text" "tokenStart" "I" ∈ wsX7_readInto := by decide +kernel
abbrev rm_X7_readInto : Room := { frames := 6, cells := 0, slots := 0, locals := 150 }
set_option maxHeartbeats 4000000 in
set_option maxRecDepth 100000 in
theorem k_X7_readInto_14_ok {G : GX} {cy : Nat → ClassId} (a : Nat → Nat) (a1 : Nat → Nat)    {out : Int32 × TxtS × NetS} (F : Fx G cX7_readInto wsX7_readInto RX7 cy 4 (rm_X7_readInto)) (Rq : Rx G "readInto" (some .int) (some (.int out.1)) (fun z => z = [(sTxt cy a out.2.1), (sNet cy a1 out.2.2)]) 0 0) (ke : Int32 → TxtS → NetS → Option (Int32 × TxtS × NetS)) (hke : ∀ (x2 : Int32) (Tt : TxtS) (N1 : NetS), ke x2 Tt N1 = some out → Go G 0 0 70 [(2, .int x2)] [] [(sTxt cy a Tt), (sNet cy a1 N1)]) : ∀ (n : Nat) (x2 : Int32) (x3 : Int32) (Tt : TxtS) (N1 : NetS), k_X7_readInto_14 ke n x2 x3 Tt N1 = some out → Go G 0 0 14 [(0, .ref (a 0)), (1, .ref (a1 0)), (2, .int x2), (3, .int x3)] [] [(sTxt cy a Tt), (sNet cy a1 N1)] := by
  intro n
  induction n with
  | zero =>
    intro x2 x3 Tt N1 h
    exact nosome h
  | succ n ih =>
    intro x2 x3 Tt N1 h
    rw [k_X7_readInto_14.eq_2] at h
    refine g_iload_n F dX7_readInto_14 rfl 3 rfl ?_
    refine g_bipush F (v := (120 : Int32)) dX7_readInto_15 (by decide) ?_
    refine g_icmp_gt F 70 h dX7_readInto_17 (by decide) (fun h => ?_) (fun h => ?_)
    · refine Go.sub (lv' := [(2, .int x2)]) [2] rfl ?_
      exact hke x2 Tt N1 h
    · refine g_aload_n F dX7_readInto_20 rfl 0 rfl ?_
      obtain ⟨r2, hr2, h⟩ := bnd h
      refine g_cV F [] 0 0 (ok_X7_nextToken (gl G) (gD G) cy a Tt r2 hr2) dX7_readInto_21 rfl rfl gX7_readInto_X7_nextToken rfl ⟨rfl, cd_X7_nextToken⟩ (by decide) rfl (Nat.le_of_ble_eq_true rfl) [0] (by decide) rfl rfl (sg' := [(sTxt cy a r2), (sNet cy a1 N1)]) (st' := []) rfl rfl ?_
      refine g_aload_n F dX7_readInto_24 rfl 0 rfl ?_
      refine g_get F (C := RX7) (T := TX7) (N := 6) (ci := 7) (v := .int (r2.1 2)) hi_X7_readInto_X7 0 0 2 dX7_readInto_25 rfl rfl (by decide) fl_X7_readInto_31 rfl ?_
      refine g_bipush F (v := (101 : Int32)) dX7_readInto_28 (by decide) ?_
      refine g_icmp_ne F 36 h dX7_readInto_30 (by decide) (fun h => ?_) (fun h => ?_)
      · refine g_aload_n F dX7_readInto_36 rfl 0 rfl ?_
        refine g_aload_n F dX7_readInto_37 rfl 1 rfl ?_
        refine g_iload_n F dX7_readInto_38 rfl 2 rfl ?_
        refine g_if_ne F 46 h dX7_readInto_39 (by decide) (fun h => ?_) (fun h => ?_)
        · refine g_iconst F (v := (0 : Int32)) dX7_readInto_46 (by decide) ?_
          obtain ⟨r3, hr3, h⟩ := bnd h
          refine g_cV F [.ref (a1 0), .int (0 : Int32)] 0 0 (ok_X7_readEntry (gl G) (gD G) cy a a1 r2 N1 (0 : Int32) r3 hr3) dX7_readInto_47 rfl rfl gX7_readInto_X7_readEntry rfl ⟨rfl, cd_X7_readEntry⟩ (by decide) rfl (Nat.le_of_ble_eq_true rfl) [0, 1] (by decide) rfl rfl (sg' := [(sTxt cy a r3.2.1), (sNet cy a1 r3.2.2)]) (st' := [.int r3.1]) rfl rfl ?_
          refine g_if_ne F 61 h dX7_readInto_50 (by decide) (fun h => ?_) (fun h => ?_)
          · refine g_iinc F (v := (x2 + 1)) (lv' := [(2, .int (x2 + 1)), (0, .ref (a 0)), (1, .ref (a1 0)), (3, .int x3)]) dX7_readInto_61 2 rfl rfl (by decide) rfl ?_
            refine g_iinc F (v := (x3 + 1)) (lv' := [(3, .int (x3 + 1)), (2, .int (x2 + 1)), (0, .ref (a 0)), (1, .ref (a1 0))]) dX7_readInto_64 3 rfl rfl (by decide) rfl ?_
            refine g_goto F 14 dX7_readInto_67 (by decide) ?_
            refine Go.sub (lv' := [(0, .ref (a 0)), (1, .ref (a1 0)), (2, .int (x2 + 1)), (3, .int (x3 + 1))]) [2, 3, 1, 0] rfl ?_
            exact ih (x2 + 1) (x3 + 1) r3.2.1 r3.2.2 h
          · refine g_bipush F (v := (-10 : Int32)) dX7_readInto_53 (by decide) ?_
            refine g_aload_n F dX7_readInto_55 rfl 0 rfl ?_
            refine g_get F (C := RX7) (T := TX7) (N := 6) (ci := 7) (v := .int (r3.2.1.1 3)) hi_X7_readInto_X7 0 0 3 dX7_readInto_56 rfl rfl (by decide) fl_X7_readInto_39 rfl ?_
            refine g_isub F dX7_readInto_59 ?_
            obtain rfl := Option.some.inj h
            exact g_iret F Rq rfl dX7_readInto_60
        · refine g_iconst F (v := (1 : Int32)) dX7_readInto_42 (by decide) ?_
          refine g_goto F 47 dX7_readInto_43 (by decide) ?_
          obtain ⟨r4, hr4, h⟩ := bnd h
          refine g_cV F [.ref (a1 0), .int (1 : Int32)] 0 0 (ok_X7_readEntry (gl G) (gD G) cy a a1 r2 N1 (1 : Int32) r4 hr4) dX7_readInto_47 rfl rfl gX7_readInto_X7_readEntry rfl ⟨rfl, cd_X7_readEntry⟩ (by decide) rfl (Nat.le_of_ble_eq_true rfl) [0, 1] (by decide) rfl rfl (sg' := [(sTxt cy a r4.2.1), (sNet cy a1 r4.2.2)]) (st' := [.int r4.1]) rfl rfl ?_
          refine g_if_ne F 61 h dX7_readInto_50 (by decide) (fun h => ?_) (fun h => ?_)
          · refine g_iinc F (v := (x2 + 1)) (lv' := [(2, .int (x2 + 1)), (0, .ref (a 0)), (1, .ref (a1 0)), (3, .int x3)]) dX7_readInto_61 2 rfl rfl (by decide) rfl ?_
            refine g_iinc F (v := (x3 + 1)) (lv' := [(3, .int (x3 + 1)), (2, .int (x2 + 1)), (0, .ref (a 0)), (1, .ref (a1 0))]) dX7_readInto_64 3 rfl rfl (by decide) rfl ?_
            refine g_goto F 14 dX7_readInto_67 (by decide) ?_
            refine Go.sub (lv' := [(0, .ref (a 0)), (1, .ref (a1 0)), (2, .int (x2 + 1)), (3, .int (x3 + 1))]) [2, 3, 1, 0] rfl ?_
            exact ih (x2 + 1) (x3 + 1) r4.2.1 r4.2.2 h
          · refine g_bipush F (v := (-10 : Int32)) dX7_readInto_53 (by decide) ?_
            refine g_aload_n F dX7_readInto_55 rfl 0 rfl ?_
            refine g_get F (C := RX7) (T := TX7) (N := 6) (ci := 7) (v := .int (r4.2.1.1 3)) hi_X7_readInto_X7 0 0 3 dX7_readInto_56 rfl rfl (by decide) fl_X7_readInto_39 rfl ?_
            refine g_isub F dX7_readInto_59 ?_
            obtain rfl := Option.some.inj h
            exact g_iret F Rq rfl dX7_readInto_60
      · refine g_goto F 70 dX7_readInto_33 (by decide) ?_
        refine Go.sub (lv' := [(2, .int x2)]) [2] rfl ?_
        exact hke x2 r2 N1 h
set_option maxHeartbeats 4000000 in
set_option maxRecDepth 100000 in
theorem ok_X7_readInto (l : Launch) (D : va_G) (cy : Nat → ClassId) (a : Nat → Nat) (a1 : Nat → Nat)  (Tt : TxtS) (N1 : NetS)  (out : Int32 × TxtS × NetS) (h : f_X7_readInto Tt N1 = some out) : OK l D cy yX7_readInto wsX7_readInto rm_X7_readInto [.ref (a 0), .ref (a1 0)] [(sTxt cy a Tt), (sNet cy a1 N1)] (some (.int out.1)) [(sTxt cy a out.2.1), (sNet cy a1 out.2.2)] := by
  refine OKx.of (cc := cX7_readInto) (maxL := 4) (ret := (some .int)) (by decide) rfl (Nat.le_of_ble_eq_true rfl) (fun G F Rq => ?_)
  show Go G 0 0 0 [(0, .ref (a 0)), (1, .ref (a1 0))] [] [(sTxt cy a Tt), (sNet cy a1 N1)]
  replace F : Fx G cX7_readInto wsX7_readInto RX7 cy 4 (rm_X7_readInto) := F
  replace Rq : Rx G "readInto" (some .int) (some (.int out.1)) (fun z => z = [(sTxt cy a out.2.1), (sNet cy a1 out.2.2)]) 0 0 := Rq
  unfold f_X7_readInto at h
  refine g_aload_n F dX7_readInto_0 rfl 1 rfl ?_
  refine g_iconst F (v := (4 : Int32)) dX7_readInto_1 (by decide) ?_
  obtain ⟨r1, hr1, h⟩ := bnd h
  refine g_cV F [.int (4 : Int32)] 0 0 (ok_X3_begin (gl G) (gD G) cy a1 N1 (4 : Int32) r1 hr1) dX7_readInto_2 rfl rfl gX7_readInto_X3_begin rfl ⟨rfl, cd_X3_begin⟩ (by decide) rfl (Nat.le_of_ble_eq_true rfl) [1] (by decide) rfl rfl (sg' := [(sTxt cy a Tt), (sNet cy a1 r1)]) (st' := []) rfl rfl ?_
  refine g_aload_n F dX7_readInto_5 rfl 0 rfl ?_
  refine g_iconst F (v := (0 : Int32)) dX7_readInto_6 (by decide) ?_
  refine g_put F (C := RX7) (T := TX7) (N := 6) (ci := 7) (v := .int (0 : Int32)) (ty := .int) (sg' := [(sTxt cy a ((upd Tt.1 4 (0 : Int32)), Tt.2)), (sNet cy a1 r1)]) hi_X7_readInto_X7 tyX7 tyX7_ok nmX7 0 0 4 dX7_readInto_7 rfl rfl (by decide) fl_X7_readInto_25 rfl rfl rfl rfl (Nat.le_of_ble_eq_true rfl) rfl ?_
  refine g_iconst F (v := (0 : Int32)) dX7_readInto_10 (by decide) ?_
  refine g_istore_n F (lv' := [(2, .int (0 : Int32)), (0, .ref (a 0)), (1, .ref (a1 0))]) dX7_readInto_11 rfl (by decide) rfl ?_
  refine g_iconst F (v := (0 : Int32)) dX7_readInto_12 (by decide) ?_
  refine g_istore_n F (lv' := [(3, .int (0 : Int32)), (2, .int (0 : Int32)), (0, .ref (a 0)), (1, .ref (a1 0))]) dX7_readInto_13 rfl (by decide) rfl ?_
  refine Go.sub (lv' := [(0, .ref (a 0)), (1, .ref (a1 0)), (2, .int (0 : Int32)), (3, .int (0 : Int32))]) [2, 3, 1, 0] rfl ?_
  refine k_X7_readInto_14_ok a a1  F Rq _ (fun x2_5 Tt_5 N1_5 h => ?_) _ (0 : Int32) (0 : Int32) ((upd Tt.1 4 (0 : Int32)), Tt.2) r1 h
  refine g_iload_n F dX7_readInto_70 rfl 0 rfl ?_
  obtain rfl := Option.some.inj h
  exact g_iret F Rq rfl dX7_readInto_71
