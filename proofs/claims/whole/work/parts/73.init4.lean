theorem hi_X8_init_X8 : ∀ w ∈ u_ws RX8 TX8 11, w ∈ wsX8_init := by decide +kernel
theorem ob_X8_init : Cond.methodLink RX8 1 objectInit ∈ wsX8_init ∧ Cond.instanceMethod objectInit ∈ wsX8_init ∧ Cond.code objectInit ⟨#[0xb1]⟩ 1 none ∈ wsX8_init := by decide +kernel
theorem fl_X8_init_10 : Cond.fieldLink RX8 10 "ArcOrder" "net" "LArcOrder$Net;" ∈ wsX8_init := by decide +kernel
theorem fl_X8_init_16 : Cond.fieldLink RX8 16 "ArcOrder" "aside" "LArcOrder$Net;" ∈ wsX8_init := by decide +kernel
theorem fl_X8_init_22 : Cond.fieldLink RX8 22 "ArcOrder" "text" "LArcOrder$Text;" ∈ wsX8_init := by decide +kernel
theorem fl_X8_init_29 : Cond.fieldLink RX8 29 "ArcOrder" "list" "LArcOrder$ArcList;" ∈ wsX8_init := by decide +kernel
theorem fl_X8_init_36 : Cond.fieldLink RX8 36 "ArcOrder" "past" "LArcOrder$Past;" ∈ wsX8_init := by decide +kernel
theorem fl_X8_init_43 : Cond.fieldLink RX8 43 "ArcOrder" "ring" "LArcOrder$Lap;" ∈ wsX8_init := by decide +kernel
theorem fl_X8_init_50 : Cond.fieldLink RX8 50 "ArcOrder" "sight" "LArcOrder$Sight;" ∈ wsX8_init := by decide +kernel
theorem fl_X8_init_57 : Cond.fieldLink RX8 57 "ArcOrder" "tally" "LArcOrder$Tally;" ∈ wsX8_init := by decide +kernel
theorem fl_X8_init_64 : Cond.fieldLink RX8 64 "ArcOrder" "calendar" "LArcOrder$Calendar;" ∈ wsX8_init := by decide +kernel
theorem fl_X8_init_68 : Cond.fieldLink RX8 68 "ArcOrder" "images" "[LArcOrder$Net;" ∈ wsX8_init := by decide +kernel
theorem na_X8_init_boolean : Cond.arrayClass .boolean ∈ wsX8_init := by decide +kernel
theorem fl_X8_init_72 : Cond.fieldLink RX8 72 "ArcOrder" "imageKept" "[Z" ∈ wsX8_init := by decide +kernel
def f0_X8 : List Value := [.null, .null, .null, .null, .null, .null, .null, .null, .null, .null, .null]
theorem hn_X8_init_X3 : ∀ w ∈ u_ws RX3 TX3 7, w ∈ wsX8_init := by decide +kernel
theorem ne_X8_init_X3 : Cond.classLink RX8 7 RX3 ∈ wsX8_init ∧ Cond.instantiable RX3 7 ∈ wsX8_init ∧ Cond.initialized RX3 ∈ wsX8_init ∧ Cond.instanceMethod yX3_init ∈ wsX8_init := by decide +kernel
theorem nl_X8_init_X3 : Cond.methodLink RX8 9 yX3_init ∈ wsX8_init := by decide +kernel
theorem hn_X8_init_X7 : ∀ w ∈ u_ws RX7 TX7 6, w ∈ wsX8_init := by decide +kernel
theorem ne_X8_init_X7 : Cond.classLink RX8 19 RX7 ∈ wsX8_init ∧ Cond.instantiable RX7 6 ∈ wsX8_init ∧ Cond.initialized RX7 ∈ wsX8_init ∧ Cond.instanceMethod yX7_init ∈ wsX8_init := by decide +kernel
theorem hn_X8_init_X0 : ∀ w ∈ u_ws RX0 TX0 3, w ∈ wsX8_init := by decide +kernel
theorem ne_X8_init_X0 : Cond.classLink RX8 26 RX0 ∈ wsX8_init ∧ Cond.instantiable RX0 3 ∈ wsX8_init ∧ Cond.initialized RX0 ∈ wsX8_init ∧ Cond.instanceMethod yX0_init ∈ wsX8_init := by decide +kernel
theorem hn_X8_init_X4 : ∀ w ∈ u_ws RX4 TX4 2, w ∈ wsX8_init := by decide +kernel
theorem ne_X8_init_X4 : Cond.classLink RX8 33 RX4 ∈ wsX8_init ∧ Cond.instantiable RX4 2 ∈ wsX8_init ∧ Cond.initialized RX4 ∈ wsX8_init ∧ Cond.instanceMethod yX4_init ∈ wsX8_init := by decide +kernel
theorem nl_X8_init_X4 : Cond.methodLink RX8 35 yX4_init ∈ wsX8_init := by decide +kernel
theorem hn_X8_init_X2 : ∀ w ∈ u_ws RX2 TX2 3, w ∈ wsX8_init := by decide +kernel
theorem ne_X8_init_X2 : Cond.classLink RX8 40 RX2 ∈ wsX8_init ∧ Cond.instantiable RX2 3 ∈ wsX8_init ∧ Cond.initialized RX2 ∈ wsX8_init ∧ Cond.instanceMethod yX2_init ∈ wsX8_init := by decide +kernel
theorem hn_X8_init_X5 : ∀ w ∈ u_ws RX5 TX5 6, w ∈ wsX8_init := by decide +kernel
theorem ne_X8_init_X5 : Cond.classLink RX8 47 RX5 ∈ wsX8_init ∧ Cond.instantiable RX5 6 ∈ wsX8_init ∧ Cond.initialized RX5 ∈ wsX8_init ∧ Cond.instanceMethod yX5_init ∈ wsX8_init := by decide +kernel
theorem hn_X8_init_X6 : ∀ w ∈ u_ws RX6 TX6 3, w ∈ wsX8_init := by decide +kernel
theorem ne_X8_init_X6 : Cond.classLink RX8 54 RX6 ∈ wsX8_init ∧ Cond.instantiable RX6 3 ∈ wsX8_init ∧ Cond.initialized RX6 ∈ wsX8_init ∧ Cond.instanceMethod yX6_init ∈ wsX8_init := by decide +kernel
theorem hn_X8_init_X1 : ∀ w ∈ u_ws RX1 TX1 1, w ∈ wsX8_init := by decide +kernel
theorem ne_X8_init_X1 : Cond.classLink RX8 61 RX1 ∈ wsX8_init ∧ Cond.instantiable RX1 1 ∈ wsX8_init ∧ Cond.initialized RX1 ∈ wsX8_init ∧ Cond.instanceMethod yX1_init ∈ wsX8_init := by decide +kernel
abbrev rm_X8_init : Room := { frames := 3, cells := 108, slots := 9407, locals := 140 }
abbrev aoW (cy : Nat → ClassId) (ao : Nat → Nat) (Nn Bb : NetS) (Tt : TxtS) (Ll : LstS) (Pp : PstS) (Rr : LapS) (Ss : SgtS) (Ww : TalS) (Dd : NetS) (Cc : CalS) (i0 i1 : NetS) (kp : Nat → Int32) : List va_W := [sAO ao, sNet cy (fun k => ao (10000 + k)) Nn, sNet cy (fun k => ao (20000 + k)) Bb, sTxt cy (fun k => ao (30000 + k)) Tt, sLst cy (fun k => ao (40000 + k)) Ll, sPst cy (fun k => ao (50000 + k)) Pp, sLap cy (fun k => ao (60000 + k)) Rr, sSgt cy (fun k => ao (70000 + k)) Ss, sTal cy (fun k => ao (80000 + k)) Ww, sNet cy (fun k => ao (80000 + (200 + k))) Dd, sCal cy (fun k => ao (90000 + k)) Cc, sImg cy ao, sZ cy (ao 11) 2 kp, sNet cy (fun k => ao (100000 + k)) i0, sNet cy (fun k => ao (100100 + k)) i1]
def xAO (cy : Nat → ClassId) (q : Nat) (z : List va_W) : Prop := ∃ (ao : Nat → Nat) (Nn Bb : NetS) (pool : Nat → NetS) (Dd i0 i1 : NetS), ao 0 = q ∧ z = [(aoW cy ao Nn Bb (z0, z0) (0, z0, z0) (0, ix0, pool) (0, z0, z0) (z0, z0) (0, zJ) Dd z0 i0 i1 z0).flatten] ∧ NetR Nn 4 o0 id0 id0
set_option maxHeartbeats 32000000 in
set_option maxRecDepth 100000 in
theorem ok_X8_init (l : Launch) (D : va_G) (cy : Nat → ClassId) (q : Nat) : OKx l D cy yX8_init wsX8_init rm_X8_init [.ref q] [[(q, .inr (8, f0_X8))]] none (xAO cy q) 108 9407 := by
  refine OKx.of (cc := cX8_init) (maxL := 2) (ret := none) (by decide) rfl (Nat.le_of_ble_eq_true rfl) (fun G F Rq => ?_)
  show Go G 0 0 0 [(0, .ref q)] [] [[(q, .inr (8, f0_X8))]]
  replace F : Fx G cX8_init wsX8_init RX8 cy 2 (rm_X8_init) := F
  replace Rq : Rx G "<init>" none none (xAO cy q) 108 9407 := Rq
  refine g_aload_n F dX8_init_0 rfl 0 rfl ?_
  refine g_obj F dX8_init_1 ob_X8_init (by decide) ?_
  refine g_aload_n F dX8_init_4 rfl 0 rfl ?_
  refine g_new F (C := RX3) (T := TX3) (N := 7) (ci := 3) (fs := f0_X3) hn_X8_init_X3 tyX3 tyX3_ok dX8_init_5 rfl ne_X8_init_X3.1 ne_X8_init_X3.2.1 ne_X8_init_X3.2.2.1 (by decide) (by decide) (fun r0 => ?_)
  refine g_dup F dX8_init_8 rfl ?_
  refine g_callI F (st := [.ref r0, .ref q]) [] (ok_X3_init (gl G) (gD G) cy r0) dX8_init_9 gX8_init_X3_init rfl rfl ne_X8_init_X3.2.2.1 nl_X8_init_X3 ne_X8_init_X3.2.2.2 rfl cd_X3_init (by decide) rfl (Nat.le_of_ble_eq_true rfl) [1] (by decide) rfl (fun cs hX => ?_)
  obtain ⟨a0, N0, rfl, rfl, h0⟩ := hX
  refine ⟨rfl, ?_⟩
  refine g_putF F Rq (C := RX8) (T := TX8) (N := 11) (ci := 8) (v := .ref (a0 0)) (sg' := [[(q, .inr (8, [.ref (a0 0), .null, .null, .null, .null, .null, .null, .null, .null, .null, .null]))], sNet cy a0 N0]) hi_X8_init_X8 tyX8 tyX8_ok nmX8 0 0 0 dX8_init_12 rfl rfl (by decide) fl_X8_init_10 rfl rfl rfl rfl rfl (Nat.le_of_ble_eq_true rfl) rfl ?_
  refine g_aload_n F dX8_init_15 rfl 0 rfl ?_
  refine g_new F (C := RX3) (T := TX3) (N := 7) (ci := 3) (fs := f0_X3) hn_X8_init_X3 tyX3 tyX3_ok dX8_init_16 rfl ne_X8_init_X3.1 ne_X8_init_X3.2.1 ne_X8_init_X3.2.2.1 (by decide) (by decide) (fun r1 => ?_)
  refine g_dup F dX8_init_19 rfl ?_
  refine g_callI F (st := [.ref r1, .ref q]) [] (ok_X3_init (gl G) (gD G) cy r1) dX8_init_20 gX8_init_X3_init rfl rfl ne_X8_init_X3.2.2.1 nl_X8_init_X3 ne_X8_init_X3.2.2.2 rfl cd_X3_init (by decide) rfl (Nat.le_of_ble_eq_true rfl) [2] (by decide) rfl (fun cs hX => ?_)
  obtain ⟨a1, N1, rfl, rfl, h1⟩ := hX
  refine ⟨rfl, ?_⟩
  refine g_putF F Rq (C := RX8) (T := TX8) (N := 11) (ci := 8) (v := .ref (a1 0)) (sg' := [[(q, .inr (8, [.ref (a0 0), .ref (a1 0), .null, .null, .null, .null, .null, .null, .null, .null, .null]))], sNet cy a0 N0, sNet cy a1 N1]) hi_X8_init_X8 tyX8 tyX8_ok nmX8 0 0 1 dX8_init_23 rfl rfl (by decide) fl_X8_init_16 rfl rfl rfl rfl rfl (Nat.le_of_ble_eq_true rfl) rfl ?_
  refine g_aload_n F dX8_init_26 rfl 0 rfl ?_
  refine g_new F (C := RX7) (T := TX7) (N := 6) (ci := 7) (fs := f0_X7) hn_X8_init_X7 tyX7 tyX7_ok dX8_init_27 rfl ne_X8_init_X7.1 ne_X8_init_X7.2.1 ne_X8_init_X7.2.2.1 (by decide) (by decide) (fun r2 => ?_)
  refine g_dup F dX8_init_30 rfl ?_
  refine g_callIN F (st := [.ref r2, .ref q]) [] (ok_X7_init (gl G) (gD G) cy r2) dX8_init_31 gX8_init_X7_init_n21 rfl rfl ne_X8_init_X7.2.2.1 ne_X8_init_X7.2.2.2 rfl (fun U h => h.1) cd_X7_init (by decide) rfl (Nat.le_of_ble_eq_true rfl) [3] (by decide) rfl (fun cs hX => ?_)
  obtain ⟨a2, rfl, rfl⟩ := hX
  refine ⟨rfl, ?_⟩
  refine g_putF F Rq (C := RX8) (T := TX8) (N := 11) (ci := 8) (v := .ref (a2 0)) (sg' := [[(q, .inr (8, [.ref (a0 0), .ref (a1 0), .ref (a2 0), .null, .null, .null, .null, .null, .null, .null, .null]))], sNet cy a0 N0, sNet cy a1 N1, sTxt cy a2 (z0, z0)]) hi_X8_init_X8 tyX8 tyX8_ok nmX8 0 0 2 dX8_init_34 rfl rfl (by decide) fl_X8_init_22 rfl rfl rfl rfl rfl (Nat.le_of_ble_eq_true rfl) rfl ?_
  refine g_aload_n F dX8_init_37 rfl 0 rfl ?_
  refine g_new F (C := RX0) (T := TX0) (N := 3) (ci := 0) (fs := f0_X0) hn_X8_init_X0 tyX0 tyX0_ok dX8_init_38 rfl ne_X8_init_X0.1 ne_X8_init_X0.2.1 ne_X8_init_X0.2.2.1 (by decide) (by decide) (fun r3 => ?_)
  refine g_dup F dX8_init_41 rfl ?_
  refine g_callIN F (st := [.ref r3, .ref q]) [] (ok_X0_init (gl G) (gD G) cy r3) dX8_init_42 gX8_init_X0_init_n28 rfl rfl ne_X8_init_X0.2.2.1 ne_X8_init_X0.2.2.2 rfl (fun U h => h.2.1) cd_X0_init (by decide) rfl (Nat.le_of_ble_eq_true rfl) [4] (by decide) rfl (fun cs hX => ?_)
  obtain ⟨a3, rfl, rfl⟩ := hX
  refine ⟨rfl, ?_⟩
  refine g_putF F Rq (C := RX8) (T := TX8) (N := 11) (ci := 8) (v := .ref (a3 0)) (sg' := [[(q, .inr (8, [.ref (a0 0), .ref (a1 0), .ref (a2 0), .ref (a3 0), .null, .null, .null, .null, .null, .null, .null]))], sNet cy a0 N0, sNet cy a1 N1, sTxt cy a2 (z0, z0), sLst cy a3 (0, z0, z0)]) hi_X8_init_X8 tyX8 tyX8_ok nmX8 0 0 3 dX8_init_45 rfl rfl (by decide) fl_X8_init_29 rfl rfl rfl rfl rfl (Nat.le_of_ble_eq_true rfl) rfl ?_
  refine g_aload_n F dX8_init_48 rfl 0 rfl ?_
  refine g_new F (C := RX4) (T := TX4) (N := 2) (ci := 4) (fs := f0_X4) hn_X8_init_X4 tyX4 tyX4_ok dX8_init_49 rfl ne_X8_init_X4.1 ne_X8_init_X4.2.1 ne_X8_init_X4.2.2.1 (by decide) (by decide) (fun r4 => ?_)
  refine g_dup F dX8_init_52 rfl ?_
  refine g_callI F (st := [.ref r4, .ref q]) [] (ok_X4_init (gl G) (gD G) cy r4) dX8_init_53 gX8_init_X4_init rfl rfl ne_X8_init_X4.2.2.1 nl_X8_init_X4 ne_X8_init_X4.2.2.2 rfl cd_X4_init (by decide) rfl (Nat.le_of_ble_eq_true rfl) [5] (by decide) rfl (fun cs hX => ?_)
  obtain ⟨a4, pool, rfl, rfl⟩ := hX
  refine ⟨rfl, ?_⟩
  refine g_putF F Rq (C := RX8) (T := TX8) (N := 11) (ci := 8) (v := .ref (a4 0)) (sg' := [[(q, .inr (8, [.ref (a0 0), .ref (a1 0), .ref (a2 0), .ref (a3 0), .ref (a4 0), .null, .null, .null, .null, .null, .null]))], sNet cy a0 N0, sNet cy a1 N1, sTxt cy a2 (z0, z0), sLst cy a3 (0, z0, z0), sPst cy a4 (0, ix0, pool)]) hi_X8_init_X8 tyX8 tyX8_ok nmX8 0 0 4 dX8_init_56 rfl rfl (by decide) fl_X8_init_36 rfl rfl rfl rfl rfl (Nat.le_of_ble_eq_true rfl) rfl ?_
  refine g_aload_n F dX8_init_59 rfl 0 rfl ?_
  refine g_new F (C := RX2) (T := TX2) (N := 3) (ci := 2) (fs := f0_X2) hn_X8_init_X2 tyX2 tyX2_ok dX8_init_60 rfl ne_X8_init_X2.1 ne_X8_init_X2.2.1 ne_X8_init_X2.2.2.1 (by decide) (by decide) (fun r5 => ?_)
  refine g_dup F dX8_init_63 rfl ?_
  refine g_callIN F (st := [.ref r5, .ref q]) [] (ok_X2_init (gl G) (gD G) cy r5) dX8_init_64 gX8_init_X2_init_n42 rfl rfl ne_X8_init_X2.2.2.1 ne_X8_init_X2.2.2.2 rfl (fun U h => h.2.2.1) cd_X2_init (by decide) rfl (Nat.le_of_ble_eq_true rfl) [6] (by decide) rfl (fun cs hX => ?_)
  obtain ⟨a5, rfl, rfl⟩ := hX
  refine ⟨rfl, ?_⟩
  refine g_putF F Rq (C := RX8) (T := TX8) (N := 11) (ci := 8) (v := .ref (a5 0)) (sg' := [[(q, .inr (8, [.ref (a0 0), .ref (a1 0), .ref (a2 0), .ref (a3 0), .ref (a4 0), .ref (a5 0), .null, .null, .null, .null, .null]))], sNet cy a0 N0, sNet cy a1 N1, sTxt cy a2 (z0, z0), sLst cy a3 (0, z0, z0), sPst cy a4 (0, ix0, pool), sLap cy a5 (0, z0, z0)]) hi_X8_init_X8 tyX8 tyX8_ok nmX8 0 0 5 dX8_init_67 rfl rfl (by decide) fl_X8_init_43 rfl rfl rfl rfl rfl (Nat.le_of_ble_eq_true rfl) rfl ?_
  refine g_aload_n F dX8_init_70 rfl 0 rfl ?_
  refine g_new F (C := RX5) (T := TX5) (N := 6) (ci := 5) (fs := f0_X5) hn_X8_init_X5 tyX5 tyX5_ok dX8_init_71 rfl ne_X8_init_X5.1 ne_X8_init_X5.2.1 ne_X8_init_X5.2.2.1 (by decide) (by decide) (fun r6 => ?_)
  refine g_dup F dX8_init_74 rfl ?_
  refine g_callIN F (st := [.ref r6, .ref q]) [] (ok_X5_init (gl G) (gD G) cy r6) dX8_init_75 gX8_init_X5_init_n49 rfl rfl ne_X8_init_X5.2.2.1 ne_X8_init_X5.2.2.2 rfl (fun U h => h.2.2.2.1) cd_X5_init (by decide) rfl (Nat.le_of_ble_eq_true rfl) [7] (by decide) rfl (fun cs hX => ?_)
  obtain ⟨a6, rfl, rfl⟩ := hX
  refine ⟨rfl, ?_⟩
  refine g_putF F Rq (C := RX8) (T := TX8) (N := 11) (ci := 8) (v := .ref (a6 0)) (sg' := [[(q, .inr (8, [.ref (a0 0), .ref (a1 0), .ref (a2 0), .ref (a3 0), .ref (a4 0), .ref (a5 0), .ref (a6 0), .null, .null, .null, .null]))], sNet cy a0 N0, sNet cy a1 N1, sTxt cy a2 (z0, z0), sLst cy a3 (0, z0, z0), sPst cy a4 (0, ix0, pool), sLap cy a5 (0, z0, z0), sSgt cy a6 (z0, z0)]) hi_X8_init_X8 tyX8 tyX8_ok nmX8 0 0 6 dX8_init_78 rfl rfl (by decide) fl_X8_init_50 rfl rfl rfl rfl rfl (Nat.le_of_ble_eq_true rfl) rfl ?_
  refine g_aload_n F dX8_init_81 rfl 0 rfl ?_
  refine g_new F (C := RX6) (T := TX6) (N := 3) (ci := 6) (fs := f0_X6) hn_X8_init_X6 tyX6 tyX6_ok dX8_init_82 rfl ne_X8_init_X6.1 ne_X8_init_X6.2.1 ne_X8_init_X6.2.2.1 (by decide) (by decide) (fun r7 => ?_)
  refine g_dup F dX8_init_85 rfl ?_
  refine g_callIN F (st := [.ref r7, .ref q]) [] (ok_X6_init (gl G) (gD G) cy r7) dX8_init_86 gX8_init_X6_init_n56 rfl rfl ne_X8_init_X6.2.2.1 ne_X8_init_X6.2.2.2 rfl (fun U h => h.2.2.2.2.1) cd_X6_init (by decide) rfl (Nat.le_of_ble_eq_true rfl) [8] (by decide) rfl (fun cs hX => ?_)
  obtain ⟨a7, N7, rfl, rfl⟩ := hX
  refine ⟨rfl, ?_⟩
  refine g_putF F Rq (C := RX8) (T := TX8) (N := 11) (ci := 8) (v := .ref (a7 0)) (sg' := [[(q, .inr (8, [.ref (a0 0), .ref (a1 0), .ref (a2 0), .ref (a3 0), .ref (a4 0), .ref (a5 0), .ref (a6 0), .ref (a7 0), .null, .null, .null]))], sNet cy a0 N0, sNet cy a1 N1, sTxt cy a2 (z0, z0), sLst cy a3 (0, z0, z0), sPst cy a4 (0, ix0, pool), sLap cy a5 (0, z0, z0), sSgt cy a6 (z0, z0), [sTal cy a7 (0, zJ), sNet cy (fun k => a7 (200 + k)) N7].flatten]) hi_X8_init_X8 tyX8 tyX8_ok nmX8 0 0 7 dX8_init_89 rfl rfl (by decide) fl_X8_init_57 rfl rfl rfl rfl rfl (Nat.le_of_ble_eq_true rfl) rfl ?_
  refine g_aload_n F dX8_init_92 rfl 0 rfl ?_
  refine g_new F (C := RX1) (T := TX1) (N := 1) (ci := 1) (fs := f0_X1) hn_X8_init_X1 tyX1 tyX1_ok dX8_init_93 rfl ne_X8_init_X1.1 ne_X8_init_X1.2.1 ne_X8_init_X1.2.2.1 (by decide) (by decide) (fun r8 => ?_)
  refine g_dup F dX8_init_96 rfl ?_
  refine g_callIN F (st := [.ref r8, .ref q]) [] (ok_X1_init (gl G) (gD G) cy r8) dX8_init_97 gX8_init_X1_init_n63 rfl rfl ne_X8_init_X1.2.2.1 ne_X8_init_X1.2.2.2 rfl (fun U h => h.2.2.2.2.2.1) cd_X1_init (by decide) rfl (Nat.le_of_ble_eq_true rfl) [9] (by decide) rfl (fun cs hX => ?_)
  obtain ⟨a8, rfl, rfl⟩ := hX
  refine ⟨rfl, ?_⟩
  refine g_putF F Rq (C := RX8) (T := TX8) (N := 11) (ci := 8) (v := .ref (a8 0)) (sg' := [[(q, .inr (8, [.ref (a0 0), .ref (a1 0), .ref (a2 0), .ref (a3 0), .ref (a4 0), .ref (a5 0), .ref (a6 0), .ref (a7 0), .ref (a8 0), .null, .null]))], sNet cy a0 N0, sNet cy a1 N1, sTxt cy a2 (z0, z0), sLst cy a3 (0, z0, z0), sPst cy a4 (0, ix0, pool), sLap cy a5 (0, z0, z0), sSgt cy a6 (z0, z0), [sTal cy a7 (0, zJ), sNet cy (fun k => a7 (200 + k)) N7].flatten, sCal cy a8 z0]) hi_X8_init_X8 tyX8 tyX8_ok nmX8 0 0 8 dX8_init_100 rfl rfl (by decide) fl_X8_init_64 rfl rfl rfl rfl rfl (Nat.le_of_ble_eq_true rfl) rfl ?_
  refine g_aload_n F dX8_init_103 rfl 0 rfl ?_
  refine g_iconst F (v := (2 : Int32)) dX8_init_104 (by decide) ?_
  refine g_anew F (N := 2) dX8_init_105 ne_X8_init_X3.1 (by decide) (by decide) (by decide) (by decide) (fun p => ?_)
  refine g_putF F Rq (C := RX8) (T := TX8) (N := 11) (ci := 8) (v := .ref p) (sg' := [[(q, .inr (8, [.ref (a0 0), .ref (a1 0), .ref (a2 0), .ref (a3 0), .ref (a4 0), .ref (a5 0), .ref (a6 0), .ref (a7 0), .ref (a8 0), .ref p, .null]))], sNet cy a0 N0, sNet cy a1 N1, sTxt cy a2 (z0, z0), sLst cy a3 (0, z0, z0), sPst cy a4 (0, ix0, pool), sLap cy a5 (0, z0, z0), sSgt cy a6 (z0, z0), [sTal cy a7 (0, zJ), sNet cy (fun k => a7 (200 + k)) N7].flatten, sCal cy a8 z0, [(p, .inl (cy 3, 2, .inr (.inr (.inr (.inr (fun _ => none))))))]]) hi_X8_init_X8 tyX8 tyX8_ok nmX8 0 0 9 dX8_init_108 rfl rfl (by decide) fl_X8_init_68 rfl rfl rfl rfl rfl (Nat.le_of_ble_eq_true rfl) rfl ?_
  refine g_aload_n F dX8_init_111 rfl 0 rfl ?_
  refine g_iconst F (v := (2 : Int32)) dX8_init_112 (by decide) ?_
  refine g_newa F (N := 2) (t0 := 2) (ty := .boolean) (a0 := (2, .inl z0)) dX8_init_113 na_X8_init_boolean rfl rfl va_RA_z (fun _ => rfl) (by decide) (by decide) (by decide) (by decide) (fun kp => ?_)
  refine g_putF F Rq (C := RX8) (T := TX8) (N := 11) (ci := 8) (v := .ref kp) (sg' := [[(q, .inr (8, [.ref (a0 0), .ref (a1 0), .ref (a2 0), .ref (a3 0), .ref (a4 0), .ref (a5 0), .ref (a6 0), .ref (a7 0), .ref (a8 0), .ref p, .ref kp]))], sNet cy a0 N0, sNet cy a1 N1, sTxt cy a2 (z0, z0), sLst cy a3 (0, z0, z0), sPst cy a4 (0, ix0, pool), sLap cy a5 (0, z0, z0), sSgt cy a6 (z0, z0), [sTal cy a7 (0, zJ), sNet cy (fun k => a7 (200 + k)) N7].flatten, sCal cy a8 z0, [(p, .inl (cy 3, 2, .inr (.inr (.inr (.inr (fun _ => none))))))], [(kp, .inl (cy 2, 2, .inl z0))]]) hi_X8_init_X8 tyX8 tyX8_ok nmX8 0 0 10 dX8_init_115 rfl rfl (by decide) fl_X8_init_72 rfl rfl rfl rfl rfl (Nat.le_of_ble_eq_true rfl) rfl ?_
  refine g_iconst F (v := (0 : Int32)) dX8_init_118 (by decide) ?_
  refine g_istore_n F (lv' := [(1, .int (0 : Int32)), (0, .ref q)]) dX8_init_119 rfl (by decide) rfl ?_
  refine g_iload_n F dX8_init_120 rfl 0 rfl ?_
  refine g_iconst F (v := (2 : Int32)) dX8_init_121 (by decide) ?_
  refine g_ge_f F 144 (by decide) dX8_init_122 rfl ?_
  refine g_aload_n F dX8_init_125 rfl 1 rfl ?_
  refine g_get F (C := RX8) (T := TX8) (N := 11) (ci := 8) (v := .ref p) hi_X8_init_X8 0 0 9 dX8_init_126 rfl rfl (by decide) fl_X8_init_68 rfl ?_
  refine g_iload_n F dX8_init_129 rfl 0 rfl ?_
  refine g_new F (C := RX3) (T := TX3) (N := 7) (ci := 3) (fs := f0_X3) hn_X8_init_X3 tyX3 tyX3_ok dX8_init_130 rfl ne_X8_init_X3.1 ne_X8_init_X3.2.1 ne_X8_init_X3.2.2.1 (by decide) (by decide) (fun s0 => ?_)
  refine g_dup F dX8_init_133 rfl ?_
  refine g_callI F (st := [.ref s0, .int (0 : Int32), .ref p]) [] (ok_X3_init (gl G) (gD G) cy s0) dX8_init_134 gX8_init_X3_init rfl rfl ne_X8_init_X3.2.2.1 nl_X8_init_X3 ne_X8_init_X3.2.2.2 rfl cd_X3_init (by decide) rfl (Nat.le_of_ble_eq_true rfl) [12] (by decide) rfl (fun cs hX => ?_)
  obtain ⟨b0, I0, rfl, rfl, -⟩ := hX
  refine ⟨rfl, ?_⟩
  refine g_aast F (x := (0 : Int32)) (vs := [.int I0.1, .int I0.2.1, .ref (b0 3), .ref (b0 4), .ref (b0 5), .ref (b0 6), .ref (b0 7)]) (sg' := [[(q, .inr (8, [.ref (a0 0), .ref (a1 0), .ref (a2 0), .ref (a3 0), .ref (a4 0), .ref (a5 0), .ref (a6 0), .ref (a7 0), .ref (a8 0), .ref p, .ref kp]))], sNet cy a0 N0, sNet cy a1 N1, sTxt cy a2 (z0, z0), sLst cy a3 (0, z0, z0), sPst cy a4 (0, ix0, pool), sLap cy a5 (0, z0, z0), sSgt cy a6 (z0, z0), [sTal cy a7 (0, zJ), sNet cy (fun k => a7 (200 + k)) N7].flatten, sCal cy a8 z0, [(p, .inl (cy 3, 2, .inr (.inr (.inr (.inr (va_up (fun _ => none) 0 (some (b0 0))))))))], [(kp, .inl (cy 2, 2, .inl z0))], sNet cy b0 I0]) 10 0 (show ¬ ((0 : Int32) < 0 ∨ 2 ≤ (0 : Int32).toNatClampNeg) by decide) dX8_init_137 rfl (List.mem_flatten.mpr ⟨sNet cy b0 I0, List.mem_of_getElem? (i := 12) rfl, List.mem_cons_self⟩) rfl ?_
  refine g_iinc F (v := (1 : Int32)) (lv' := [(1, .int (1 : Int32)), (0, .ref q)]) dX8_init_138 0 rfl (by decide) (by decide) rfl ?_
  refine g_goto F 120 dX8_init_141 rfl ?_
  refine g_iload_n F dX8_init_120 rfl 0 rfl ?_
  refine g_iconst F (v := (2 : Int32)) dX8_init_121 (by decide) ?_
  refine g_ge_f F 144 (by decide) dX8_init_122 rfl ?_
  refine g_aload_n F dX8_init_125 rfl 1 rfl ?_
  refine g_get F (C := RX8) (T := TX8) (N := 11) (ci := 8) (v := .ref p) hi_X8_init_X8 0 0 9 dX8_init_126 rfl rfl (by decide) fl_X8_init_68 rfl ?_
  refine g_iload_n F dX8_init_129 rfl 0 rfl ?_
  refine g_new F (C := RX3) (T := TX3) (N := 7) (ci := 3) (fs := f0_X3) hn_X8_init_X3 tyX3 tyX3_ok dX8_init_130 rfl ne_X8_init_X3.1 ne_X8_init_X3.2.1 ne_X8_init_X3.2.2.1 (by decide) (by decide) (fun s1 => ?_)
  refine g_dup F dX8_init_133 rfl ?_
  refine g_callI F (st := [.ref s1, .int (1 : Int32), .ref p]) [] (ok_X3_init (gl G) (gD G) cy s1) dX8_init_134 gX8_init_X3_init rfl rfl ne_X8_init_X3.2.2.1 nl_X8_init_X3 ne_X8_init_X3.2.2.2 rfl cd_X3_init (by decide) rfl (Nat.le_of_ble_eq_true rfl) [13] (by decide) rfl (fun cs hX => ?_)
  obtain ⟨b1, I1, rfl, rfl, -⟩ := hX
  refine ⟨rfl, ?_⟩
  refine g_aast F (x := (1 : Int32)) (vs := [.int I1.1, .int I1.2.1, .ref (b1 3), .ref (b1 4), .ref (b1 5), .ref (b1 6), .ref (b1 7)]) (sg' := [[(q, .inr (8, [.ref (a0 0), .ref (a1 0), .ref (a2 0), .ref (a3 0), .ref (a4 0), .ref (a5 0), .ref (a6 0), .ref (a7 0), .ref (a8 0), .ref p, .ref kp]))], sNet cy a0 N0, sNet cy a1 N1, sTxt cy a2 (z0, z0), sLst cy a3 (0, z0, z0), sPst cy a4 (0, ix0, pool), sLap cy a5 (0, z0, z0), sSgt cy a6 (z0, z0), [sTal cy a7 (0, zJ), sNet cy (fun k => a7 (200 + k)) N7].flatten, sCal cy a8 z0, [(p, .inl (cy 3, 2, .inr (.inr (.inr (.inr (va_up (va_up (fun _ => none) 0 (some (b0 0))) 1 (some (b1 0))))))))], [(kp, .inl (cy 2, 2, .inl z0))], sNet cy b0 I0, sNet cy b1 I1]) 10 0 (show ¬ ((1 : Int32) < 0 ∨ 2 ≤ (1 : Int32).toNatClampNeg) by decide) dX8_init_137 rfl (List.mem_flatten.mpr ⟨sNet cy b1 I1, List.mem_of_getElem? (i := 13) rfl, List.mem_cons_self⟩) rfl ?_
  refine g_iinc F (v := (2 : Int32)) (lv' := [(1, .int (2 : Int32)), (0, .ref q)]) dX8_init_138 0 rfl (by decide) (by decide) rfl ?_
  refine g_goto F 120 dX8_init_141 rfl ?_
  refine g_iload_n F dX8_init_120 rfl 0 rfl ?_
  refine g_iconst F (v := (2 : Int32)) dX8_init_121 (by decide) ?_
  refine g_ge_t F 144 (by decide) dX8_init_122 rfl ?_
  obtain ⟨ao, eao⟩ : ∃ ao : Nat → Nat, ao = (fun k => if k = 0 then q else if k = 10 then p else if k = 11 then kp else if k < 20000 then a0 (k - 10000) else if k < 30000 then a1 (k - 20000) else if k < 40000 then a2 (k - 30000) else if k < 50000 then a3 (k - 40000) else if k < 60000 then a4 (k - 50000) else if k < 70000 then a5 (k - 60000) else if k < 80000 then a6 (k - 70000) else if k < 90000 then a7 (k - 80000) else if k < 100000 then a8 (k - 90000) else if k < 100100 then b0 (k - 100000) else b1 (k - 100100)) := ⟨_, rfl⟩
  refine Go.refs (cy := cy) (f' := fun k => if k = 0 then some (ao 100000) else some (ao 100100)) (sg' := [[(q, .inr (8, [.ref (a0 0), .ref (a1 0), .ref (a2 0), .ref (a3 0), .ref (a4 0), .ref (a5 0), .ref (a6 0), .ref (a7 0), .ref (a8 0), .ref p, .ref kp]))], sNet cy a0 N0, sNet cy a1 N1, sTxt cy a2 (z0, z0), sLst cy a3 (0, z0, z0), sPst cy a4 (0, ix0, pool), sLap cy a5 (0, z0, z0), sSgt cy a6 (z0, z0), [sTal cy a7 (0, zJ), sNet cy (fun k => a7 (200 + k)) N7].flatten, sCal cy a8 z0, [(p, .inl (cy 3, 2, .inr (.inr (.inr (.inr (fun k => if k = 0 then some (ao 100000) else some (ao 100100)))))))], [(kp, .inl (cy 2, 2, .inl z0))], sNet cy b0 I0, sNet cy b1 I1]) 10 0 rfl (fun k hk => ?_) rfl ?_
  · rw [eao]
    rcases (show k = 0 ∨ k = 1 by omega) with z | z <;> subst z <;> rfl
  refine Go.refs (cy := cy) (hh := a4 2) (n := 10) (f := fun i => some (a4 (1000 + 10 * ix0 i))) (f' := fun i => some (ao (50000 + (1000 + 10 * ix0 i)))) 5 1 rfl (fun k hk => ?_) rfl ?_
  · rw [eao]
    rcases (show k = 0 ∨ k = 1 ∨ k = 2 ∨ k = 3 ∨ k = 4 ∨ k = 5 ∨ k = 6 ∨ k = 7 ∨ k = 8 ∨ k = 9 by omega) with z | z | z | z | z | z | z | z | z | z <;> subst z <;> rfl
  refine Go.world (sg' := aoW cy ao N0 N1 (z0, z0) (0, z0, z0) (0, ix0, pool) (0, z0, z0) (z0, z0) (0, zJ) N7 z0 I0 I1 z0) (by rw [eao]; rfl) ?_
  refine Go.world (flat1 _) ?_
  exact g_vret F Rq ⟨ao, N0, N1, pool, N7, I0, I1, by rw [eao]; rfl, rfl, h0⟩ dX8_init_144
