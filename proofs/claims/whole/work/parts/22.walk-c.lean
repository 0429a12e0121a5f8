abbrev rm_X1_work (d : Nat) : Room := { frames := d + 2, cells := 0, slots := 0, locals := 60 * d + 120 }
theorem ns_X1_work_X8_holdsBit : Cond.static yX8_holdsBit ∈ wsX1_work ∧ Cond.initialized yX8_holdsBit.cls ∈ wsX1_work := by decide +kernel
theorem mm_X1_work_min : Cond.methodLink RX1 36 Lib.Math.min.name ∈ wsX1_work ∧ Cond.static Lib.Math.min.name ∈ wsX1_work ∧ Cond.initialized "java/lang/Math" ∈ wsX1_work ∧ Cond.code Lib.Math.min.name Lib.Math.min.code 2 (some .int) ∈ wsX1_work := by decide +kernel
set_option maxHeartbeats 4000000 in
set_option maxRecDepth 100000 in
theorem k_X1_work_20_ok {G : GX} {cy : Nat → ClassId} (h0 : Nat) (rc : (Nat → Int32) → Int32 → Int32 → Int32 → Int32 → Int32 → Option (Nat → Int32)) (d : Nat) (x1 : Int32) (x2 : Int32) (x4 : Int32) (x5 : Int32)  {out : (Nat → Int32)} (hrc : ∀ (A0 : Nat → Int32) (x1 x2 x3 x4 x5 : Int32) (o : Nat → Int32), rc A0 x1 x2 x3 x4 x5 = some o → OK (gl G) (gD G) cy yX1_work wsX1_work (rm_X1_work d) [.ref h0, .int x1, .int x2, .int x3, .int x4, .int x5] [(sI cy h0 4096 A0)] none [(sI cy h0 4096 o)]) (F : Fx G cX1_work wsX1_work RX1 cy 7 (rm_X1_work (d + 1))) (Rq : Rx G "work" none none (fun z => z = [(sI cy h0 4096 out)]) 0 0) (ke : (Nat → Int32) → Option ((Nat → Int32))) (hke : ∀  (A0 : (Nat → Int32)), ke A0 = some out → Go G 0 0 63 [] [] [(sI cy h0 4096 A0)]) : ∀ (n : Nat) (x6 : Int32) (A0 : (Nat → Int32)), k_X1_work_20 rc x1 x2 x4 x5 ke n x6 A0 = some out → Go G 0 0 20 [(0, .ref h0), (1, .int x1), (2, .int x2), (4, .int x4), (5, .int x5), (6, .int x6)] [] [(sI cy h0 4096 A0)] := by
  intro n
  induction n with
  | zero =>
    intro x6 A0 h
    exact nosome h
  | succ n ih =>
    intro x6 A0 h
    rw [k_X1_work_20.eq_2] at h
    refine g_iload F dX1_work_20 5 rfl ?_
    refine g_bipush F (v := (12 : Int32)) dX1_work_22 (by decide) ?_
    refine g_icmp_ge F 63 h dX1_work_24 (by decide) (fun h => ?_) (fun h => ?_)
    · refine Go.sub (lv' := []) [] rfl ?_
      exact hke A0 h
    · refine g_iload_n F dX1_work_27 rfl 2 rfl ?_
      refine g_iload F dX1_work_28 5 rfl ?_
      obtain ⟨r1, hr1, h⟩ := bnd h
      refine g_cSN F [.int x2, .int x6] (ok_X8_holdsBit (gl G) (gD G) cy x2 x6 r1 hr1) dX1_work_30 gX1_work_X8_holdsBit_n46 ns_X1_work_X8_holdsBit (fun _ h => h.2.2.2.2.2.2.2.1) rfl cd_X8_holdsBit ⟨rfl, rfl, by simp only [rm_X1_work, rm_X8_holdsBit]; omega, by simp only [rm_X1_work, rm_X8_holdsBit]; omega, Nat.zero_le _, Nat.zero_le _⟩ rfl (Nat.le_of_ble_eq_true rfl) [] (by decide) rfl rfl (sg' := [(sI cy h0 4096 A0)]) (st' := [.int r1]) rfl rfl ?_
      refine g_if_eq F 57 h dX1_work_33 (by decide) (fun h => ?_) (fun h => ?_)
      · refine g_iinc F (v := (x6 + 1)) (lv' := [(6, .int (x6 + 1)), (0, .ref h0), (1, .int x1), (2, .int x2), (4, .int x4), (5, .int x5)]) dX1_work_57 5 rfl rfl (by decide) rfl ?_
        refine g_goto F 20 dX1_work_60 (by decide) ?_
        refine Go.sub (lv' := [(0, .ref h0), (1, .int x1), (2, .int x2), (4, .int x4), (5, .int x5), (6, .int (x6 + 1))]) [1, 2, 3, 4, 5, 0] rfl ?_
        exact ih (x6 + 1) A0 h
      · refine g_aload_n F dX1_work_36 rfl 0 rfl ?_
        refine g_iload_n F dX1_work_37 rfl 1 rfl ?_
        refine g_iconst F (v := (1 : Int32)) dX1_work_38 (by decide) ?_
        refine g_iload F dX1_work_39 5 rfl ?_
        refine g_ishl F dX1_work_41 ?_
        refine g_ior F dX1_work_42 ?_
        refine g_iload_n F dX1_work_43 rfl 2 rfl ?_
        refine g_iload F dX1_work_44 5 rfl ?_
        refine g_iconst F (v := (1 : Int32)) dX1_work_46 (by decide) ?_
        refine g_iadd F dX1_work_47 ?_
        refine g_iload F dX1_work_48 3 rfl ?_
        refine g_iconst F (v := (1 : Int32)) dX1_work_50 (by decide) ?_
        refine g_isub F dX1_work_51 ?_
        refine g_iload F dX1_work_52 4 rfl ?_
        obtain ⟨r2, hr2, h⟩ := bnd h
        refine g_cS F [.ref h0, .int (x1 ||| ((1 : Int32) <<< (x6 &&& 31))), .int x2, .int (x6 + (1 : Int32)), .int (x4 - (1 : Int32)), .int x5] (hrc A0 (x1 ||| ((1 : Int32) <<< (x6 &&& 31))) x2 (x6 + (1 : Int32)) (x4 - (1 : Int32)) x5 r2 hr2) dX1_work_54 gX1_work_X1_work rfl cd_X1_work ⟨rfl, rfl, by simp only [rm_X1_work, rm_X8_holdsBit]; omega, by simp only [rm_X1_work, rm_X8_holdsBit]; omega, Nat.zero_le _, Nat.zero_le _⟩ rfl (Nat.le_of_ble_eq_true rfl) [0] (by decide) rfl rfl (sg' := [(sI cy h0 4096 r2)]) (st' := []) rfl rfl ?_
        refine g_iinc F (v := (x6 + 1)) (lv' := [(6, .int (x6 + 1)), (0, .ref h0), (1, .int x1), (2, .int x2), (4, .int x4), (5, .int x5)]) dX1_work_57 5 rfl rfl (by decide) rfl ?_
        refine g_goto F 20 dX1_work_60 (by decide) ?_
        refine Go.sub (lv' := [(0, .ref h0), (1, .int x1), (2, .int x2), (4, .int x4), (5, .int x5), (6, .int (x6 + 1))]) [1, 2, 3, 4, 5, 0] rfl ?_
        exact ih (x6 + 1) r2 h
set_option maxHeartbeats 4000000 in
set_option maxRecDepth 100000 in
theorem ok_X1_work1 (cy : Nat → ClassId) (h0 : Nat) : ∀ (d : Nat) (l : Launch) (D : va_G) (A0 : Nat → Int32) (x1 x2 x3 x4 x5 : Int32) (out : Nat → Int32), f_X1_work d A0 x1 x2 x3 x4 x5 = some out → OK l D cy yX1_work wsX1_work (rm_X1_work d) [.ref h0, .int x1, .int x2, .int x3, .int x4, .int x5] [(sI cy h0 4096 A0)] none [(sI cy h0 4096 out)] := by
  intro d
  induction d with
  | zero => intro l D A0 x1 x2 x3 x4 x5 out h; exact nosome h
  | succ d ih =>
    intro l D A0 x1 x2 x3 x4 x5 out h
    rw [f_X1_work.eq_2] at h
    refine OKx.of (cc := cX1_work) (maxL := 7) (ret := none) (by decide) rfl (Nat.le_of_ble_eq_true rfl) (fun G F Rq => ?_)
    show Go G 0 0 0 [(0, .ref h0), (1, .int x1), (2, .int x2), (3, .int x3), (4, .int x4), (5, .int x5)] [] [(sI cy h0 4096 A0)]
    replace F : Fx G cX1_work wsX1_work RX1 cy 7 (rm_X1_work (d + 1)) := F
    replace Rq : Rx G "work" none none (fun z => z = [(sI cy h0 4096 out)]) 0 0 := Rq
    refine g_iload F dX1_work_0 4 rfl ?_
    refine g_if_gt F 17 h dX1_work_2 (by decide) (fun h => ?_) (fun h => ?_)
    · refine g_iload_n F dX1_work_17 rfl 3 rfl ?_
      refine g_istore F (lv' := [(6, .int x3), (0, .ref h0), (1, .int x1), (2, .int x2), (3, .int x3), (4, .int x4), (5, .int x5)]) dX1_work_18 (by decide) rfl ?_
      refine Go.sub (lv' := [(0, .ref h0), (1, .int x1), (2, .int x2), (4, .int x4), (5, .int x5), (6, .int x3)]) [1, 2, 3, 5, 6, 0] rfl ?_
      refine k_X1_work_20_ok h0 (f_X1_work d) d x1 x2 x4 x5 (ih (gl G) (gD G)) F Rq _ (fun A0_3 h => ?_) _ x3 A0 h
      obtain rfl := Option.some.inj h
      exact g_vret F Rq rfl dX1_work_63
    · refine g_aload_n F dX1_work_5 rfl 0 rfl ?_
      refine g_iload_n F dX1_work_6 rfl 1 rfl ?_
      refine g_aload_n F dX1_work_7 rfl 0 rfl ?_
      refine g_iload_n F dX1_work_8 rfl 1 rfl ?_
      refine g_iaload F h 0 0 dX1_work_9 rfl (fun h => ?_)
      refine g_iload F dX1_work_10 5 rfl ?_
      refine g_mmin F dX1_work_12 mm_X1_work_min ⟨by simp only [rm_X1_work]; omega, by simp only [rm_X1_work]; exact Nat.le_trans (Nat.le_of_ble_eq_true (m := 120) rfl) (Nat.le_add_left _ _), Nat.zero_le _, Nat.zero_le _⟩ ?_
      refine g_iastore F h (sg' := [(sI cy h0 4096 (upd A0 (x1).toNatClampNeg (imin (A0 (x1).toNatClampNeg) x5)))]) 0 0 dX1_work_15 rfl rfl (fun h => ?_)
      obtain rfl := Option.some.inj h
      exact g_vret F Rq rfl dX1_work_16
theorem ok_X1_work (l : Launch) (D : va_G) (cy : Nat → ClassId) (h0 d : Nat) (A0 : Nat → Int32) (x1 x2 x3 x4 x5 : Int32) (out : Nat → Int32) (h : f_X1_work d A0 x1 x2 x3 x4 x5 = some out) : OK l D cy yX1_work wsX1_work (rm_X1_work d) [.ref h0, .int x1, .int x2, .int x3, .int x4, .int x5] [(sI cy h0 4096 A0)] none [(sI cy h0 4096 out)] := ok_X1_work1 cy h0 d l D A0 x1 x2 x3 x4 x5 out h
theorem hi_X1_fewestDays_X1 : ∀ w ∈ u_ws RX1 TX1 1, w ∈ wsX1_fewestDays := by decide +kernel
theorem fl_X1_fewestDays_9 : Cond.fieldLink RX1 9 "ArcOrder$Calendar" "fewest" "[I" ∈ wsX1_fewestDays := by decide +kernel
theorem mm_X1_fewestDays_min : Cond.methodLink RX1 36 Lib.Math.min.name ∈ wsX1_fewestDays ∧ Cond.static Lib.Math.min.name ∈ wsX1_fewestDays ∧ Cond.initialized "java/lang/Math" ∈ wsX1_fewestDays ∧ Cond.code Lib.Math.min.name Lib.Math.min.code 2 (some .int) ∈ wsX1_fewestDays := by decide +kernel
abbrev rm_X1_fewestDays : Room := { frames := 8, cells := 0, slots := 0, locals := 446 }
set_option maxHeartbeats 4000000 in
set_option maxRecDepth 100000 in
theorem k_X1_fewestDays_24_ok {G : GX} {cy : Nat → ClassId} (a : Nat → Nat) (a1 : Nat → Nat)  (x2 : Int32) (x3 : Int32) (N1 : NetS) {out : Int32 × CalS} (F : Fx G cX1_fewestDays wsX1_fewestDays RX1 cy 7 (rm_X1_fewestDays)) (Rq : Rx G "fewestDays" (some .int) (some (.int out.1)) (fun z => z = [(sCal cy a out.2), (sNet cy a1 N1)]) 0 0) (ke : CalS → Option (Int32 × CalS)) (hke : ∀  (Cc : CalS), ke Cc = some out → Go G 0 0 90 [(0, .ref (a 0)), (3, .int x3)] [] [(sCal cy a Cc), (sNet cy a1 N1)]) : ∀ (n : Nat) (x4 : Int32) (Cc : CalS), k_X1_fewestDays_24 x2 x3 N1 ke n x4 Cc = some out → Go G 0 0 24 [(0, .ref (a 0)), (1, .ref (a1 0)), (2, .int x2), (3, .int x3), (4, .int x4)] [] [(sCal cy a Cc), (sNet cy a1 N1)] := by
  intro n
  induction n with
  | zero =>
    intro x4 Cc h
    exact nosome h
  | succ n ih =>
    intro x4 Cc h
    rw [k_X1_fewestDays_24.eq_2] at h
    refine g_iload F dX1_fewestDays_24 4 rfl ?_
    refine g_iload_n F dX1_fewestDays_26 rfl 3 rfl ?_
    refine g_icmp_ge F 90 h dX1_fewestDays_27 (by decide) (fun h => ?_) (fun h => ?_)
    · refine Go.sub (lv' := [(0, .ref (a 0)), (3, .int x3)]) [0, 3] rfl ?_
      exact hke Cc h
    · refine g_aload_n F dX1_fewestDays_30 rfl 0 rfl ?_
      refine g_get F (C := RX1) (T := TX1) (N := 1) (ci := 1) (v := .ref (a 1)) hi_X1_fewestDays_X1 0 0 0 dX1_fewestDays_31 rfl rfl (by decide) fl_X1_fewestDays_9 rfl ?_
      refine g_iload F dX1_fewestDays_34 4 rfl ?_
      refine g_iaload F h 0 1 dX1_fewestDays_36 rfl (fun h => ?_)
      refine g_bipush F (v := (13 : Int32)) dX1_fewestDays_37 (by decide) ?_
      refine g_icmp_ge F 84 h dX1_fewestDays_39 (by decide) (fun h => ?_) (fun h => ?_)
      · refine g_iinc F (v := (x4 + 1)) (lv' := [(4, .int (x4 + 1)), (0, .ref (a 0)), (1, .ref (a1 0)), (2, .int x2), (3, .int x3)]) dX1_fewestDays_84 4 rfl rfl (by decide) rfl ?_
        refine g_goto F 24 dX1_fewestDays_87 (by decide) ?_
        refine Go.sub (lv' := [(0, .ref (a 0)), (1, .ref (a1 0)), (2, .int x2), (3, .int x3), (4, .int (x4 + 1))]) [1, 2, 3, 4, 0] rfl ?_
        exact ih (x4 + 1) Cc h
      · refine g_aload_n F dX1_fewestDays_42 rfl 1 rfl ?_
        refine g_iload F dX1_fewestDays_43 4 rfl ?_
        obtain ⟨r3, hr3, h⟩ := bnd h
        refine g_cV F [.int x4] 0 0 (ok_X3_allReady (gl G) (gD G) cy a1 N1 x4 r3 hr3) dX1_fewestDays_45 rfl rfl gX1_fewestDays_X3_allReady rfl ⟨rfl, cd_X3_allReady⟩ (by decide) rfl (Nat.le_of_ble_eq_true rfl) [1] (by decide) rfl rfl (sg' := [(sCal cy a Cc), (sNet cy a1 N1)]) (st' := [.int r3]) rfl rfl ?_
        refine g_istore F (lv' := [(5, .int r3), (0, .ref (a 0)), (1, .ref (a1 0)), (2, .int x2), (3, .int x3), (4, .int x4)]) dX1_fewestDays_48 (by decide) rfl ?_
        refine g_iload_n F dX1_fewestDays_50 rfl 3 rfl ?_
        refine g_iload F dX1_fewestDays_51 0 rfl ?_
        obtain ⟨r4, hr4, h⟩ := bnd h
        refine g_cS F [.int r3] (ok_J6_bitCount_0f7a4 (gl G) (gD G) cy r3 r4 hr4) dX1_fewestDays_53 gX1_fewestDays_J6_bitCount_0f7a4 rfl cd_J6_bitCount_0f7a4 (by decide) rfl (Nat.le_of_ble_eq_true rfl) [] (by decide) rfl rfl (sg' := [(sCal cy a Cc), (sNet cy a1 N1)]) (st' := [.int r4, .int x2]) rfl rfl ?_
        refine g_mmin F dX1_fewestDays_56 mm_X1_fewestDays_min ⟨by decide, Nat.le_of_ble_eq_true rfl, by decide, by decide⟩ ?_
        refine g_istore F (lv' := [(6, .int (imin x2 r4)), (5, .int r3), (0, .ref (a 0)), (1, .ref (a1 0)), (2, .int x2), (3, .int x3), (4, .int x4)]) dX1_fewestDays_59 (by decide) rfl ?_
        refine g_aload_n F dX1_fewestDays_61 rfl 2 rfl ?_
        refine g_get F (C := RX1) (T := TX1) (N := 1) (ci := 1) (v := .ref (a 1)) hi_X1_fewestDays_X1 0 0 0 dX1_fewestDays_62 rfl rfl (by decide) fl_X1_fewestDays_9 rfl ?_
        refine g_iload F dX1_fewestDays_65 6 rfl ?_
        refine g_iload F dX1_fewestDays_67 1 rfl ?_
        refine g_iconst F (v := (0 : Int32)) dX1_fewestDays_69 (by decide) ?_
        refine g_iload F dX1_fewestDays_70 0 rfl ?_
        refine g_aload_n F dX1_fewestDays_72 rfl 2 rfl ?_
        refine g_get F (C := RX1) (T := TX1) (N := 1) (ci := 1) (v := .ref (a 1)) hi_X1_fewestDays_X1 0 0 0 dX1_fewestDays_73 rfl rfl (by decide) fl_X1_fewestDays_9 rfl ?_
        refine g_iload F dX1_fewestDays_76 6 rfl ?_
        refine g_iaload F h 0 1 dX1_fewestDays_78 rfl (fun h => ?_)
        refine g_iconst F (v := (1 : Int32)) dX1_fewestDays_79 (by decide) ?_
        refine g_iadd F dX1_fewestDays_80 ?_
        obtain ⟨r5, hr5, h⟩ := bnd h
        refine Go.world (sg' := [(sCal cy a Cc).take 1, (sI cy (a 1) 4096 Cc), (sNet cy a1 N1)]) rfl ?_
        refine g_cS F [.ref (a 1), .int x4, .int r3, .int (0 : Int32), .int (imin x2 r4), .int ((Cc (x4).toNatClampNeg) + (1 : Int32))] (ok_X1_work (gl G) (gD G) cy (a 1) 5 Cc x4 r3 (0 : Int32) (imin x2 r4) ((Cc (x4).toNatClampNeg) + (1 : Int32)) r5 hr5) dX1_fewestDays_81 gX1_fewestDays_X1_work rfl cd_X1_work (by decide) rfl (Nat.le_of_ble_eq_true rfl) [1] (by decide) rfl rfl (sg' := [(sCal cy a r5).take 1, (sI cy (a 1) 4096 r5), (sNet cy a1 N1)]) (st' := []) rfl rfl ?_
        refine Go.world (sg' := [(sCal cy a r5), (sNet cy a1 N1)]) rfl ?_
        refine g_iinc F (v := (x4 + 1)) (lv' := [(4, .int (x4 + 1)), (6, .int (imin x2 r4)), (5, .int r3), (0, .ref (a 0)), (1, .ref (a1 0)), (2, .int x2), (3, .int x3)]) dX1_fewestDays_84 6 rfl rfl (by decide) rfl ?_
        refine g_goto F 24 dX1_fewestDays_87 (by decide) ?_
        refine Go.sub (lv' := [(0, .ref (a 0)), (1, .ref (a1 0)), (2, .int x2), (3, .int x3), (4, .int (x4 + 1))]) [3, 4, 5, 6, 0] rfl ?_
        exact ih (x4 + 1) r5 h
set_option maxHeartbeats 4000000 in
set_option maxRecDepth 100000 in
theorem ok_X1_fewestDays (l : Launch) (D : va_G) (cy : Nat → ClassId) (a : Nat → Nat) (a1 : Nat → Nat)  (Cc : CalS) (N1 : NetS) (x2 : Int32) (out : Int32 × CalS) (h : f_X1_fewestDays Cc N1 x2 = some out) : OK l D cy yX1_fewestDays wsX1_fewestDays rm_X1_fewestDays [.ref (a 0), .ref (a1 0), .int x2] [(sCal cy a Cc), (sNet cy a1 N1)] (some (.int out.1)) [(sCal cy a out.2), (sNet cy a1 N1)] := by
  refine OKx.of (cc := cX1_fewestDays) (maxL := 7) (ret := (some .int)) (by decide) rfl (Nat.le_of_ble_eq_true rfl) (fun G F Rq => ?_)
  show Go G 0 0 0 [(0, .ref (a 0)), (1, .ref (a1 0)), (2, .int x2)] [] [(sCal cy a Cc), (sNet cy a1 N1)]
  replace F : Fx G cX1_fewestDays wsX1_fewestDays RX1 cy 7 (rm_X1_fewestDays) := F
  replace Rq : Rx G "fewestDays" (some .int) (some (.int out.1)) (fun z => z = [(sCal cy a out.2), (sNet cy a1 N1)]) 0 0 := Rq
  unfold f_X1_fewestDays at h
  refine g_aload_n F dX1_fewestDays_0 rfl 0 rfl ?_
  refine g_get F (C := RX1) (T := TX1) (N := 1) (ci := 1) (v := .ref (a 1)) hi_X1_fewestDays_X1 0 0 0 dX1_fewestDays_1 rfl rfl (by decide) fl_X1_fewestDays_9 rfl ?_
  refine g_bipush F (v := (13 : Int32)) dX1_fewestDays_4 (by decide) ?_
  obtain ⟨r1, hr1, h⟩ := bnd h
  refine Go.world (sg' := [(sCal cy a Cc).take 1, (sI cy (a 1) 4096 Cc), (sNet cy a1 N1)]) rfl ?_
  refine g_cS F [.ref (a 1), .int (13 : Int32)] (ok_J7_fill_53178 (gl G) (gD G) cy (a 1) 4096 Cc (13 : Int32) r1 hr1) dX1_fewestDays_6 gX1_fewestDays_J7_fill_53178 rfl cd_J7_fill_53178 (by decide) rfl (Nat.le_of_ble_eq_true rfl) [1] (by decide) rfl rfl (sg' := [(sCal cy a r1).take 1, (sI cy (a 1) 4096 r1), (sNet cy a1 N1)]) (st' := []) rfl rfl ?_
  refine Go.world (sg' := [(sCal cy a r1), (sNet cy a1 N1)]) rfl ?_
  refine g_aload_n F dX1_fewestDays_9 rfl 0 rfl ?_
  refine g_get F (C := RX1) (T := TX1) (N := 1) (ci := 1) (v := .ref (a 1)) hi_X1_fewestDays_X1 0 0 0 dX1_fewestDays_10 rfl rfl (by decide) fl_X1_fewestDays_9 rfl ?_
  refine g_iconst F (v := (0 : Int32)) dX1_fewestDays_13 (by decide) ?_
  refine g_iconst F (v := (0 : Int32)) dX1_fewestDays_14 (by decide) ?_
  refine g_iastore F h (sg' := [(sCal cy a (upd r1 ((0 : Int32)).toNatClampNeg (0 : Int32))), (sNet cy a1 N1)]) 0 1 dX1_fewestDays_15 rfl rfl (fun h => ?_)
  refine g_aload_n F dX1_fewestDays_16 rfl 1 rfl ?_
  obtain ⟨r2, hr2, h⟩ := bnd h
  refine g_cV F [] 0 0 (ok_X3_everyItem (gl G) (gD G) cy a1 N1 r2 hr2) dX1_fewestDays_17 rfl rfl gX1_fewestDays_X3_everyItem rfl ⟨rfl, cd_X3_everyItem⟩ (by decide) rfl (Nat.le_of_ble_eq_true rfl) [1] (by decide) rfl rfl (sg' := [(sCal cy a (upd r1 ((0 : Int32)).toNatClampNeg (0 : Int32))), (sNet cy a1 N1)]) (st' := [.int r2]) rfl rfl ?_
  refine g_istore_n F (lv' := [(3, .int r2), (0, .ref (a 0)), (1, .ref (a1 0)), (2, .int x2)]) dX1_fewestDays_20 rfl (by decide) rfl ?_
  refine g_iconst F (v := (0 : Int32)) dX1_fewestDays_21 (by decide) ?_
  refine g_istore F (lv' := [(4, .int (0 : Int32)), (3, .int r2), (0, .ref (a 0)), (1, .ref (a1 0)), (2, .int x2)]) dX1_fewestDays_22 (by decide) rfl ?_
  refine Go.sub (lv' := [(0, .ref (a 0)), (1, .ref (a1 0)), (2, .int x2), (3, .int r2), (4, .int (0 : Int32))]) [2, 3, 4, 1, 0] rfl ?_
  refine k_X1_fewestDays_24_ok a a1 x2 r2 N1 F Rq _ (fun Cc_6 h => ?_) _ (0 : Int32) (upd r1 ((0 : Int32)).toNatClampNeg (0 : Int32)) h
  refine g_aload_n F dX1_fewestDays_90 rfl 0 rfl ?_
  refine g_get F (C := RX1) (T := TX1) (N := 1) (ci := 1) (v := .ref (a 1)) hi_X1_fewestDays_X1 0 0 0 dX1_fewestDays_91 rfl rfl (by decide) fl_X1_fewestDays_9 rfl ?_
  refine g_iload_n F dX1_fewestDays_94 rfl 1 rfl ?_
  refine g_iaload F h 0 1 dX1_fewestDays_95 rfl (fun h => ?_)
  obtain rfl := Option.some.inj h
  exact g_iret F Rq rfl dX1_fewestDays_96
